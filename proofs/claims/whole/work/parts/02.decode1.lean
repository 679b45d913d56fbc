theorem dX7_keepOfParty_99 : decode cX7_keepOfParty 99 = .ok (.getfield 44, 3) := by decide +kernel
theorem dX7_keepOfParty_102 : decode cX7_keepOfParty 102 = .ok (.iconst 2, 1) := by decide +kernel
theorem dX7_keepOfParty_103 : decode cX7_keepOfParty 103 = .ok (.iaload, 1) := by decide +kernel
theorem dX7_keepOfParty_104 : decode cX7_keepOfParty 104 = .ok (.aload_n 0, 1) := by decide +kernel
theorem dX7_keepOfParty_105 : decode cX7_keepOfParty 105 = .ok (.getfield 44, 3) := by decide +kernel
theorem dX7_keepOfParty_108 : decode cX7_keepOfParty 108 = .ok (.iconst 3, 1) := by decide +kernel
theorem dX7_keepOfParty_109 : decode cX7_keepOfParty 109 = .ok (.iaload, 1) := by decide +kernel
theorem dX7_keepOfParty_110 : decode cX7_keepOfParty 110 = .ok (.invokevirtual 180, 3) := by decide +kernel
theorem dX7_keepOfParty_113 : decode cX7_keepOfParty 113 = .ok (.goto 261, 3) := by decide +kernel
theorem dX7_keepOfParty_116 : decode cX7_keepOfParty 116 = .ok (.aload_n 0, 1) := by decide +kernel
theorem dX7_keepOfParty_117 : decode cX7_keepOfParty 117 = .ok (.getfield 12, 3) := by decide +kernel
theorem dX7_keepOfParty_120 : decode cX7_keepOfParty 120 = .ok (.aload_n 0, 1) := by decide +kernel
theorem dX7_keepOfParty_121 : decode cX7_keepOfParty 121 = .ok (.getfield 44, 3) := by decide +kernel
theorem dX7_keepOfParty_124 : decode cX7_keepOfParty 124 = .ok (.iconst 0, 1) := by decide +kernel
theorem dX7_keepOfParty_125 : decode cX7_keepOfParty 125 = .ok (.iaload, 1) := by decide +kernel
theorem dX7_keepOfParty_126 : decode cX7_keepOfParty 126 = .ok (.aload_n 0, 1) := by decide +kernel
theorem dX7_keepOfParty_127 : decode cX7_keepOfParty 127 = .ok (.getfield 44, 3) := by decide +kernel
theorem dX7_keepOfParty_130 : decode cX7_keepOfParty 130 = .ok (.iconst 1, 1) := by decide +kernel
theorem dX7_keepOfParty_131 : decode cX7_keepOfParty 131 = .ok (.iaload, 1) := by decide +kernel
theorem dX7_keepOfParty_132 : decode cX7_keepOfParty 132 = .ok (.invokevirtual 184, 3) := by decide +kernel
theorem dX7_keepOfParty_135 : decode cX7_keepOfParty 135 = .ok (.aload_n 0, 1) := by decide +kernel
theorem dX7_keepOfParty_136 : decode cX7_keepOfParty 136 = .ok (.dup, 1) := by decide +kernel
theorem dX7_keepOfParty_137 : decode cX7_keepOfParty 137 = .ok (.getfield 79, 3) := by decide +kernel
theorem dX7_keepOfParty_140 : decode cX7_keepOfParty 140 = .ok (.iconst 1, 1) := by decide +kernel
theorem dX7_keepOfParty_141 : decode cX7_keepOfParty 141 = .ok (.aload_n 0, 1) := by decide +kernel
theorem dX7_keepOfParty_142 : decode cX7_keepOfParty 142 = .ok (.getfield 44, 3) := by decide +kernel
theorem dX7_keepOfParty_145 : decode cX7_keepOfParty 145 = .ok (.iconst 0, 1) := by decide +kernel
theorem dX7_keepOfParty_146 : decode cX7_keepOfParty 146 = .ok (.iaload, 1) := by decide +kernel
theorem dX7_keepOfParty_147 : decode cX7_keepOfParty 147 = .ok (.ishl, 1) := by decide +kernel
theorem dX7_keepOfParty_148 : decode cX7_keepOfParty 148 = .ok (.ior, 1) := by decide +kernel
theorem dX7_keepOfParty_149 : decode cX7_keepOfParty 149 = .ok (.putfield 79, 3) := by decide +kernel
theorem dX7_keepOfParty_152 : decode cX7_keepOfParty 152 = .ok (.goto 222, 3) := by decide +kernel
theorem dX7_keepOfParty_155 : decode cX7_keepOfParty 155 = .ok (.aload_n 0, 1) := by decide +kernel
theorem dX7_keepOfParty_156 : decode cX7_keepOfParty 156 = .ok (.getfield 12, 3) := by decide +kernel
theorem dX7_keepOfParty_159 : decode cX7_keepOfParty 159 = .ok (.aload_n 0, 1) := by decide +kernel
theorem dX7_keepOfParty_160 : decode cX7_keepOfParty 160 = .ok (.getfield 44, 3) := by decide +kernel
theorem dX7_keepOfParty_163 : decode cX7_keepOfParty 163 = .ok (.iconst 0, 1) := by decide +kernel
theorem dX7_keepOfParty_164 : decode cX7_keepOfParty 164 = .ok (.iaload, 1) := by decide +kernel
theorem dX7_keepOfParty_165 : decode cX7_keepOfParty 165 = .ok (.aload_n 0, 1) := by decide +kernel
theorem dX7_keepOfParty_166 : decode cX7_keepOfParty 166 = .ok (.getfield 44, 3) := by decide +kernel
theorem dX7_keepOfParty_169 : decode cX7_keepOfParty 169 = .ok (.iconst 1, 1) := by decide +kernel
theorem dX7_keepOfParty_170 : decode cX7_keepOfParty 170 = .ok (.iaload, 1) := by decide +kernel
theorem dX7_keepOfParty_171 : decode cX7_keepOfParty 171 = .ok (.iconst 2, 1) := by decide +kernel
theorem dX7_keepOfParty_172 : decode cX7_keepOfParty 172 = .ok (.invokevirtual 187, 3) := by decide +kernel
theorem dX7_keepOfParty_175 : decode cX7_keepOfParty 175 = .ok (.aload_n 0, 1) := by decide +kernel
theorem dX7_keepOfParty_176 : decode cX7_keepOfParty 176 = .ok (.dup, 1) := by decide +kernel
theorem dX7_keepOfParty_177 : decode cX7_keepOfParty 177 = .ok (.getfield 79, 3) := by decide +kernel
theorem dX7_keepOfParty_180 : decode cX7_keepOfParty 180 = .ok (.iconst 1, 1) := by decide +kernel
theorem dX7_keepOfParty_181 : decode cX7_keepOfParty 181 = .ok (.aload_n 0, 1) := by decide +kernel
theorem dX7_keepOfParty_182 : decode cX7_keepOfParty 182 = .ok (.getfield 44, 3) := by decide +kernel
theorem dX7_keepOfParty_185 : decode cX7_keepOfParty 185 = .ok (.iconst 0, 1) := by decide +kernel
theorem dX7_keepOfParty_186 : decode cX7_keepOfParty 186 = .ok (.iaload, 1) := by decide +kernel
theorem dX7_keepOfParty_187 : decode cX7_keepOfParty 187 = .ok (.ishl, 1) := by decide +kernel
theorem dX7_keepOfParty_188 : decode cX7_keepOfParty 188 = .ok (.iconst 1, 1) := by decide +kernel
theorem dX7_keepOfParty_189 : decode cX7_keepOfParty 189 = .ok (.aload_n 0, 1) := by decide +kernel
theorem dX7_keepOfParty_190 : decode cX7_keepOfParty 190 = .ok (.getfield 44, 3) := by decide +kernel
theorem dX7_keepOfParty_193 : decode cX7_keepOfParty 193 = .ok (.iconst 1, 1) := by decide +kernel
theorem dX7_keepOfParty_194 : decode cX7_keepOfParty 194 = .ok (.iaload, 1) := by decide +kernel
theorem dX7_keepOfParty_195 : decode cX7_keepOfParty 195 = .ok (.ishl, 1) := by decide +kernel
theorem dX7_keepOfParty_196 : decode cX7_keepOfParty 196 = .ok (.ior, 1) := by decide +kernel
theorem dX7_keepOfParty_197 : decode cX7_keepOfParty 197 = .ok (.ior, 1) := by decide +kernel
theorem dX7_keepOfParty_198 : decode cX7_keepOfParty 198 = .ok (.putfield 79, 3) := by decide +kernel
theorem dX7_keepOfParty_201 : decode cX7_keepOfParty 201 = .ok (.goto 173, 3) := by decide +kernel
theorem dX7_keepOfParty_204 : decode cX7_keepOfParty 204 = .ok (.aload_n 0, 1) := by decide +kernel
theorem dX7_keepOfParty_205 : decode cX7_keepOfParty 205 = .ok (.getfield 12, 3) := by decide +kernel
theorem dX7_keepOfParty_208 : decode cX7_keepOfParty 208 = .ok (.aload_n 0, 1) := by decide +kernel
theorem dX7_keepOfParty_209 : decode cX7_keepOfParty 209 = .ok (.getfield 44, 3) := by decide +kernel
theorem dX7_keepOfParty_212 : decode cX7_keepOfParty 212 = .ok (.iconst 0, 1) := by decide +kernel
theorem dX7_keepOfParty_213 : decode cX7_keepOfParty 213 = .ok (.iaload, 1) := by decide +kernel
theorem dX7_keepOfParty_214 : decode cX7_keepOfParty 214 = .ok (.aload_n 0, 1) := by decide +kernel
theorem dX7_keepOfParty_215 : decode cX7_keepOfParty 215 = .ok (.getfield 44, 3) := by decide +kernel
theorem dX7_keepOfParty_218 : decode cX7_keepOfParty 218 = .ok (.iconst 1, 1) := by decide +kernel
theorem dX7_keepOfParty_219 : decode cX7_keepOfParty 219 = .ok (.iaload, 1) := by decide +kernel
theorem dX7_keepOfParty_220 : decode cX7_keepOfParty 220 = .ok (.iconst 0, 1) := by decide +kernel
theorem dX7_keepOfParty_221 : decode cX7_keepOfParty 221 = .ok (.invokevirtual 187, 3) := by decide +kernel
theorem dX7_keepOfParty_224 : decode cX7_keepOfParty 224 = .ok (.aload_n 0, 1) := by decide +kernel
theorem dX7_keepOfParty_225 : decode cX7_keepOfParty 225 = .ok (.dup, 1) := by decide +kernel
theorem dX7_keepOfParty_226 : decode cX7_keepOfParty 226 = .ok (.getfield 79, 3) := by decide +kernel
theorem dX7_keepOfParty_229 : decode cX7_keepOfParty 229 = .ok (.iconst 1, 1) := by decide +kernel
theorem dX7_keepOfParty_230 : decode cX7_keepOfParty 230 = .ok (.aload_n 0, 1) := by decide +kernel
theorem dX7_keepOfParty_231 : decode cX7_keepOfParty 231 = .ok (.getfield 44, 3) := by decide +kernel
theorem dX7_keepOfParty_234 : decode cX7_keepOfParty 234 = .ok (.iconst 0, 1) := by decide +kernel
theorem dX7_keepOfParty_235 : decode cX7_keepOfParty 235 = .ok (.iaload, 1) := by decide +kernel
theorem dX7_keepOfParty_236 : decode cX7_keepOfParty 236 = .ok (.ishl, 1) := by decide +kernel
theorem dX7_keepOfParty_237 : decode cX7_keepOfParty 237 = .ok (.iconst 1, 1) := by decide +kernel
theorem dX7_keepOfParty_238 : decode cX7_keepOfParty 238 = .ok (.aload_n 0, 1) := by decide +kernel
theorem dX7_keepOfParty_239 : decode cX7_keepOfParty 239 = .ok (.getfield 44, 3) := by decide +kernel
theorem dX7_keepOfParty_242 : decode cX7_keepOfParty 242 = .ok (.iconst 1, 1) := by decide +kernel
theorem dX7_keepOfParty_243 : decode cX7_keepOfParty 243 = .ok (.iaload, 1) := by decide +kernel
theorem dX7_keepOfParty_244 : decode cX7_keepOfParty 244 = .ok (.ishl, 1) := by decide +kernel
theorem dX7_keepOfParty_245 : decode cX7_keepOfParty 245 = .ok (.ior, 1) := by decide +kernel
theorem dX7_keepOfParty_246 : decode cX7_keepOfParty 246 = .ok (.ior, 1) := by decide +kernel
theorem dX7_keepOfParty_247 : decode cX7_keepOfParty 247 = .ok (.putfield 79, 3) := by decide +kernel
theorem dX7_keepOfParty_250 : decode cX7_keepOfParty 250 = .ok (.goto 124, 3) := by decide +kernel
theorem dX7_keepOfParty_253 : decode cX7_keepOfParty 253 = .ok (.aload_n 0, 1) := by decide +kernel
theorem dX7_keepOfParty_254 : decode cX7_keepOfParty 254 = .ok (.getfield 12, 3) := by decide +kernel
theorem dX7_keepOfParty_257 : decode cX7_keepOfParty 257 = .ok (.aload_n 0, 1) := by decide +kernel
theorem dX7_keepOfParty_258 : decode cX7_keepOfParty 258 = .ok (.getfield 44, 3) := by decide +kernel
theorem dX7_keepOfParty_261 : decode cX7_keepOfParty 261 = .ok (.iconst 0, 1) := by decide +kernel
theorem dX7_keepOfParty_262 : decode cX7_keepOfParty 262 = .ok (.iaload, 1) := by decide +kernel
theorem dX7_keepOfParty_263 : decode cX7_keepOfParty 263 = .ok (.aload_n 0, 1) := by decide +kernel
theorem dX7_keepOfParty_264 : decode cX7_keepOfParty 264 = .ok (.getfield 44, 3) := by decide +kernel
theorem dX7_keepOfParty_267 : decode cX7_keepOfParty 267 = .ok (.iconst 1, 1) := by decide +kernel
theorem dX7_keepOfParty_268 : decode cX7_keepOfParty 268 = .ok (.iaload, 1) := by decide +kernel
theorem dX7_keepOfParty_269 : decode cX7_keepOfParty 269 = .ok (.invokevirtual 190, 3) := by decide +kernel
theorem dX7_keepOfParty_272 : decode cX7_keepOfParty 272 = .ok (.goto 102, 3) := by decide +kernel
theorem dX7_keepOfParty_275 : decode cX7_keepOfParty 275 = .ok (.aload_n 0, 1) := by decide +kernel
theorem dX7_keepOfParty_276 : decode cX7_keepOfParty 276 = .ok (.getfield 12, 3) := by decide +kernel
theorem dX7_keepOfParty_279 : decode cX7_keepOfParty 279 = .ok (.aload_n 0, 1) := by decide +kernel
theorem dX7_keepOfParty_280 : decode cX7_keepOfParty 280 = .ok (.getfield 44, 3) := by decide +kernel
theorem dX7_keepOfParty_283 : decode cX7_keepOfParty 283 = .ok (.iconst 0, 1) := by decide +kernel
theorem dX7_keepOfParty_284 : decode cX7_keepOfParty 284 = .ok (.iaload, 1) := by decide +kernel
theorem dX7_keepOfParty_285 : decode cX7_keepOfParty 285 = .ok (.aload_n 0, 1) := by decide +kernel
theorem dX7_keepOfParty_286 : decode cX7_keepOfParty 286 = .ok (.getfield 44, 3) := by decide +kernel
theorem dX7_keepOfParty_289 : decode cX7_keepOfParty 289 = .ok (.iconst 1, 1) := by decide +kernel
theorem dX7_keepOfParty_290 : decode cX7_keepOfParty 290 = .ok (.iaload, 1) := by decide +kernel
theorem dX7_keepOfParty_291 : decode cX7_keepOfParty 291 = .ok (.invokevirtual 193, 3) := by decide +kernel
theorem dX7_keepOfParty_294 : decode cX7_keepOfParty 294 = .ok (.goto 80, 3) := by decide +kernel
theorem dX7_keepOfParty_297 : decode cX7_keepOfParty 297 = .ok (.aload_n 0, 1) := by decide +kernel
theorem dX7_keepOfParty_298 : decode cX7_keepOfParty 298 = .ok (.getfield 12, 3) := by decide +kernel
theorem dX7_keepOfParty_301 : decode cX7_keepOfParty 301 = .ok (.aload_n 0, 1) := by decide +kernel
theorem dX7_keepOfParty_302 : decode cX7_keepOfParty 302 = .ok (.getfield 44, 3) := by decide +kernel
theorem dX7_keepOfParty_305 : decode cX7_keepOfParty 305 = .ok (.iconst 0, 1) := by decide +kernel
theorem dX7_keepOfParty_306 : decode cX7_keepOfParty 306 = .ok (.iaload, 1) := by decide +kernel
theorem dX7_keepOfParty_307 : decode cX7_keepOfParty 307 = .ok (.putfield 196, 3) := by decide +kernel
theorem dX7_keepOfParty_310 : decode cX7_keepOfParty 310 = .ok (.goto 64, 3) := by decide +kernel
theorem dX7_keepOfParty_313 : decode cX7_keepOfParty 313 = .ok (.aload_n 0, 1) := by decide +kernel
theorem dX7_keepOfParty_314 : decode cX7_keepOfParty 314 = .ok (.getfield 12, 3) := by decide +kernel
theorem dX7_keepOfParty_317 : decode cX7_keepOfParty 317 = .ok (.aload_n 0, 1) := by decide +kernel
theorem dX7_keepOfParty_318 : decode cX7_keepOfParty 318 = .ok (.getfield 44, 3) := by decide +kernel
theorem dX7_keepOfParty_321 : decode cX7_keepOfParty 321 = .ok (.iconst 0, 1) := by decide +kernel
theorem dX7_keepOfParty_322 : decode cX7_keepOfParty 322 = .ok (.iaload, 1) := by decide +kernel
theorem dX7_keepOfParty_323 : decode cX7_keepOfParty 323 = .ok (.putfield 199, 3) := by decide +kernel
theorem dX7_keepOfParty_326 : decode cX7_keepOfParty 326 = .ok (.goto 48, 3) := by decide +kernel
theorem dX7_keepOfParty_329 : decode cX7_keepOfParty 329 = .ok (.aload_n 0, 1) := by decide +kernel
theorem dX7_keepOfParty_330 : decode cX7_keepOfParty 330 = .ok (.getfield 12, 3) := by decide +kernel
theorem dX7_keepOfParty_333 : decode cX7_keepOfParty 333 = .ok (.aload_n 0, 1) := by decide +kernel
theorem dX7_keepOfParty_334 : decode cX7_keepOfParty 334 = .ok (.getfield 44, 3) := by decide +kernel
theorem dX7_keepOfParty_337 : decode cX7_keepOfParty 337 = .ok (.iconst 0, 1) := by decide +kernel
theorem dX7_keepOfParty_338 : decode cX7_keepOfParty 338 = .ok (.iaload, 1) := by decide +kernel
theorem dX7_keepOfParty_339 : decode cX7_keepOfParty 339 = .ok (.putfield 202, 3) := by decide +kernel
theorem dX7_keepOfParty_342 : decode cX7_keepOfParty 342 = .ok (.goto 32, 3) := by decide +kernel
theorem dX7_keepOfParty_345 : decode cX7_keepOfParty 345 = .ok (.aload_n 0, 1) := by decide +kernel
theorem dX7_keepOfParty_346 : decode cX7_keepOfParty 346 = .ok (.getfield 12, 3) := by decide +kernel
theorem dX7_keepOfParty_349 : decode cX7_keepOfParty 349 = .ok (.aload_n 0, 1) := by decide +kernel
theorem dX7_keepOfParty_350 : decode cX7_keepOfParty 350 = .ok (.getfield 44, 3) := by decide +kernel
theorem dX7_keepOfParty_353 : decode cX7_keepOfParty 353 = .ok (.iconst 0, 1) := by decide +kernel
theorem dX7_keepOfParty_354 : decode cX7_keepOfParty 354 = .ok (.iaload, 1) := by decide +kernel
theorem dX7_keepOfParty_355 : decode cX7_keepOfParty 355 = .ok (.putfield 205, 3) := by decide +kernel
theorem dX7_keepOfParty_358 : decode cX7_keepOfParty 358 = .ok (.goto 16, 3) := by decide +kernel
theorem dX7_keepOfParty_361 : decode cX7_keepOfParty 361 = .ok (.aload_n 0, 1) := by decide +kernel
theorem dX7_keepOfParty_362 : decode cX7_keepOfParty 362 = .ok (.getfield 12, 3) := by decide +kernel
theorem dX7_keepOfParty_365 : decode cX7_keepOfParty 365 = .ok (.aload_n 0, 1) := by decide +kernel
theorem dX7_keepOfParty_366 : decode cX7_keepOfParty 366 = .ok (.getfield 44, 3) := by decide +kernel
theorem dX7_keepOfParty_369 : decode cX7_keepOfParty 369 = .ok (.iconst 0, 1) := by decide +kernel
theorem dX7_keepOfParty_370 : decode cX7_keepOfParty 370 = .ok (.iaload, 1) := by decide +kernel
theorem dX7_keepOfParty_371 : decode cX7_keepOfParty 371 = .ok (.putfield 208, 3) := by decide +kernel
theorem dX7_keepOfParty_374 : decode cX7_keepOfParty 374 = .ok (.return_, 1) := by decide +kernel
theorem dX7_take_0 : decode cX7_take 0 = .ok (.aload_n 1, 1) := by decide +kernel
theorem dX7_take_1 : decode cX7_take 1 = .ok (.getfield 85, 3) := by decide +kernel
theorem dX7_take_4 : decode cX7_take 4 = .ok (.sipush 600, 3) := by decide +kernel
theorem dX7_take_7 : decode cX7_take 7 = .ok (.invokestatic 211, 3) := by decide +kernel
theorem dX7_take_10 : decode cX7_take 10 = .ok (.istore_n 2, 1) := by decide +kernel
theorem dX7_take_11 : decode cX7_take 11 = .ok (.aload_n 0, 1) := by decide +kernel
theorem dX7_take_12 : decode cX7_take 12 = .ok (.aload_n 0, 1) := by decide +kernel
theorem dX7_take_13 : decode cX7_take 13 = .ok (.getfield 58, 3) := by decide +kernel
theorem dX7_take_16 : decode cX7_take 16 = .ok (.putfield 72, 3) := by decide +kernel
theorem dX7_take_19 : decode cX7_take 19 = .ok (.aload_n 0, 1) := by decide +kernel
theorem dX7_take_20 : decode cX7_take 20 = .ok (.getfield 72, 3) := by decide +kernel
theorem dX7_take_23 : decode cX7_take 23 = .ok (.iload_n 2, 1) := by decide +kernel
theorem dX7_take_24 : decode cX7_take 24 = .ok (.if_icmp .ge 31, 3) := by decide +kernel
theorem dX7_take_27 : decode cX7_take 27 = .ok (.aload_n 1, 1) := by decide +kernel
theorem dX7_take_28 : decode cX7_take 28 = .ok (.getfield 139, 3) := by decide +kernel
theorem dX7_take_31 : decode cX7_take 31 = .ok (.aload_n 0, 1) := by decide +kernel
theorem dX7_take_32 : decode cX7_take 32 = .ok (.getfield 72, 3) := by decide +kernel
theorem dX7_take_35 : decode cX7_take 35 = .ok (.baload, 1) := by decide +kernel
theorem dX7_take_36 : decode cX7_take 36 = .ok (.invokestatic 217, 3) := by decide +kernel
theorem dX7_take_39 : decode cX7_take 39 = .ok (.ifCond .eq 16, 3) := by decide +kernel
theorem dX7_take_42 : decode cX7_take 42 = .ok (.aload_n 0, 1) := by decide +kernel
theorem dX7_take_43 : decode cX7_take 43 = .ok (.dup, 1) := by decide +kernel
theorem dX7_take_44 : decode cX7_take 44 = .ok (.getfield 72, 3) := by decide +kernel
theorem dX7_take_47 : decode cX7_take 47 = .ok (.iconst 1, 1) := by decide +kernel
theorem dX7_take_48 : decode cX7_take 48 = .ok (.iadd, 1) := by decide +kernel
theorem dX7_take_49 : decode cX7_take 49 = .ok (.putfield 72, 3) := by decide +kernel
theorem dX7_take_52 : decode cX7_take 52 = .ok (.goto (-33), 3) := by decide +kernel
theorem dX7_take_55 : decode cX7_take 55 = .ok (.aload_n 0, 1) := by decide +kernel
theorem dX7_take_56 : decode cX7_take 56 = .ok (.aload_n 0, 1) := by decide +kernel
theorem dX7_take_57 : decode cX7_take 57 = .ok (.getfield 72, 3) := by decide +kernel
theorem dX7_take_60 : decode cX7_take 60 = .ok (.putfield 58, 3) := by decide +kernel
theorem dX7_take_63 : decode cX7_take 63 = .ok (.aload_n 0, 1) := by decide +kernel
theorem dX7_take_64 : decode cX7_take 64 = .ok (.getfield 72, 3) := by decide +kernel
theorem dX7_take_67 : decode cX7_take 67 = .ok (.iload_n 2, 1) := by decide +kernel
theorem dX7_take_68 : decode cX7_take 68 = .ok (.if_icmp .lt 11, 3) := by decide +kernel
theorem dX7_take_71 : decode cX7_take 71 = .ok (.aload_n 0, 1) := by decide +kernel
theorem dX7_take_72 : decode cX7_take 72 = .ok (.iconst 0, 1) := by decide +kernel
theorem dX7_take_73 : decode cX7_take 73 = .ok (.putfield 65, 3) := by decide +kernel
theorem dX7_take_76 : decode cX7_take 76 = .ok (.goto 119, 3) := by decide +kernel
theorem dX7_take_79 : decode cX7_take 79 = .ok (.aload_n 1, 1) := by decide +kernel
theorem dX7_take_80 : decode cX7_take 80 = .ok (.getfield 139, 3) := by decide +kernel
theorem dX7_take_83 : decode cX7_take 83 = .ok (.aload_n 0, 1) := by decide +kernel
theorem dX7_take_84 : decode cX7_take 84 = .ok (.getfield 72, 3) := by decide +kernel
theorem dX7_take_87 : decode cX7_take 87 = .ok (.baload, 1) := by decide +kernel
theorem dX7_take_88 : decode cX7_take 88 = .ok (.invokestatic 220, 3) := by decide +kernel
theorem dX7_take_91 : decode cX7_take 91 = .ok (.ifCond .eq 47, 3) := by decide +kernel
theorem dX7_take_94 : decode cX7_take 94 = .ok (.aload_n 0, 1) := by decide +kernel
theorem dX7_take_95 : decode cX7_take 95 = .ok (.getfield 58, 3) := by decide +kernel
theorem dX7_take_98 : decode cX7_take 98 = .ok (.iload_n 2, 1) := by decide +kernel
theorem dX7_take_99 : decode cX7_take 99 = .ok (.if_icmp .ge 31, 3) := by decide +kernel
theorem dX7_take_102 : decode cX7_take 102 = .ok (.aload_n 1, 1) := by decide +kernel
theorem dX7_take_103 : decode cX7_take 103 = .ok (.getfield 139, 3) := by decide +kernel
theorem dX7_take_106 : decode cX7_take 106 = .ok (.aload_n 0, 1) := by decide +kernel
theorem dX7_take_107 : decode cX7_take 107 = .ok (.getfield 58, 3) := by decide +kernel
theorem dX7_take_110 : decode cX7_take 110 = .ok (.baload, 1) := by decide +kernel
theorem dX7_take_111 : decode cX7_take 111 = .ok (.invokestatic 220, 3) := by decide +kernel
theorem dX7_take_114 : decode cX7_take 114 = .ok (.ifCond .eq 16, 3) := by decide +kernel
theorem dX7_take_117 : decode cX7_take 117 = .ok (.aload_n 0, 1) := by decide +kernel
theorem dX7_take_118 : decode cX7_take 118 = .ok (.dup, 1) := by decide +kernel
theorem dX7_take_119 : decode cX7_take 119 = .ok (.getfield 58, 3) := by decide +kernel
theorem dX7_take_122 : decode cX7_take 122 = .ok (.iconst 1, 1) := by decide +kernel
theorem dX7_take_123 : decode cX7_take 123 = .ok (.iadd, 1) := by decide +kernel
theorem dX7_take_124 : decode cX7_take 124 = .ok (.putfield 58, 3) := by decide +kernel
theorem dX7_take_127 : decode cX7_take 127 = .ok (.goto (-33), 3) := by decide +kernel
theorem dX7_take_130 : decode cX7_take 130 = .ok (.aload_n 0, 1) := by decide +kernel
theorem dX7_take_131 : decode cX7_take 131 = .ok (.iconst 1, 1) := by decide +kernel
theorem dX7_take_132 : decode cX7_take 132 = .ok (.putfield 65, 3) := by decide +kernel
theorem dX7_take_135 : decode cX7_take 135 = .ok (.goto 60, 3) := by decide +kernel
theorem dX7_take_138 : decode cX7_take 138 = .ok (.aload_n 1, 1) := by decide +kernel
theorem dX7_take_139 : decode cX7_take 139 = .ok (.getfield 139, 3) := by decide +kernel
theorem dX7_take_142 : decode cX7_take 142 = .ok (.aload_n 0, 1) := by decide +kernel
theorem dX7_take_143 : decode cX7_take 143 = .ok (.getfield 72, 3) := by decide +kernel
theorem dX7_take_146 : decode cX7_take 146 = .ok (.baload, 1) := by decide +kernel
theorem dX7_take_147 : decode cX7_take 147 = .ok (.invokestatic 223, 3) := by decide +kernel
theorem dX7_take_150 : decode cX7_take 150 = .ok (.ifCond .eq 12, 3) := by decide +kernel
theorem dX7_take_153 : decode cX7_take 153 = .ok (.aload_n 0, 1) := by decide +kernel
theorem dX7_take_154 : decode cX7_take 154 = .ok (.aload_n 1, 1) := by decide +kernel
theorem dX7_take_155 : decode cX7_take 155 = .ok (.iload_n 2, 1) := by decide +kernel
theorem dX7_take_156 : decode cX7_take 156 = .ok (.invokevirtual 226, 3) := by decide +kernel
theorem dX7_take_159 : decode cX7_take 159 = .ok (.goto 36, 3) := by decide +kernel
theorem dX7_take_162 : decode cX7_take 162 = .ok (.aload_n 0, 1) := by decide +kernel
theorem dX7_take_163 : decode cX7_take 163 = .ok (.aload_n 1, 1) := by decide +kernel
theorem dX7_take_164 : decode cX7_take 164 = .ok (.getfield 139, 3) := by decide +kernel
theorem dX7_take_167 : decode cX7_take 167 = .ok (.aload_n 0, 1) := by decide +kernel
theorem dX7_take_168 : decode cX7_take 168 = .ok (.getfield 72, 3) := by decide +kernel
theorem dX7_take_171 : decode cX7_take 171 = .ok (.baload, 1) := by decide +kernel
theorem dX7_take_172 : decode cX7_take 172 = .ok (.bipush 59, 2) := by decide +kernel
theorem dX7_take_174 : decode cX7_take 174 = .ok (.if_icmp .ne 7, 3) := by decide +kernel
theorem dX7_take_177 : decode cX7_take 177 = .ok (.iconst 3, 1) := by decide +kernel
theorem dX7_take_178 : decode cX7_take 178 = .ok (.goto 4, 3) := by decide +kernel
theorem dX7_take_181 : decode cX7_take 181 = .ok (.iconst 4, 1) := by decide +kernel
theorem dX7_take_182 : decode cX7_take 182 = .ok (.putfield 65, 3) := by decide +kernel
theorem dX7_take_185 : decode cX7_take 185 = .ok (.aload_n 0, 1) := by decide +kernel
theorem dX7_take_186 : decode cX7_take 186 = .ok (.dup, 1) := by decide +kernel
theorem dX7_take_187 : decode cX7_take 187 = .ok (.getfield 58, 3) := by decide +kernel
theorem dX7_take_190 : decode cX7_take 190 = .ok (.iconst 1, 1) := by decide +kernel
theorem dX7_take_191 : decode cX7_take 191 = .ok (.iadd, 1) := by decide +kernel
theorem dX7_take_192 : decode cX7_take 192 = .ok (.putfield 58, 3) := by decide +kernel
theorem dX7_take_195 : decode cX7_take 195 = .ok (.return_, 1) := by decide +kernel
theorem dX7_takeNumber_0 : decode cX7_takeNumber 0 = .ok (.aload_n 0, 1) := by decide +kernel
theorem dX7_takeNumber_1 : decode cX7_takeNumber 1 = .ok (.iconst 0, 1) := by decide +kernel
theorem dX7_takeNumber_2 : decode cX7_takeNumber 2 = .ok (.putfield 113, 3) := by decide +kernel
theorem dX7_takeNumber_5 : decode cX7_takeNumber 5 = .ok (.aload_n 0, 1) := by decide +kernel
theorem dX7_takeNumber_6 : decode cX7_takeNumber 6 = .ok (.getfield 58, 3) := by decide +kernel
theorem dX7_takeNumber_9 : decode cX7_takeNumber 9 = .ok (.iload_n 2, 1) := by decide +kernel
theorem dX7_takeNumber_10 : decode cX7_takeNumber 10 = .ok (.if_icmp .ge 68, 3) := by decide +kernel
theorem dX7_takeNumber_13 : decode cX7_takeNumber 13 = .ok (.aload_n 1, 1) := by decide +kernel
theorem dX7_takeNumber_14 : decode cX7_takeNumber 14 = .ok (.getfield 139, 3) := by decide +kernel
theorem dX7_takeNumber_17 : decode cX7_takeNumber 17 = .ok (.aload_n 0, 1) := by decide +kernel
theorem dX7_takeNumber_18 : decode cX7_takeNumber 18 = .ok (.getfield 58, 3) := by decide +kernel
theorem dX7_takeNumber_21 : decode cX7_takeNumber 21 = .ok (.baload, 1) := by decide +kernel
theorem dX7_takeNumber_22 : decode cX7_takeNumber 22 = .ok (.invokestatic 223, 3) := by decide +kernel
theorem dX7_takeNumber_25 : decode cX7_takeNumber 25 = .ok (.ifCond .eq 53, 3) := by decide +kernel
theorem dX7_takeNumber_28 : decode cX7_takeNumber 28 = .ok (.aload_n 0, 1) := by decide +kernel
theorem dX7_takeNumber_29 : decode cX7_takeNumber 29 = .ok (.getfield 58, 3) := by decide +kernel
theorem dX7_takeNumber_32 : decode cX7_takeNumber 32 = .ok (.aload_n 0, 1) := by decide +kernel
theorem dX7_takeNumber_33 : decode cX7_takeNumber 33 = .ok (.getfield 72, 3) := by decide +kernel
theorem dX7_takeNumber_36 : decode cX7_takeNumber 36 = .ok (.isub, 1) := by decide +kernel
theorem dX7_takeNumber_37 : decode cX7_takeNumber 37 = .ok (.iconst 2, 1) := by decide +kernel
theorem dX7_takeNumber_38 : decode cX7_takeNumber 38 = .ok (.if_icmp .ge 27, 3) := by decide +kernel
theorem dX7_takeNumber_41 : decode cX7_takeNumber 41 = .ok (.aload_n 0, 1) := by decide +kernel
theorem dX7_takeNumber_42 : decode cX7_takeNumber 42 = .ok (.aload_n 0, 1) := by decide +kernel
theorem dX7_takeNumber_43 : decode cX7_takeNumber 43 = .ok (.getfield 113, 3) := by decide +kernel
theorem dX7_takeNumber_46 : decode cX7_takeNumber 46 = .ok (.bipush 10, 2) := by decide +kernel
theorem dX7_takeNumber_48 : decode cX7_takeNumber 48 = .ok (.imul, 1) := by decide +kernel
theorem dX7_takeNumber_49 : decode cX7_takeNumber 49 = .ok (.aload_n 1, 1) := by decide +kernel
theorem dX7_takeNumber_50 : decode cX7_takeNumber 50 = .ok (.getfield 139, 3) := by decide +kernel
theorem dX7_takeNumber_53 : decode cX7_takeNumber 53 = .ok (.aload_n 0, 1) := by decide +kernel
theorem dX7_takeNumber_54 : decode cX7_takeNumber 54 = .ok (.getfield 58, 3) := by decide +kernel
theorem dX7_takeNumber_57 : decode cX7_takeNumber 57 = .ok (.baload, 1) := by decide +kernel
theorem dX7_takeNumber_58 : decode cX7_takeNumber 58 = .ok (.iadd, 1) := by decide +kernel
theorem dX7_takeNumber_59 : decode cX7_takeNumber 59 = .ok (.bipush 48, 2) := by decide +kernel
theorem dX7_takeNumber_61 : decode cX7_takeNumber 61 = .ok (.isub, 1) := by decide +kernel
theorem dX7_takeNumber_62 : decode cX7_takeNumber 62 = .ok (.putfield 113, 3) := by decide +kernel
theorem dX7_takeNumber_65 : decode cX7_takeNumber 65 = .ok (.aload_n 0, 1) := by decide +kernel
theorem dX7_takeNumber_66 : decode cX7_takeNumber 66 = .ok (.dup, 1) := by decide +kernel
theorem dX7_takeNumber_67 : decode cX7_takeNumber 67 = .ok (.getfield 58, 3) := by decide +kernel
theorem dX7_takeNumber_70 : decode cX7_takeNumber 70 = .ok (.iconst 1, 1) := by decide +kernel
theorem dX7_takeNumber_71 : decode cX7_takeNumber 71 = .ok (.iadd, 1) := by decide +kernel
theorem dX7_takeNumber_72 : decode cX7_takeNumber 72 = .ok (.putfield 58, 3) := by decide +kernel
theorem dX7_takeNumber_75 : decode cX7_takeNumber 75 = .ok (.goto (-70), 3) := by decide +kernel
theorem dX7_takeNumber_78 : decode cX7_takeNumber 78 = .ok (.aload_n 0, 1) := by decide +kernel
theorem dX7_takeNumber_79 : decode cX7_takeNumber 79 = .ok (.aload_n 0, 1) := by decide +kernel
theorem dX7_takeNumber_80 : decode cX7_takeNumber 80 = .ok (.getfield 58, 3) := by decide +kernel
theorem dX7_takeNumber_83 : decode cX7_takeNumber 83 = .ok (.aload_n 0, 1) := by decide +kernel
theorem dX7_takeNumber_84 : decode cX7_takeNumber 84 = .ok (.getfield 72, 3) := by decide +kernel
theorem dX7_takeNumber_87 : decode cX7_takeNumber 87 = .ok (.isub, 1) := by decide +kernel
theorem dX7_takeNumber_88 : decode cX7_takeNumber 88 = .ok (.iconst 2, 1) := by decide +kernel
theorem dX7_takeNumber_89 : decode cX7_takeNumber 89 = .ok (.if_icmp .gt 7, 3) := by decide +kernel
theorem dX7_takeNumber_92 : decode cX7_takeNumber 92 = .ok (.iconst 2, 1) := by decide +kernel
theorem dX7_takeNumber_93 : decode cX7_takeNumber 93 = .ok (.goto 4, 3) := by decide +kernel
theorem dX7_takeNumber_96 : decode cX7_takeNumber 96 = .ok (.iconst 4, 1) := by decide +kernel
theorem dX7_takeNumber_97 : decode cX7_takeNumber 97 = .ok (.putfield 65, 3) := by decide +kernel
theorem dX7_takeNumber_100 : decode cX7_takeNumber 100 = .ok (.return_, 1) := by decide +kernel
theorem dX7_isBlank_0 : decode cX7_isBlank 0 = .ok (.iload_n 0, 1) := by decide +kernel
theorem dX7_isBlank_1 : decode cX7_isBlank 1 = .ok (.bipush 10, 2) := by decide +kernel
theorem dX7_isBlank_3 : decode cX7_isBlank 3 = .ok (.if_icmp .eq 9, 3) := by decide +kernel
theorem dX7_isBlank_6 : decode cX7_isBlank 6 = .ok (.iload_n 0, 1) := by decide +kernel
theorem dX7_isBlank_7 : decode cX7_isBlank 7 = .ok (.bipush 32, 2) := by decide +kernel
theorem dX7_isBlank_9 : decode cX7_isBlank 9 = .ok (.if_icmp .ne 7, 3) := by decide +kernel
theorem dX7_isBlank_12 : decode cX7_isBlank 12 = .ok (.iconst 1, 1) := by decide +kernel
theorem dX7_isBlank_13 : decode cX7_isBlank 13 = .ok (.goto 4, 3) := by decide +kernel
theorem dX7_isBlank_16 : decode cX7_isBlank 16 = .ok (.iconst 0, 1) := by decide +kernel
theorem dX7_isBlank_17 : decode cX7_isBlank 17 = .ok (.ireturn, 1) := by decide +kernel
theorem dX7_isLetter_0 : decode cX7_isLetter 0 = .ok (.iload_n 0, 1) := by decide +kernel
theorem dX7_isLetter_1 : decode cX7_isLetter 1 = .ok (.bipush 97, 2) := by decide +kernel
theorem dX7_isLetter_3 : decode cX7_isLetter 3 = .ok (.if_icmp .lt 13, 3) := by decide +kernel
theorem dX7_isLetter_6 : decode cX7_isLetter 6 = .ok (.iload_n 0, 1) := by decide +kernel
theorem dX7_isLetter_7 : decode cX7_isLetter 7 = .ok (.bipush 122, 2) := by decide +kernel
theorem dX7_isLetter_9 : decode cX7_isLetter 9 = .ok (.if_icmp .gt 7, 3) := by decide +kernel
theorem dX7_isLetter_12 : decode cX7_isLetter 12 = .ok (.iconst 1, 1) := by decide +kernel
theorem dX7_isLetter_13 : decode cX7_isLetter 13 = .ok (.goto 4, 3) := by decide +kernel
theorem dX7_isLetter_16 : decode cX7_isLetter 16 = .ok (.iconst 0, 1) := by decide +kernel
theorem dX7_isLetter_17 : decode cX7_isLetter 17 = .ok (.ireturn, 1) := by decide +kernel
theorem dX7_isDigit_0 : decode cX7_isDigit 0 = .ok (.iload_n 0, 1) := by decide +kernel
theorem dX7_isDigit_1 : decode cX7_isDigit 1 = .ok (.bipush 48, 2) := by decide +kernel
theorem dX7_isDigit_3 : decode cX7_isDigit 3 = .ok (.if_icmp .lt 13, 3) := by decide +kernel
theorem dX7_isDigit_6 : decode cX7_isDigit 6 = .ok (.iload_n 0, 1) := by decide +kernel
theorem dX7_isDigit_7 : decode cX7_isDigit 7 = .ok (.bipush 57, 2) := by decide +kernel
theorem dX7_isDigit_9 : decode cX7_isDigit 9 = .ok (.if_icmp .gt 7, 3) := by decide +kernel
theorem dX7_isDigit_12 : decode cX7_isDigit 12 = .ok (.iconst 1, 1) := by decide +kernel
theorem dX7_isDigit_13 : decode cX7_isDigit 13 = .ok (.goto 4, 3) := by decide +kernel
theorem dX7_isDigit_16 : decode cX7_isDigit 16 = .ok (.iconst 0, 1) := by decide +kernel
theorem dX7_isDigit_17 : decode cX7_isDigit 17 = .ok (.ireturn, 1) := by decide +kernel
theorem dX8_init_0 : decode cX8_init 0 = .ok (.aload_n 0, 1) := by decide +kernel
theorem dX8_init_1 : decode cX8_init 1 = .ok (.invokespecial 3, 3) := by decide +kernel
theorem dX8_init_4 : decode cX8_init 4 = .ok (.aload_n 0, 1) := by decide +kernel
theorem dX8_init_5 : decode cX8_init 5 = .ok (.new 9, 3) := by decide +kernel
theorem dX8_init_8 : decode cX8_init 8 = .ok (.dup, 1) := by decide +kernel
theorem dX8_init_9 : decode cX8_init 9 = .ok (.bipush 40, 2) := by decide +kernel
theorem dX8_init_11 : decode cX8_init 11 = .ok (.invokespecial 11, 3) := by decide +kernel
theorem dX8_init_14 : decode cX8_init 14 = .ok (.putfield 14, 3) := by decide +kernel
theorem dX8_init_17 : decode cX8_init 17 = .ok (.aload_n 0, 1) := by decide +kernel
theorem dX8_init_18 : decode cX8_init 18 = .ok (.new 9, 3) := by decide +kernel
theorem dX8_init_21 : decode cX8_init 21 = .ok (.dup, 1) := by decide +kernel
theorem dX8_init_22 : decode cX8_init 22 = .ok (.bipush 15, 2) := by decide +kernel
theorem dX8_init_24 : decode cX8_init 24 = .ok (.invokespecial 11, 3) := by decide +kernel
theorem dX8_init_27 : decode cX8_init 27 = .ok (.putfield 20, 3) := by decide +kernel
theorem dX8_init_30 : decode cX8_init 30 = .ok (.return_, 1) := by decide +kernel
theorem dX8_clear_0 : decode cX8_clear 0 = .ok (.aload_n 0, 1) := by decide +kernel
theorem dX8_clear_1 : decode cX8_clear 1 = .ok (.getfield 14, 3) := by decide +kernel
theorem dX8_clear_4 : decode cX8_clear 4 = .ok (.iconst 0, 1) := by decide +kernel
theorem dX8_clear_5 : decode cX8_clear 5 = .ok (.putfield 23, 3) := by decide +kernel
theorem dX8_clear_8 : decode cX8_clear 8 = .ok (.aload_n 0, 1) := by decide +kernel
theorem dX8_clear_9 : decode cX8_clear 9 = .ok (.getfield 20, 3) := by decide +kernel
theorem dX8_clear_12 : decode cX8_clear 12 = .ok (.iconst 0, 1) := by decide +kernel
theorem dX8_clear_13 : decode cX8_clear 13 = .ok (.putfield 23, 3) := by decide +kernel
theorem dX8_clear_16 : decode cX8_clear 16 = .ok (.return_, 1) := by decide +kernel
theorem dX8_hits_0 : decode cX8_hits 0 = .ok (.aload_n 0, 1) := by decide +kernel
theorem dX8_hits_1 : decode cX8_hits 1 = .ok (.getfield 20, 3) := by decide +kernel
theorem dX8_hits_4 : decode cX8_hits 4 = .ok (.invokevirtual 27, 3) := by decide +kernel
theorem dX8_hits_7 : decode cX8_hits 7 = .ok (.ireturn, 1) := by decide +kernel
theorem dX8_shoutsOf_0 : decode cX8_shoutsOf 0 = .ok (.iconst 0, 1) := by decide +kernel
theorem dX8_shoutsOf_1 : decode cX8_shoutsOf 1 = .ok (.istore_n 2, 1) := by decide +kernel
theorem dX8_shoutsOf_2 : decode cX8_shoutsOf 2 = .ok (.iconst 0, 1) := by decide +kernel
theorem dX8_shoutsOf_3 : decode cX8_shoutsOf 3 = .ok (.istore_n 3, 1) := by decide +kernel
theorem dX8_shoutsOf_4 : decode cX8_shoutsOf 4 = .ok (.iload_n 3, 1) := by decide +kernel
theorem dX8_shoutsOf_5 : decode cX8_shoutsOf 5 = .ok (.aload_n 0, 1) := by decide +kernel
theorem dX8_shoutsOf_6 : decode cX8_shoutsOf 6 = .ok (.getfield 14, 3) := by decide +kernel
theorem dX8_shoutsOf_9 : decode cX8_shoutsOf 9 = .ok (.getfield 23, 3) := by decide +kernel
theorem dX8_shoutsOf_12 : decode cX8_shoutsOf 12 = .ok (.if_icmp .ge 25, 3) := by decide +kernel
theorem dX8_shoutsOf_15 : decode cX8_shoutsOf 15 = .ok (.aload_n 0, 1) := by decide +kernel
theorem dX8_shoutsOf_16 : decode cX8_shoutsOf 16 = .ok (.getfield 14, 3) := by decide +kernel
theorem dX8_shoutsOf_19 : decode cX8_shoutsOf 19 = .ok (.getfield 31, 3) := by decide +kernel
theorem dX8_shoutsOf_22 : decode cX8_shoutsOf 22 = .ok (.iload_n 3, 1) := by decide +kernel
theorem dX8_shoutsOf_23 : decode cX8_shoutsOf 23 = .ok (.iaload, 1) := by decide +kernel
theorem dX8_shoutsOf_24 : decode cX8_shoutsOf 24 = .ok (.iload_n 1, 1) := by decide +kernel
theorem dX8_shoutsOf_25 : decode cX8_shoutsOf 25 = .ok (.if_icmp .ne 6, 3) := by decide +kernel
theorem dX8_shoutsOf_28 : decode cX8_shoutsOf 28 = .ok (.iinc 2 1, 3) := by decide +kernel
theorem dX8_shoutsOf_31 : decode cX8_shoutsOf 31 = .ok (.iinc 3 1, 3) := by decide +kernel
theorem dX8_shoutsOf_34 : decode cX8_shoutsOf 34 = .ok (.goto (-30), 3) := by decide +kernel
theorem dX8_shoutsOf_37 : decode cX8_shoutsOf 37 = .ok (.iload_n 2, 1) := by decide +kernel
theorem dX8_shoutsOf_38 : decode cX8_shoutsOf 38 = .ok (.ireturn, 1) := by decide +kernel
theorem dX8_trueShoutsOf_0 : decode cX8_trueShoutsOf 0 = .ok (.iconst 0, 1) := by decide +kernel
theorem dX8_trueShoutsOf_1 : decode cX8_trueShoutsOf 1 = .ok (.istore_n 2, 1) := by decide +kernel
theorem dX8_trueShoutsOf_2 : decode cX8_trueShoutsOf 2 = .ok (.iconst 0, 1) := by decide +kernel
theorem dX8_trueShoutsOf_3 : decode cX8_trueShoutsOf 3 = .ok (.istore_n 3, 1) := by decide +kernel
theorem dX8_trueShoutsOf_4 : decode cX8_trueShoutsOf 4 = .ok (.iload_n 3, 1) := by decide +kernel
theorem dX8_trueShoutsOf_5 : decode cX8_trueShoutsOf 5 = .ok (.aload_n 0, 1) := by decide +kernel
theorem dX8_trueShoutsOf_6 : decode cX8_trueShoutsOf 6 = .ok (.getfield 14, 3) := by decide +kernel
theorem dX8_trueShoutsOf_9 : decode cX8_trueShoutsOf 9 = .ok (.getfield 23, 3) := by decide +kernel
theorem dX8_trueShoutsOf_12 : decode cX8_trueShoutsOf 12 = .ok (.if_icmp .ge 34, 3) := by decide +kernel
theorem dX8_trueShoutsOf_15 : decode cX8_trueShoutsOf 15 = .ok (.aload_n 0, 1) := by decide +kernel
theorem dX8_trueShoutsOf_16 : decode cX8_trueShoutsOf 16 = .ok (.getfield 14, 3) := by decide +kernel
theorem dX8_trueShoutsOf_19 : decode cX8_trueShoutsOf 19 = .ok (.getfield 31, 3) := by decide +kernel
theorem dX8_trueShoutsOf_22 : decode cX8_trueShoutsOf 22 = .ok (.iload_n 3, 1) := by decide +kernel
theorem dX8_trueShoutsOf_23 : decode cX8_trueShoutsOf 23 = .ok (.iaload, 1) := by decide +kernel
theorem dX8_trueShoutsOf_24 : decode cX8_trueShoutsOf 24 = .ok (.iload_n 1, 1) := by decide +kernel
theorem dX8_trueShoutsOf_25 : decode cX8_trueShoutsOf 25 = .ok (.if_icmp .ne 15, 3) := by decide +kernel
theorem dX8_trueShoutsOf_28 : decode cX8_trueShoutsOf 28 = .ok (.iload_n 2, 1) := by decide +kernel
theorem dX8_trueShoutsOf_29 : decode cX8_trueShoutsOf 29 = .ok (.aload_n 0, 1) := by decide +kernel
theorem dX8_trueShoutsOf_30 : decode cX8_trueShoutsOf 30 = .ok (.getfield 14, 3) := by decide +kernel
theorem dX8_trueShoutsOf_33 : decode cX8_trueShoutsOf 33 = .ok (.getfield 35, 3) := by decide +kernel
theorem dX8_trueShoutsOf_36 : decode cX8_trueShoutsOf 36 = .ok (.iload_n 3, 1) := by decide +kernel
theorem dX8_trueShoutsOf_37 : decode cX8_trueShoutsOf 37 = .ok (.iaload, 1) := by decide +kernel
theorem dX8_trueShoutsOf_38 : decode cX8_trueShoutsOf 38 = .ok (.iadd, 1) := by decide +kernel
theorem dX8_trueShoutsOf_39 : decode cX8_trueShoutsOf 39 = .ok (.istore_n 2, 1) := by decide +kernel
theorem dX8_trueShoutsOf_40 : decode cX8_trueShoutsOf 40 = .ok (.iinc 3 1, 3) := by decide +kernel
theorem dX8_trueShoutsOf_43 : decode cX8_trueShoutsOf 43 = .ok (.goto (-39), 3) := by decide +kernel
theorem dX8_trueShoutsOf_46 : decode cX8_trueShoutsOf 46 = .ok (.iload_n 2, 1) := by decide +kernel
theorem dX8_trueShoutsOf_47 : decode cX8_trueShoutsOf 47 = .ok (.ireturn, 1) := by decide +kernel
theorem dX8_held_0 : decode cX8_held 0 = .ok (.iconst (-1), 1) := by decide +kernel
theorem dX8_held_1 : decode cX8_held 1 = .ok (.istore_n 1, 1) := by decide +kernel
theorem dX8_held_2 : decode cX8_held 2 = .ok (.iconst 0, 1) := by decide +kernel
theorem dX8_held_3 : decode cX8_held 3 = .ok (.istore_n 2, 1) := by decide +kernel
theorem dX8_held_4 : decode cX8_held 4 = .ok (.iconst 1, 1) := by decide +kernel
theorem dX8_held_5 : decode cX8_held 5 = .ok (.istore_n 3, 1) := by decide +kernel
theorem dX8_held_6 : decode cX8_held 6 = .ok (.iconst 0, 1) := by decide +kernel
theorem dX8_held_7 : decode cX8_held 7 = .ok (.istore 4, 2) := by decide +kernel
theorem dX8_held_9 : decode cX8_held 9 = .ok (.iload 4, 2) := by decide +kernel
theorem dX8_held_11 : decode cX8_held 11 = .ok (.bipush 8, 2) := by decide +kernel
theorem dX8_held_13 : decode cX8_held 13 = .ok (.if_icmp .ge 55, 3) := by decide +kernel
theorem dX8_held_16 : decode cX8_held 16 = .ok (.aload_n 0, 1) := by decide +kernel
theorem dX8_held_17 : decode cX8_held 17 = .ok (.iload 4, 2) := by decide +kernel
theorem dX8_held_19 : decode cX8_held 19 = .ok (.invokevirtual 38, 3) := by decide +kernel
theorem dX8_held_22 : decode cX8_held 22 = .ok (.istore 5, 2) := by decide +kernel
theorem dX8_held_24 : decode cX8_held 24 = .ok (.aload_n 0, 1) := by decide +kernel
theorem dX8_held_25 : decode cX8_held 25 = .ok (.iload 4, 2) := by decide +kernel
theorem dX8_held_27 : decode cX8_held 27 = .ok (.invokevirtual 42, 3) := by decide +kernel
theorem dX8_held_30 : decode cX8_held 30 = .ok (.istore 6, 2) := by decide +kernel
theorem dX8_held_32 : decode cX8_held 32 = .ok (.iload 5, 2) := by decide +kernel
theorem dX8_held_34 : decode cX8_held 34 = .ok (.ifCond .le 28, 3) := by decide +kernel
theorem dX8_held_37 : decode cX8_held 37 = .ok (.iload_n 1, 1) := by decide +kernel
theorem dX8_held_38 : decode cX8_held 38 = .ok (.iconst (-1), 1) := by decide +kernel
theorem dX8_held_39 : decode cX8_held 39 = .ok (.if_icmp .eq 14, 3) := by decide +kernel
theorem dX8_held_42 : decode cX8_held 42 = .ok (.iload 6, 2) := by decide +kernel
theorem dX8_held_44 : decode cX8_held 44 = .ok (.iload_n 3, 1) := by decide +kernel
theorem dX8_held_45 : decode cX8_held 45 = .ok (.imul, 1) := by decide +kernel
theorem dX8_held_46 : decode cX8_held 46 = .ok (.iload_n 2, 1) := by decide +kernel
theorem dX8_held_47 : decode cX8_held 47 = .ok (.iload 5, 2) := by decide +kernel
theorem dX8_held_49 : decode cX8_held 49 = .ok (.imul, 1) := by decide +kernel
theorem dX8_held_50 : decode cX8_held 50 = .ok (.if_icmp .le 12, 3) := by decide +kernel
theorem dX8_held_53 : decode cX8_held 53 = .ok (.iload 4, 2) := by decide +kernel
theorem dX8_held_55 : decode cX8_held 55 = .ok (.istore_n 1, 1) := by decide +kernel
theorem dX8_held_56 : decode cX8_held 56 = .ok (.iload 6, 2) := by decide +kernel
theorem dX8_held_58 : decode cX8_held 58 = .ok (.istore_n 2, 1) := by decide +kernel
theorem dX8_held_59 : decode cX8_held 59 = .ok (.iload 5, 2) := by decide +kernel
theorem dX8_held_61 : decode cX8_held 61 = .ok (.istore_n 3, 1) := by decide +kernel
theorem dX8_held_62 : decode cX8_held 62 = .ok (.iinc 4 1, 3) := by decide +kernel
theorem dX8_held_65 : decode cX8_held 65 = .ok (.goto (-56), 3) := by decide +kernel
theorem dX8_held_68 : decode cX8_held 68 = .ok (.iload_n 1, 1) := by decide +kernel
theorem dX8_held_69 : decode cX8_held 69 = .ok (.ireturn, 1) := by decide +kernel
theorem dX8_answer_0 : decode cX8_answer 0 = .ok (.iload_n 1, 1) := by decide +kernel
theorem dX8_answer_1 : decode cX8_answer 1 = .ok (.bipush 10, 2) := by decide +kernel
theorem dX8_answer_3 : decode cX8_answer 3 = .ok (.if_icmp .lt 30, 3) := by decide +kernel
theorem dX8_answer_6 : decode cX8_answer 6 = .ok (.iload_n 1, 1) := by decide +kernel
theorem dX8_answer_7 : decode cX8_answer 7 = .ok (.bipush 10, 2) := by decide +kernel
theorem dX8_answer_9 : decode cX8_answer 9 = .ok (.aload_n 0, 1) := by decide +kernel
theorem dX8_answer_10 : decode cX8_answer 10 = .ok (.getfield 14, 3) := by decide +kernel
theorem dX8_answer_13 : decode cX8_answer 13 = .ok (.getfield 23, 3) := by decide +kernel
theorem dX8_answer_16 : decode cX8_answer 16 = .ok (.iadd, 1) := by decide +kernel
theorem dX8_answer_17 : decode cX8_answer 17 = .ok (.if_icmp .ge 16, 3) := by decide +kernel
theorem dX8_answer_20 : decode cX8_answer 20 = .ok (.aload_n 0, 1) := by decide +kernel
theorem dX8_answer_21 : decode cX8_answer 21 = .ok (.getfield 14, 3) := by decide +kernel
theorem dX8_answer_24 : decode cX8_answer 24 = .ok (.getfield 31, 3) := by decide +kernel
theorem dX8_answer_27 : decode cX8_answer 27 = .ok (.iload_n 1, 1) := by decide +kernel
theorem dX8_answer_28 : decode cX8_answer 28 = .ok (.bipush 10, 2) := by decide +kernel
theorem dX8_answer_30 : decode cX8_answer 30 = .ok (.isub, 1) := by decide +kernel
theorem dX8_answer_31 : decode cX8_answer 31 = .ok (.iaload, 1) := by decide +kernel
theorem dX8_answer_32 : decode cX8_answer 32 = .ok (.ireturn, 1) := by decide +kernel
theorem dX8_answer_33 : decode cX8_answer 33 = .ok (.iload_n 1, 1) := by decide +kernel
theorem dX8_answer_34 : decode cX8_answer 34 = .ok (.bipush 60, 2) := by decide +kernel
theorem dX8_answer_36 : decode cX8_answer 36 = .ok (.if_icmp .lt 30, 3) := by decide +kernel
theorem dX8_answer_39 : decode cX8_answer 39 = .ok (.iload_n 1, 1) := by decide +kernel
theorem dX8_answer_40 : decode cX8_answer 40 = .ok (.bipush 60, 2) := by decide +kernel
theorem dX8_answer_42 : decode cX8_answer 42 = .ok (.aload_n 0, 1) := by decide +kernel
theorem dX8_answer_43 : decode cX8_answer 43 = .ok (.getfield 14, 3) := by decide +kernel
theorem dX8_answer_46 : decode cX8_answer 46 = .ok (.getfield 23, 3) := by decide +kernel
theorem dX8_answer_49 : decode cX8_answer 49 = .ok (.iadd, 1) := by decide +kernel
theorem dX8_answer_50 : decode cX8_answer 50 = .ok (.if_icmp .ge 16, 3) := by decide +kernel
theorem dX8_answer_53 : decode cX8_answer 53 = .ok (.aload_n 0, 1) := by decide +kernel
theorem dX8_answer_54 : decode cX8_answer 54 = .ok (.getfield 14, 3) := by decide +kernel
theorem dX8_answer_57 : decode cX8_answer 57 = .ok (.getfield 35, 3) := by decide +kernel
theorem dX8_answer_60 : decode cX8_answer 60 = .ok (.iload_n 1, 1) := by decide +kernel
theorem dX8_answer_61 : decode cX8_answer 61 = .ok (.bipush 60, 2) := by decide +kernel
theorem dX8_answer_63 : decode cX8_answer 63 = .ok (.isub, 1) := by decide +kernel
theorem dX8_answer_64 : decode cX8_answer 64 = .ok (.iaload, 1) := by decide +kernel
theorem dX8_answer_65 : decode cX8_answer 65 = .ok (.ireturn, 1) := by decide +kernel
theorem dX8_answer_66 : decode cX8_answer 66 = .ok (.iload_n 1, 1) := by decide +kernel
theorem dX8_answer_67 : decode cX8_answer 67 = .ok (.bipush 110, 2) := by decide +kernel
theorem dX8_answer_69 : decode cX8_answer 69 = .ok (.if_icmp .lt 30, 3) := by decide +kernel
theorem dX8_answer_72 : decode cX8_answer 72 = .ok (.iload_n 1, 1) := by decide +kernel
theorem dX8_answer_73 : decode cX8_answer 73 = .ok (.bipush 110, 2) := by decide +kernel
theorem dX8_answer_75 : decode cX8_answer 75 = .ok (.aload_n 0, 1) := by decide +kernel
theorem dX8_answer_76 : decode cX8_answer 76 = .ok (.getfield 20, 3) := by decide +kernel
theorem dX8_answer_79 : decode cX8_answer 79 = .ok (.getfield 23, 3) := by decide +kernel
theorem dX8_answer_82 : decode cX8_answer 82 = .ok (.iadd, 1) := by decide +kernel
theorem dX8_answer_83 : decode cX8_answer 83 = .ok (.if_icmp .ge 16, 3) := by decide +kernel
theorem dX8_answer_86 : decode cX8_answer 86 = .ok (.aload_n 0, 1) := by decide +kernel
theorem dX8_answer_87 : decode cX8_answer 87 = .ok (.getfield 20, 3) := by decide +kernel
theorem dX8_answer_90 : decode cX8_answer 90 = .ok (.getfield 35, 3) := by decide +kernel
theorem dX8_answer_93 : decode cX8_answer 93 = .ok (.iload_n 1, 1) := by decide +kernel
theorem dX8_answer_94 : decode cX8_answer 94 = .ok (.bipush 110, 2) := by decide +kernel
theorem dX8_answer_96 : decode cX8_answer 96 = .ok (.isub, 1) := by decide +kernel
theorem dX8_answer_97 : decode cX8_answer 97 = .ok (.iaload, 1) := by decide +kernel
theorem dX8_answer_98 : decode cX8_answer 98 = .ok (.ireturn, 1) := by decide +kernel
theorem dX8_answer_99 : decode cX8_answer 99 = .ok (.iload_n 1, 1) := by decide +kernel
theorem dX8_answer_100 : decode cX8_answer 100 = .ok (.tableswitch 58 0 3 #[32, 40, 48, 53], 32) := by decide +kernel
theorem dX8_answer_132 : decode cX8_answer 132 = .ok (.aload_n 0, 1) := by decide +kernel
theorem dX8_answer_133 : decode cX8_answer 133 = .ok (.getfield 14, 3) := by decide +kernel
theorem dX8_answer_136 : decode cX8_answer 136 = .ok (.getfield 23, 3) := by decide +kernel
theorem dX8_answer_139 : decode cX8_answer 139 = .ok (.ireturn, 1) := by decide +kernel
theorem dX8_answer_140 : decode cX8_answer 140 = .ok (.aload_n 0, 1) := by decide +kernel
theorem dX8_answer_141 : decode cX8_answer 141 = .ok (.getfield 20, 3) := by decide +kernel
theorem dX8_answer_144 : decode cX8_answer 144 = .ok (.getfield 23, 3) := by decide +kernel
theorem dX8_answer_147 : decode cX8_answer 147 = .ok (.ireturn, 1) := by decide +kernel
theorem dX8_answer_148 : decode cX8_answer 148 = .ok (.aload_n 0, 1) := by decide +kernel
theorem dX8_answer_149 : decode cX8_answer 149 = .ok (.invokevirtual 45, 3) := by decide +kernel
theorem dX8_answer_152 : decode cX8_answer 152 = .ok (.ireturn, 1) := by decide +kernel
theorem dX8_answer_153 : decode cX8_answer 153 = .ok (.aload_n 0, 1) := by decide +kernel
theorem dX8_answer_154 : decode cX8_answer 154 = .ok (.invokevirtual 48, 3) := by decide +kernel
theorem dX8_answer_157 : decode cX8_answer 157 = .ok (.ireturn, 1) := by decide +kernel
theorem dX8_answer_158 : decode cX8_answer 158 = .ok (.bipush (-2), 2) := by decide +kernel
theorem dX8_answer_160 : decode cX8_answer 160 = .ok (.ireturn, 1) := by decide +kernel
theorem dX8_copy_0 : decode cX8_copy 0 = .ok (.aload_n 0, 1) := by decide +kernel
theorem dX8_copy_1 : decode cX8_copy 1 = .ok (.getfield 14, 3) := by decide +kernel
theorem dX8_copy_4 : decode cX8_copy 4 = .ok (.aload_n 1, 1) := by decide +kernel
theorem dX8_copy_5 : decode cX8_copy 5 = .ok (.getfield 14, 3) := by decide +kernel
theorem dX8_copy_8 : decode cX8_copy 8 = .ok (.invokevirtual 51, 3) := by decide +kernel
theorem dX8_copy_11 : decode cX8_copy 11 = .ok (.aload_n 0, 1) := by decide +kernel
theorem dX8_copy_12 : decode cX8_copy 12 = .ok (.getfield 20, 3) := by decide +kernel
theorem dX8_copy_15 : decode cX8_copy 15 = .ok (.aload_n 1, 1) := by decide +kernel
theorem dX8_copy_16 : decode cX8_copy 16 = .ok (.getfield 20, 3) := by decide +kernel
theorem dX8_copy_19 : decode cX8_copy 19 = .ok (.invokevirtual 51, 3) := by decide +kernel
theorem dX8_copy_22 : decode cX8_copy 22 = .ok (.return_, 1) := by decide +kernel
theorem dX9_init_0 : decode cX9_init 0 = .ok (.aload_n 0, 1) := by decide +kernel
theorem dX9_init_1 : decode cX9_init 1 = .ok (.invokespecial 3, 3) := by decide +kernel
theorem dX9_init_4 : decode cX9_init 4 = .ok (.aload_n 0, 1) := by decide +kernel
theorem dX9_init_5 : decode cX9_init 5 = .ok (.sipush 600, 3) := by decide +kernel
theorem dX9_init_8 : decode cX9_init 8 = .ok (.newarray .byte, 2) := by decide +kernel
theorem dX9_init_10 : decode cX9_init 10 = .ok (.putfield 9, 3) := by decide +kernel
theorem dX9_init_13 : decode cX9_init 13 = .ok (.aload_n 0, 1) := by decide +kernel
theorem dX9_init_14 : decode cX9_init 14 = .ok (.iconst (-1), 1) := by decide +kernel
theorem dX9_init_15 : decode cX9_init 15 = .ok (.putfield 15, 3) := by decide +kernel
theorem dX9_init_18 : decode cX9_init 18 = .ok (.aload_n 0, 1) := by decide +kernel
theorem dX9_init_19 : decode cX9_init 19 = .ok (.iconst 5, 1) := by decide +kernel
theorem dX9_init_20 : decode cX9_init 20 = .ok (.newarray .int, 2) := by decide +kernel
theorem dX9_init_22 : decode cX9_init 22 = .ok (.putfield 19, 3) := by decide +kernel
theorem dX9_init_25 : decode cX9_init 25 = .ok (.aload_n 0, 1) := by decide +kernel
theorem dX9_init_26 : decode cX9_init 26 = .ok (.iconst 2, 1) := by decide +kernel
theorem dX9_init_27 : decode cX9_init 27 = .ok (.anewarray 23, 3) := by decide +kernel
theorem dX9_init_30 : decode cX9_init 30 = .ok (.putfield 25, 3) := by decide +kernel
theorem dX9_init_33 : decode cX9_init 33 = .ok (.aload_n 0, 1) := by decide +kernel
theorem dX9_init_34 : decode cX9_init 34 = .ok (.iconst 2, 1) := by decide +kernel
theorem dX9_init_35 : decode cX9_init 35 = .ok (.anewarray 29, 3) := by decide +kernel
theorem dX9_init_38 : decode cX9_init 38 = .ok (.putfield 31, 3) := by decide +kernel
theorem dX9_init_41 : decode cX9_init 41 = .ok (.aload_n 0, 1) := by decide +kernel
theorem dX9_init_42 : decode cX9_init 42 = .ok (.iconst 2, 1) := by decide +kernel
theorem dX9_init_43 : decode cX9_init 43 = .ok (.anewarray 35, 3) := by decide +kernel
theorem dX9_init_46 : decode cX9_init 46 = .ok (.putfield 37, 3) := by decide +kernel
theorem dX9_init_49 : decode cX9_init 49 = .ok (.aload_n 0, 1) := by decide +kernel
theorem dX9_init_50 : decode cX9_init 50 = .ok (.iconst 2, 1) := by decide +kernel
theorem dX9_init_51 : decode cX9_init 51 = .ok (.anewarray 29, 3) := by decide +kernel
theorem dX9_init_54 : decode cX9_init 54 = .ok (.putfield 41, 3) := by decide +kernel
theorem dX9_init_57 : decode cX9_init 57 = .ok (.aload_n 0, 1) := by decide +kernel
theorem dX9_init_58 : decode cX9_init 58 = .ok (.iconst 2, 1) := by decide +kernel
theorem dX9_init_59 : decode cX9_init 59 = .ok (.anewarray 44, 3) := by decide +kernel
theorem dX9_init_62 : decode cX9_init 62 = .ok (.putfield 46, 3) := by decide +kernel
theorem dX9_init_65 : decode cX9_init 65 = .ok (.iconst 0, 1) := by decide +kernel
theorem dX9_init_66 : decode cX9_init 66 = .ok (.istore_n 1, 1) := by decide +kernel
theorem dX9_init_67 : decode cX9_init 67 = .ok (.iload_n 1, 1) := by decide +kernel
theorem dX9_init_68 : decode cX9_init 68 = .ok (.iconst 2, 1) := by decide +kernel
theorem dX9_init_69 : decode cX9_init 69 = .ok (.if_icmp .ge 78, 3) := by decide +kernel
theorem dX9_init_72 : decode cX9_init 72 = .ok (.aload_n 0, 1) := by decide +kernel
theorem dX9_init_73 : decode cX9_init 73 = .ok (.getfield 25, 3) := by decide +kernel
theorem dX9_init_76 : decode cX9_init 76 = .ok (.iload_n 1, 1) := by decide +kernel
theorem dX9_init_77 : decode cX9_init 77 = .ok (.new 23, 3) := by decide +kernel
theorem dX9_init_80 : decode cX9_init 80 = .ok (.dup, 1) := by decide +kernel
theorem dX9_init_81 : decode cX9_init 81 = .ok (.invokespecial 50, 3) := by decide +kernel
theorem dX9_init_84 : decode cX9_init 84 = .ok (.aastore, 1) := by decide +kernel
theorem dX9_init_85 : decode cX9_init 85 = .ok (.aload_n 0, 1) := by decide +kernel
theorem dX9_init_86 : decode cX9_init 86 = .ok (.getfield 31, 3) := by decide +kernel
theorem dX9_init_89 : decode cX9_init 89 = .ok (.iload_n 1, 1) := by decide +kernel
theorem dX9_init_90 : decode cX9_init 90 = .ok (.new 29, 3) := by decide +kernel
theorem dX9_init_93 : decode cX9_init 93 = .ok (.dup, 1) := by decide +kernel
theorem dX9_init_94 : decode cX9_init 94 = .ok (.bipush 40, 2) := by decide +kernel
theorem dX9_init_96 : decode cX9_init 96 = .ok (.invokespecial 51, 3) := by decide +kernel
theorem dX9_init_99 : decode cX9_init 99 = .ok (.aastore, 1) := by decide +kernel
theorem dX9_init_100 : decode cX9_init 100 = .ok (.aload_n 0, 1) := by decide +kernel
theorem dX9_init_101 : decode cX9_init 101 = .ok (.getfield 37, 3) := by decide +kernel
theorem dX9_init_104 : decode cX9_init 104 = .ok (.iload_n 1, 1) := by decide +kernel
theorem dX9_init_105 : decode cX9_init 105 = .ok (.new 35, 3) := by decide +kernel
theorem dX9_init_108 : decode cX9_init 108 = .ok (.dup, 1) := by decide +kernel
theorem dX9_init_109 : decode cX9_init 109 = .ok (.invokespecial 54, 3) := by decide +kernel
theorem dX9_init_112 : decode cX9_init 112 = .ok (.aastore, 1) := by decide +kernel
theorem dX9_init_113 : decode cX9_init 113 = .ok (.aload_n 0, 1) := by decide +kernel
theorem dX9_init_114 : decode cX9_init 114 = .ok (.getfield 41, 3) := by decide +kernel
theorem dX9_init_117 : decode cX9_init 117 = .ok (.iload_n 1, 1) := by decide +kernel
theorem dX9_init_118 : decode cX9_init 118 = .ok (.new 29, 3) := by decide +kernel
theorem dX9_init_121 : decode cX9_init 121 = .ok (.dup, 1) := by decide +kernel
theorem dX9_init_122 : decode cX9_init 122 = .ok (.bipush 25, 2) := by decide +kernel
theorem dX9_init_124 : decode cX9_init 124 = .ok (.invokespecial 51, 3) := by decide +kernel
theorem dX9_init_127 : decode cX9_init 127 = .ok (.aastore, 1) := by decide +kernel
theorem dX9_init_128 : decode cX9_init 128 = .ok (.aload_n 0, 1) := by decide +kernel
theorem dX9_init_129 : decode cX9_init 129 = .ok (.getfield 46, 3) := by decide +kernel
theorem dX9_init_132 : decode cX9_init 132 = .ok (.iload_n 1, 1) := by decide +kernel
theorem dX9_init_133 : decode cX9_init 133 = .ok (.new 44, 3) := by decide +kernel
theorem dX9_init_136 : decode cX9_init 136 = .ok (.dup, 1) := by decide +kernel
theorem dX9_init_137 : decode cX9_init 137 = .ok (.invokespecial 55, 3) := by decide +kernel
theorem dX9_init_140 : decode cX9_init 140 = .ok (.aastore, 1) := by decide +kernel
theorem dX9_init_141 : decode cX9_init 141 = .ok (.iinc 1 1, 3) := by decide +kernel
theorem dX9_init_144 : decode cX9_init 144 = .ok (.goto (-77), 3) := by decide +kernel
theorem dX9_init_147 : decode cX9_init 147 = .ok (.return_, 1) := by decide +kernel
theorem dX9_append_0 : decode cX9_append 0 = .ok (.bipush 24, 2) := by decide +kernel
theorem dX9_append_2 : decode cX9_append 2 = .ok (.istore_n 2, 1) := by decide +kernel
theorem dX9_append_3 : decode cX9_append 3 = .ok (.iload_n 2, 1) := by decide +kernel
theorem dX9_append_4 : decode cX9_append 4 = .ok (.ifCond .lt 42, 3) := by decide +kernel
theorem dX9_append_7 : decode cX9_append 7 = .ok (.aload_n 0, 1) := by decide +kernel
theorem dX9_append_8 : decode cX9_append 8 = .ok (.getfield 56, 3) := by decide +kernel
theorem dX9_append_11 : decode cX9_append 11 = .ok (.sipush 600, 3) := by decide +kernel
theorem dX9_append_14 : decode cX9_append 14 = .ok (.if_icmp .ge 26, 3) := by decide +kernel
theorem dX9_append_17 : decode cX9_append 17 = .ok (.aload_n 0, 1) := by decide +kernel
theorem dX9_append_18 : decode cX9_append 18 = .ok (.getfield 9, 3) := by decide +kernel
theorem dX9_append_21 : decode cX9_append 21 = .ok (.aload_n 0, 1) := by decide +kernel
theorem dX9_append_22 : decode cX9_append 22 = .ok (.getfield 56, 3) := by decide +kernel
theorem dX9_append_25 : decode cX9_append 25 = .ok (.iload_n 1, 1) := by decide +kernel
theorem dX9_append_26 : decode cX9_append 26 = .ok (.iload_n 2, 1) := by decide +kernel
theorem dX9_append_27 : decode cX9_append 27 = .ok (.iushr, 1) := by decide +kernel
theorem dX9_append_28 : decode cX9_append 28 = .ok (.i2b, 1) := by decide +kernel
theorem dX9_append_29 : decode cX9_append 29 = .ok (.bastore, 1) := by decide +kernel
theorem dX9_append_30 : decode cX9_append 30 = .ok (.aload_n 0, 1) := by decide +kernel
theorem dX9_append_31 : decode cX9_append 31 = .ok (.dup, 1) := by decide +kernel
theorem dX9_append_32 : decode cX9_append 32 = .ok (.getfield 56, 3) := by decide +kernel
theorem dX9_append_35 : decode cX9_append 35 = .ok (.iconst 1, 1) := by decide +kernel
theorem dX9_append_36 : decode cX9_append 36 = .ok (.iadd, 1) := by decide +kernel
theorem dX9_append_37 : decode cX9_append 37 = .ok (.putfield 56, 3) := by decide +kernel
theorem dX9_append_40 : decode cX9_append 40 = .ok (.iinc 2 (-8), 3) := by decide +kernel
theorem dX9_append_43 : decode cX9_append 43 = .ok (.goto (-40), 3) := by decide +kernel
theorem dX9_append_46 : decode cX9_append 46 = .ok (.return_, 1) := by decide +kernel
theorem dX9_copy_0 : decode cX9_copy 0 = .ok (.aload_n 1, 1) := by decide +kernel
theorem dX9_copy_1 : decode cX9_copy 1 = .ok (.getfield 9, 3) := by decide +kernel
theorem dX9_copy_4 : decode cX9_copy 4 = .ok (.iconst 0, 1) := by decide +kernel
theorem dX9_copy_5 : decode cX9_copy 5 = .ok (.aload_n 0, 1) := by decide +kernel
theorem dX9_copy_6 : decode cX9_copy 6 = .ok (.getfield 9, 3) := by decide +kernel
theorem dX9_copy_9 : decode cX9_copy 9 = .ok (.iconst 0, 1) := by decide +kernel
theorem dX9_copy_10 : decode cX9_copy 10 = .ok (.sipush 600, 3) := by decide +kernel
theorem dX9_copy_13 : decode cX9_copy 13 = .ok (.invokestatic 59, 3) := by decide +kernel
theorem dX9_copy_16 : decode cX9_copy 16 = .ok (.aload_n 0, 1) := by decide +kernel
theorem dX9_copy_17 : decode cX9_copy 17 = .ok (.aload_n 1, 1) := by decide +kernel
theorem dX9_copy_18 : decode cX9_copy 18 = .ok (.getfield 56, 3) := by decide +kernel
theorem dX9_copy_21 : decode cX9_copy 21 = .ok (.putfield 56, 3) := by decide +kernel
theorem dX9_copy_24 : decode cX9_copy 24 = .ok (.aload_n 0, 1) := by decide +kernel
theorem dX9_copy_25 : decode cX9_copy 25 = .ok (.aload_n 1, 1) := by decide +kernel
theorem dX9_copy_26 : decode cX9_copy 26 = .ok (.getfield 65, 3) := by decide +kernel
theorem dX9_copy_29 : decode cX9_copy 29 = .ok (.putfield 65, 3) := by decide +kernel
theorem dX9_copy_32 : decode cX9_copy 32 = .ok (.aload_n 0, 1) := by decide +kernel
theorem dX9_copy_33 : decode cX9_copy 33 = .ok (.aload_n 1, 1) := by decide +kernel
theorem dX9_copy_34 : decode cX9_copy 34 = .ok (.getfield 15, 3) := by decide +kernel
theorem dX9_copy_37 : decode cX9_copy 37 = .ok (.putfield 15, 3) := by decide +kernel
theorem dX9_copy_40 : decode cX9_copy 40 = .ok (.aload_n 1, 1) := by decide +kernel
theorem dX9_copy_41 : decode cX9_copy 41 = .ok (.getfield 19, 3) := by decide +kernel
theorem dX9_copy_44 : decode cX9_copy 44 = .ok (.iconst 0, 1) := by decide +kernel
theorem dX9_copy_45 : decode cX9_copy 45 = .ok (.aload_n 0, 1) := by decide +kernel
theorem dX9_copy_46 : decode cX9_copy 46 = .ok (.getfield 19, 3) := by decide +kernel
theorem dX9_copy_49 : decode cX9_copy 49 = .ok (.iconst 0, 1) := by decide +kernel
theorem dX9_copy_50 : decode cX9_copy 50 = .ok (.iconst 5, 1) := by decide +kernel
theorem dX9_copy_51 : decode cX9_copy 51 = .ok (.invokestatic 59, 3) := by decide +kernel
theorem dX9_copy_54 : decode cX9_copy 54 = .ok (.iconst 0, 1) := by decide +kernel
theorem dX9_copy_55 : decode cX9_copy 55 = .ok (.istore_n 2, 1) := by decide +kernel
theorem dX9_copy_56 : decode cX9_copy 56 = .ok (.iload_n 2, 1) := by decide +kernel
theorem dX9_copy_57 : decode cX9_copy 57 = .ok (.iconst 2, 1) := by decide +kernel
theorem dX9_copy_58 : decode cX9_copy 58 = .ok (.if_icmp .ge 84, 3) := by decide +kernel
theorem dX9_copy_61 : decode cX9_copy 61 = .ok (.aload_n 0, 1) := by decide +kernel
theorem dX9_copy_62 : decode cX9_copy 62 = .ok (.getfield 25, 3) := by decide +kernel
theorem dX9_copy_65 : decode cX9_copy 65 = .ok (.iload_n 2, 1) := by decide +kernel
theorem dX9_copy_66 : decode cX9_copy 66 = .ok (.aaload, 1) := by decide +kernel
theorem dX9_copy_67 : decode cX9_copy 67 = .ok (.aload_n 1, 1) := by decide +kernel
theorem dX9_copy_68 : decode cX9_copy 68 = .ok (.getfield 25, 3) := by decide +kernel
theorem dX9_copy_71 : decode cX9_copy 71 = .ok (.iload_n 2, 1) := by decide +kernel
theorem dX9_copy_72 : decode cX9_copy 72 = .ok (.aaload, 1) := by decide +kernel
theorem dX9_copy_73 : decode cX9_copy 73 = .ok (.invokevirtual 68, 3) := by decide +kernel
theorem dX9_copy_76 : decode cX9_copy 76 = .ok (.aload_n 0, 1) := by decide +kernel
theorem dX9_copy_77 : decode cX9_copy 77 = .ok (.getfield 31, 3) := by decide +kernel
theorem dX9_copy_80 : decode cX9_copy 80 = .ok (.iload_n 2, 1) := by decide +kernel
theorem dX9_copy_81 : decode cX9_copy 81 = .ok (.aaload, 1) := by decide +kernel
theorem dX9_copy_82 : decode cX9_copy 82 = .ok (.aload_n 1, 1) := by decide +kernel
theorem dX9_copy_83 : decode cX9_copy 83 = .ok (.getfield 31, 3) := by decide +kernel
theorem dX9_copy_86 : decode cX9_copy 86 = .ok (.iload_n 2, 1) := by decide +kernel
theorem dX9_copy_87 : decode cX9_copy 87 = .ok (.aaload, 1) := by decide +kernel
theorem dX9_copy_88 : decode cX9_copy 88 = .ok (.invokevirtual 72, 3) := by decide +kernel
theorem dX9_copy_91 : decode cX9_copy 91 = .ok (.aload_n 0, 1) := by decide +kernel
theorem dX9_copy_92 : decode cX9_copy 92 = .ok (.getfield 37, 3) := by decide +kernel
theorem dX9_copy_95 : decode cX9_copy 95 = .ok (.iload_n 2, 1) := by decide +kernel
theorem dX9_copy_96 : decode cX9_copy 96 = .ok (.aaload, 1) := by decide +kernel
theorem dX9_copy_97 : decode cX9_copy 97 = .ok (.aload_n 1, 1) := by decide +kernel
theorem dX9_copy_98 : decode cX9_copy 98 = .ok (.getfield 37, 3) := by decide +kernel
theorem dX9_copy_101 : decode cX9_copy 101 = .ok (.iload_n 2, 1) := by decide +kernel
theorem dX9_copy_102 : decode cX9_copy 102 = .ok (.aaload, 1) := by decide +kernel
theorem dX9_copy_103 : decode cX9_copy 103 = .ok (.invokevirtual 75, 3) := by decide +kernel
theorem dX9_copy_106 : decode cX9_copy 106 = .ok (.aload_n 0, 1) := by decide +kernel
theorem dX9_copy_107 : decode cX9_copy 107 = .ok (.getfield 41, 3) := by decide +kernel
theorem dX9_copy_110 : decode cX9_copy 110 = .ok (.iload_n 2, 1) := by decide +kernel
theorem dX9_copy_111 : decode cX9_copy 111 = .ok (.aaload, 1) := by decide +kernel
theorem dX9_copy_112 : decode cX9_copy 112 = .ok (.aload_n 1, 1) := by decide +kernel
theorem dX9_copy_113 : decode cX9_copy 113 = .ok (.getfield 41, 3) := by decide +kernel
theorem dX9_copy_116 : decode cX9_copy 116 = .ok (.iload_n 2, 1) := by decide +kernel
theorem dX9_copy_117 : decode cX9_copy 117 = .ok (.aaload, 1) := by decide +kernel
theorem dX9_copy_118 : decode cX9_copy 118 = .ok (.invokevirtual 72, 3) := by decide +kernel
theorem dX9_copy_121 : decode cX9_copy 121 = .ok (.aload_n 0, 1) := by decide +kernel
theorem dX9_copy_122 : decode cX9_copy 122 = .ok (.getfield 46, 3) := by decide +kernel
theorem dX9_copy_125 : decode cX9_copy 125 = .ok (.iload_n 2, 1) := by decide +kernel
theorem dX9_copy_126 : decode cX9_copy 126 = .ok (.aaload, 1) := by decide +kernel
theorem dX9_copy_127 : decode cX9_copy 127 = .ok (.aload_n 1, 1) := by decide +kernel
theorem dX9_copy_128 : decode cX9_copy 128 = .ok (.getfield 46, 3) := by decide +kernel
theorem dX9_copy_131 : decode cX9_copy 131 = .ok (.iload_n 2, 1) := by decide +kernel
theorem dX9_copy_132 : decode cX9_copy 132 = .ok (.aaload, 1) := by decide +kernel
theorem dX9_copy_133 : decode cX9_copy 133 = .ok (.invokevirtual 78, 3) := by decide +kernel
theorem dX9_copy_136 : decode cX9_copy 136 = .ok (.iinc 2 1, 3) := by decide +kernel
theorem dX9_copy_139 : decode cX9_copy 139 = .ok (.goto (-83), 3) := by decide +kernel
theorem dX9_copy_142 : decode cX9_copy 142 = .ok (.return_, 1) := by decide +kernel
theorem dX10_init_0 : decode cX10_init 0 = .ok (.aload_n 0, 1) := by decide +kernel
theorem dX10_init_1 : decode cX10_init 1 = .ok (.invokespecial 3, 3) := by decide +kernel
theorem dX10_init_4 : decode cX10_init 4 = .ok (.aload_n 0, 1) := by decide +kernel
theorem dX10_init_5 : decode cX10_init 5 = .ok (.bipush 8, 2) := by decide +kernel
theorem dX10_init_7 : decode cX10_init 7 = .ok (.newarray .int, 2) := by decide +kernel
theorem dX10_init_9 : decode cX10_init 9 = .ok (.putfield 9, 3) := by decide +kernel
theorem dX10_init_12 : decode cX10_init 12 = .ok (.aload_n 0, 1) := by decide +kernel
theorem dX10_init_13 : decode cX10_init 13 = .ok (.bipush 8, 2) := by decide +kernel
theorem dX10_init_15 : decode cX10_init 15 = .ok (.newarray .int, 2) := by decide +kernel
theorem dX10_init_17 : decode cX10_init 17 = .ok (.putfield 15, 3) := by decide +kernel
theorem dX10_init_20 : decode cX10_init 20 = .ok (.return_, 1) := by decide +kernel
theorem dX10_whoPicks_0 : decode cX10_whoPicks 0 = .ok (.aload_n 0, 1) := by decide +kernel
theorem dX10_whoPicks_1 : decode cX10_whoPicks 1 = .ok (.aload_n 1, 1) := by decide +kernel
theorem dX10_whoPicks_2 : decode cX10_whoPicks 2 = .ok (.iload_n 2, 1) := by decide +kernel
theorem dX10_whoPicks_3 : decode cX10_whoPicks 3 = .ok (.iload_n 3, 1) := by decide +kernel
theorem dX10_whoPicks_4 : decode cX10_whoPicks 4 = .ok (.iconst (-1), 1) := by decide +kernel
theorem dX10_whoPicks_5 : decode cX10_whoPicks 5 = .ok (.iconst 0, 1) := by decide +kernel
theorem dX10_whoPicks_6 : decode cX10_whoPicks 6 = .ok (.invokevirtual 18, 3) := by decide +kernel
theorem dX10_whoPicks_9 : decode cX10_whoPicks 9 = .ok (.ireturn, 1) := by decide +kernel
theorem dX10_whoPicksIf_0 : decode cX10_whoPicksIf 0 = .ok (.iconst (-1), 1) := by decide +kernel
theorem dX10_whoPicksIf_1 : decode cX10_whoPicksIf 1 = .ok (.istore 6, 2) := by decide +kernel
theorem dX10_whoPicksIf_3 : decode cX10_whoPicksIf 3 = .ok (.iconst 0, 1) := by decide +kernel
theorem dX10_whoPicksIf_4 : decode cX10_whoPicksIf 4 = .ok (.istore 7, 2) := by decide +kernel
theorem dX10_whoPicksIf_6 : decode cX10_whoPicksIf 6 = .ok (.iconst 0, 1) := by decide +kernel
theorem dX10_whoPicksIf_7 : decode cX10_whoPicksIf 7 = .ok (.istore 8, 2) := by decide +kernel
theorem dX10_whoPicksIf_9 : decode cX10_whoPicksIf 9 = .ok (.iload 8, 2) := by decide +kernel
theorem dX10_whoPicksIf_11 : decode cX10_whoPicksIf 11 = .ok (.aload_n 1, 1) := by decide +kernel
theorem dX10_whoPicksIf_12 : decode cX10_whoPicksIf 12 = .ok (.getfield 22, 3) := by decide +kernel
theorem dX10_whoPicksIf_15 : decode cX10_whoPicksIf 15 = .ok (.if_icmp .ge 98, 3) := by decide +kernel
theorem dX10_whoPicksIf_18 : decode cX10_whoPicksIf 18 = .ok (.iload 8, 2) := by decide +kernel
theorem dX10_whoPicksIf_20 : decode cX10_whoPicksIf 20 = .ok (.iload 4, 2) := by decide +kernel
theorem dX10_whoPicksIf_22 : decode cX10_whoPicksIf 22 = .ok (.if_icmp .ne 8, 3) := by decide +kernel
theorem dX10_whoPicksIf_25 : decode cX10_whoPicksIf 25 = .ok (.iload 5, 2) := by decide +kernel
theorem dX10_whoPicksIf_27 : decode cX10_whoPicksIf 27 = .ok (.goto 10, 3) := by decide +kernel
theorem dX10_whoPicksIf_30 : decode cX10_whoPicksIf 30 = .ok (.aload_n 1, 1) := by decide +kernel
theorem dX10_whoPicksIf_31 : decode cX10_whoPicksIf 31 = .ok (.getfield 28, 3) := by decide +kernel
theorem dX10_whoPicksIf_34 : decode cX10_whoPicksIf 34 = .ok (.iload 8, 2) := by decide +kernel
theorem dX10_whoPicksIf_36 : decode cX10_whoPicksIf 36 = .ok (.iaload, 1) := by decide +kernel
theorem dX10_whoPicksIf_37 : decode cX10_whoPicksIf 37 = .ok (.iload_n 3, 1) := by decide +kernel
theorem dX10_whoPicksIf_38 : decode cX10_whoPicksIf 38 = .ok (.invokestatic 31, 3) := by decide +kernel
theorem dX10_whoPicksIf_41 : decode cX10_whoPicksIf 41 = .ok (.istore 9, 2) := by decide +kernel
theorem dX10_whoPicksIf_43 : decode cX10_whoPicksIf 43 = .ok (.iload 8, 2) := by decide +kernel
theorem dX10_whoPicksIf_45 : decode cX10_whoPicksIf 45 = .ok (.iload_n 2, 1) := by decide +kernel
theorem dX10_whoPicksIf_46 : decode cX10_whoPicksIf 46 = .ok (.if_icmp .ne 16, 3) := by decide +kernel
theorem dX10_whoPicksIf_49 : decode cX10_whoPicksIf 49 = .ok (.bipush 12, 2) := by decide +kernel
theorem dX10_whoPicksIf_51 : decode cX10_whoPicksIf 51 = .ok (.iload_n 3, 1) := by decide +kernel
theorem dX10_whoPicksIf_52 : decode cX10_whoPicksIf 52 = .ok (.invokestatic 31, 3) := by decide +kernel
theorem dX10_whoPicksIf_55 : decode cX10_whoPicksIf 55 = .ok (.aload_n 1, 1) := by decide +kernel
theorem dX10_whoPicksIf_56 : decode cX10_whoPicksIf 56 = .ok (.getfield 35, 3) := by decide +kernel
theorem dX10_whoPicksIf_59 : decode cX10_whoPicksIf 59 = .ok (.iadd, 1) := by decide +kernel
theorem dX10_whoPicksIf_60 : decode cX10_whoPicksIf 60 = .ok (.istore 9, 2) := by decide +kernel
theorem dX10_whoPicksIf_62 : decode cX10_whoPicksIf 62 = .ok (.iload 6, 2) := by decide +kernel
theorem dX10_whoPicksIf_64 : decode cX10_whoPicksIf 64 = .ok (.iconst (-1), 1) := by decide +kernel
theorem dX10_whoPicksIf_65 : decode cX10_whoPicksIf 65 = .ok (.if_icmp .eq 34, 3) := by decide +kernel
theorem dX10_whoPicksIf_68 : decode cX10_whoPicksIf 68 = .ok (.iload 9, 2) := by decide +kernel
theorem dX10_whoPicksIf_70 : decode cX10_whoPicksIf 70 = .ok (.iload 7, 2) := by decide +kernel
theorem dX10_whoPicksIf_72 : decode cX10_whoPicksIf 72 = .ok (.if_icmp .lt 27, 3) := by decide +kernel
theorem dX10_whoPicksIf_75 : decode cX10_whoPicksIf 75 = .ok (.iload 9, 2) := by decide +kernel
theorem dX10_whoPicksIf_77 : decode cX10_whoPicksIf 77 = .ok (.iload 7, 2) := by decide +kernel
theorem dX10_whoPicksIf_79 : decode cX10_whoPicksIf 79 = .ok (.if_icmp .ne 28, 3) := by decide +kernel
theorem dX10_whoPicksIf_82 : decode cX10_whoPicksIf 82 = .ok (.aload_n 1, 1) := by decide +kernel
theorem dX10_whoPicksIf_83 : decode cX10_whoPicksIf 83 = .ok (.getfield 38, 3) := by decide +kernel
theorem dX10_whoPicksIf_86 : decode cX10_whoPicksIf 86 = .ok (.iload 8, 2) := by decide +kernel
theorem dX10_whoPicksIf_88 : decode cX10_whoPicksIf 88 = .ok (.iaload, 1) := by decide +kernel
theorem dX10_whoPicksIf_89 : decode cX10_whoPicksIf 89 = .ok (.aload_n 1, 1) := by decide +kernel
theorem dX10_whoPicksIf_90 : decode cX10_whoPicksIf 90 = .ok (.getfield 38, 3) := by decide +kernel
theorem dX10_whoPicksIf_93 : decode cX10_whoPicksIf 93 = .ok (.iload 6, 2) := by decide +kernel
theorem dX10_whoPicksIf_95 : decode cX10_whoPicksIf 95 = .ok (.iaload, 1) := by decide +kernel
theorem dX10_whoPicksIf_96 : decode cX10_whoPicksIf 96 = .ok (.if_icmp .le 11, 3) := by decide +kernel
theorem dX10_whoPicksIf_99 : decode cX10_whoPicksIf 99 = .ok (.iload 8, 2) := by decide +kernel
theorem dX10_whoPicksIf_101 : decode cX10_whoPicksIf 101 = .ok (.istore 6, 2) := by decide +kernel
theorem dX10_whoPicksIf_103 : decode cX10_whoPicksIf 103 = .ok (.iload 9, 2) := by decide +kernel
theorem dX10_whoPicksIf_105 : decode cX10_whoPicksIf 105 = .ok (.istore 7, 2) := by decide +kernel
theorem dX10_whoPicksIf_107 : decode cX10_whoPicksIf 107 = .ok (.iinc 8 1, 3) := by decide +kernel
theorem dX10_whoPicksIf_110 : decode cX10_whoPicksIf 110 = .ok (.goto (-101), 3) := by decide +kernel
theorem dX10_whoPicksIf_113 : decode cX10_whoPicksIf 113 = .ok (.iload 6, 2) := by decide +kernel
theorem dX10_whoPicksIf_115 : decode cX10_whoPicksIf 115 = .ok (.ireturn, 1) := by decide +kernel
theorem dX10_weightOfAll_0 : decode cX10_weightOfAll 0 = .ok (.iconst 0, 1) := by decide +kernel
theorem dX10_weightOfAll_1 : decode cX10_weightOfAll 1 = .ok (.istore_n 2, 1) := by decide +kernel
theorem dX10_weightOfAll_2 : decode cX10_weightOfAll 2 = .ok (.iconst 0, 1) := by decide +kernel
theorem dX10_weightOfAll_3 : decode cX10_weightOfAll 3 = .ok (.istore_n 3, 1) := by decide +kernel
theorem dX10_weightOfAll_4 : decode cX10_weightOfAll 4 = .ok (.iload_n 3, 1) := by decide +kernel
theorem dX10_weightOfAll_5 : decode cX10_weightOfAll 5 = .ok (.bipush 25, 2) := by decide +kernel
theorem dX10_weightOfAll_7 : decode cX10_weightOfAll 7 = .ok (.if_icmp .ge 17, 3) := by decide +kernel
theorem dX10_weightOfAll_10 : decode cX10_weightOfAll 10 = .ok (.iload_n 2, 1) := by decide +kernel
theorem dX10_weightOfAll_11 : decode cX10_weightOfAll 11 = .ok (.aload_n 1, 1) := by decide +kernel
theorem dX10_weightOfAll_12 : decode cX10_weightOfAll 12 = .ok (.iload_n 3, 1) := by decide +kernel
theorem dX10_weightOfAll_13 : decode cX10_weightOfAll 13 = .ok (.invokevirtual 41, 3) := by decide +kernel
theorem dX10_weightOfAll_16 : decode cX10_weightOfAll 16 = .ok (.iadd, 1) := by decide +kernel
theorem dX10_weightOfAll_17 : decode cX10_weightOfAll 17 = .ok (.istore_n 2, 1) := by decide +kernel
theorem dX10_weightOfAll_18 : decode cX10_weightOfAll 18 = .ok (.iinc 3 1, 3) := by decide +kernel
theorem dX10_weightOfAll_21 : decode cX10_weightOfAll 21 = .ok (.goto (-17), 3) := by decide +kernel
theorem dX10_weightOfAll_24 : decode cX10_weightOfAll 24 = .ok (.iload_n 2, 1) := by decide +kernel
theorem dX10_weightOfAll_25 : decode cX10_weightOfAll 25 = .ok (.ireturn, 1) := by decide +kernel
theorem dX10_shareOf_0 : decode cX10_shareOf 0 = .ok (.aload_n 0, 1) := by decide +kernel
theorem dX10_shareOf_1 : decode cX10_shareOf 1 = .ok (.aload_n 1, 1) := by decide +kernel
theorem dX10_shareOf_2 : decode cX10_shareOf 2 = .ok (.iload_n 2, 1) := by decide +kernel
theorem dX10_shareOf_3 : decode cX10_shareOf 3 = .ok (.iload_n 3, 1) := by decide +kernel
theorem dX10_shareOf_4 : decode cX10_shareOf 4 = .ok (.iconst (-1), 1) := by decide +kernel
theorem dX10_shareOf_5 : decode cX10_shareOf 5 = .ok (.iconst 0, 1) := by decide +kernel
theorem dX10_shareOf_6 : decode cX10_shareOf 6 = .ok (.invokevirtual 45, 3) := by decide +kernel
theorem dX10_shareOf_9 : decode cX10_shareOf 9 = .ok (.ireturn, 1) := by decide +kernel
theorem dX10_shareIf_0 : decode cX10_shareIf 0 = .ok (.iconst 0, 1) := by decide +kernel
theorem dX10_shareIf_1 : decode cX10_shareIf 1 = .ok (.istore 6, 2) := by decide +kernel
theorem dX10_shareIf_3 : decode cX10_shareIf 3 = .ok (.iconst 0, 1) := by decide +kernel
theorem dX10_shareIf_4 : decode cX10_shareIf 4 = .ok (.istore 7, 2) := by decide +kernel
theorem dX10_shareIf_6 : decode cX10_shareIf 6 = .ok (.iload 7, 2) := by decide +kernel
theorem dX10_shareIf_8 : decode cX10_shareIf 8 = .ok (.bipush 25, 2) := by decide +kernel
theorem dX10_shareIf_10 : decode cX10_shareIf 10 = .ok (.if_icmp .ge 36, 3) := by decide +kernel
theorem dX10_shareIf_13 : decode cX10_shareIf 13 = .ok (.aload_n 0, 1) := by decide +kernel
theorem dX10_shareIf_14 : decode cX10_shareIf 14 = .ok (.aload_n 1, 1) := by decide +kernel
theorem dX10_shareIf_15 : decode cX10_shareIf 15 = .ok (.iload_n 2, 1) := by decide +kernel
theorem dX10_shareIf_16 : decode cX10_shareIf 16 = .ok (.iload 7, 2) := by decide +kernel
theorem dX10_shareIf_18 : decode cX10_shareIf 18 = .ok (.iload 4, 2) := by decide +kernel
theorem dX10_shareIf_20 : decode cX10_shareIf 20 = .ok (.iload 5, 2) := by decide +kernel
theorem dX10_shareIf_22 : decode cX10_shareIf 22 = .ok (.invokevirtual 18, 3) := by decide +kernel
theorem dX10_shareIf_25 : decode cX10_shareIf 25 = .ok (.iload_n 3, 1) := by decide +kernel
theorem dX10_shareIf_26 : decode cX10_shareIf 26 = .ok (.if_icmp .ne 14, 3) := by decide +kernel
theorem dX10_shareIf_29 : decode cX10_shareIf 29 = .ok (.iload 6, 2) := by decide +kernel
theorem dX10_shareIf_31 : decode cX10_shareIf 31 = .ok (.aload_n 1, 1) := by decide +kernel
theorem dX10_shareIf_32 : decode cX10_shareIf 32 = .ok (.iload 7, 2) := by decide +kernel
theorem dX10_shareIf_34 : decode cX10_shareIf 34 = .ok (.invokevirtual 41, 3) := by decide +kernel
theorem dX10_shareIf_37 : decode cX10_shareIf 37 = .ok (.iadd, 1) := by decide +kernel
theorem dX10_shareIf_38 : decode cX10_shareIf 38 = .ok (.istore 6, 2) := by decide +kernel
theorem dX10_shareIf_40 : decode cX10_shareIf 40 = .ok (.iinc 7 1, 3) := by decide +kernel
theorem dX10_shareIf_43 : decode cX10_shareIf 43 = .ok (.goto (-37), 3) := by decide +kernel
theorem dX10_shareIf_46 : decode cX10_shareIf 46 = .ok (.iload 6, 2) := by decide +kernel
theorem dX10_shareIf_48 : decode cX10_shareIf 48 = .ok (.ireturn, 1) := by decide +kernel
theorem dX10_bestStand_0 : decode cX10_bestStand 0 = .ok (.iconst (-1), 1) := by decide +kernel
theorem dX10_bestStand_1 : decode cX10_bestStand 1 = .ok (.istore 4, 2) := by decide +kernel
theorem dX10_bestStand_3 : decode cX10_bestStand 3 = .ok (.iconst 0, 1) := by decide +kernel
theorem dX10_bestStand_4 : decode cX10_bestStand 4 = .ok (.istore 5, 2) := by decide +kernel
theorem dX10_bestStand_6 : decode cX10_bestStand 6 = .ok (.iconst 0, 1) := by decide +kernel
theorem dX10_bestStand_7 : decode cX10_bestStand 7 = .ok (.istore 6, 2) := by decide +kernel
theorem dX10_bestStand_9 : decode cX10_bestStand 9 = .ok (.iload 6, 2) := by decide +kernel
theorem dX10_bestStand_11 : decode cX10_bestStand 11 = .ok (.bipush 25, 2) := by decide +kernel
theorem dX10_bestStand_13 : decode cX10_bestStand 13 = .ok (.if_icmp .ge 54, 3) := by decide +kernel
theorem dX10_bestStand_16 : decode cX10_bestStand 16 = .ok (.iload 6, 2) := by decide +kernel
theorem dX10_bestStand_18 : decode cX10_bestStand 18 = .ok (.invokestatic 48, 3) := by decide +kernel
theorem dX10_bestStand_21 : decode cX10_bestStand 21 = .ok (.aload_n 1, 1) := by decide +kernel
theorem dX10_bestStand_22 : decode cX10_bestStand 22 = .ok (.getfield 51, 3) := by decide +kernel
theorem dX10_bestStand_25 : decode cX10_bestStand 25 = .ok (.if_icmp .le 36, 3) := by decide +kernel
theorem dX10_bestStand_28 : decode cX10_bestStand 28 = .ok (.aload_n 0, 1) := by decide +kernel
theorem dX10_bestStand_29 : decode cX10_bestStand 29 = .ok (.aload_n 1, 1) := by decide +kernel
theorem dX10_bestStand_30 : decode cX10_bestStand 30 = .ok (.iload_n 2, 1) := by decide +kernel
theorem dX10_bestStand_31 : decode cX10_bestStand 31 = .ok (.iload_n 3, 1) := by decide +kernel
theorem dX10_bestStand_32 : decode cX10_bestStand 32 = .ok (.iload_n 3, 1) := by decide +kernel
theorem dX10_bestStand_33 : decode cX10_bestStand 33 = .ok (.iload 6, 2) := by decide +kernel
theorem dX10_bestStand_35 : decode cX10_bestStand 35 = .ok (.invokevirtual 45, 3) := by decide +kernel
theorem dX10_bestStand_38 : decode cX10_bestStand 38 = .ok (.istore 7, 2) := by decide +kernel
theorem dX10_bestStand_40 : decode cX10_bestStand 40 = .ok (.iload 4, 2) := by decide +kernel
theorem dX10_bestStand_42 : decode cX10_bestStand 42 = .ok (.iconst (-1), 1) := by decide +kernel
theorem dX10_bestStand_43 : decode cX10_bestStand 43 = .ok (.if_icmp .eq 10, 3) := by decide +kernel
theorem dX10_bestStand_46 : decode cX10_bestStand 46 = .ok (.iload 7, 2) := by decide +kernel
theorem dX10_bestStand_48 : decode cX10_bestStand 48 = .ok (.iload 5, 2) := by decide +kernel
theorem dX10_bestStand_50 : decode cX10_bestStand 50 = .ok (.if_icmp .le 11, 3) := by decide +kernel
theorem dX10_bestStand_53 : decode cX10_bestStand 53 = .ok (.iload 6, 2) := by decide +kernel
theorem dX10_bestStand_55 : decode cX10_bestStand 55 = .ok (.istore 4, 2) := by decide +kernel
theorem dX10_bestStand_57 : decode cX10_bestStand 57 = .ok (.iload 7, 2) := by decide +kernel
theorem dX10_bestStand_59 : decode cX10_bestStand 59 = .ok (.istore 5, 2) := by decide +kernel
theorem dX10_bestStand_61 : decode cX10_bestStand 61 = .ok (.iinc 6 1, 3) := by decide +kernel
theorem dX10_bestStand_64 : decode cX10_bestStand 64 = .ok (.goto (-55), 3) := by decide +kernel
theorem dX10_bestStand_67 : decode cX10_bestStand 67 = .ok (.iload 4, 2) := by decide +kernel
theorem dX10_bestStand_69 : decode cX10_bestStand 69 = .ok (.ireturn, 1) := by decide +kernel
theorem dX10_emptyBags_0 : decode cX10_emptyBags 0 = .ok (.iconst 0, 1) := by decide +kernel
theorem dX10_emptyBags_1 : decode cX10_emptyBags 1 = .ok (.istore_n 1, 1) := by decide +kernel
theorem dX10_emptyBags_2 : decode cX10_emptyBags 2 = .ok (.iload_n 1, 1) := by decide +kernel
theorem dX10_emptyBags_3 : decode cX10_emptyBags 3 = .ok (.bipush 8, 2) := by decide +kernel
theorem dX10_emptyBags_5 : decode cX10_emptyBags 5 = .ok (.if_icmp .ge 16, 3) := by decide +kernel
theorem dX10_emptyBags_8 : decode cX10_emptyBags 8 = .ok (.aload_n 0, 1) := by decide +kernel
theorem dX10_emptyBags_9 : decode cX10_emptyBags 9 = .ok (.getfield 9, 3) := by decide +kernel
theorem dX10_emptyBags_12 : decode cX10_emptyBags 12 = .ok (.iload_n 1, 1) := by decide +kernel
theorem dX10_emptyBags_13 : decode cX10_emptyBags 13 = .ok (.iconst 0, 1) := by decide +kernel
theorem dX10_emptyBags_14 : decode cX10_emptyBags 14 = .ok (.iastore, 1) := by decide +kernel
theorem dX10_emptyBags_15 : decode cX10_emptyBags 15 = .ok (.iinc 1 1, 3) := by decide +kernel
theorem dX10_emptyBags_18 : decode cX10_emptyBags 18 = .ok (.goto (-16), 3) := by decide +kernel
theorem dX10_emptyBags_21 : decode cX10_emptyBags 21 = .ok (.return_, 1) := by decide +kernel
theorem dX10_addToBag_0 : decode cX10_addToBag 0 = .ok (.iload_n 1, 1) := by decide +kernel
theorem dX10_addToBag_1 : decode cX10_addToBag 1 = .ok (.ifCond .lt 19, 3) := by decide +kernel
theorem dX10_addToBag_4 : decode cX10_addToBag 4 = .ok (.iload_n 1, 1) := by decide +kernel
theorem dX10_addToBag_5 : decode cX10_addToBag 5 = .ok (.bipush 8, 2) := by decide +kernel
theorem dX10_addToBag_7 : decode cX10_addToBag 7 = .ok (.if_icmp .ge 13, 3) := by decide +kernel
theorem dX10_addToBag_10 : decode cX10_addToBag 10 = .ok (.aload_n 0, 1) := by decide +kernel
theorem dX10_addToBag_11 : decode cX10_addToBag 11 = .ok (.getfield 9, 3) := by decide +kernel
theorem dX10_addToBag_14 : decode cX10_addToBag 14 = .ok (.iload_n 1, 1) := by decide +kernel
theorem dX10_addToBag_15 : decode cX10_addToBag 15 = .ok (.dup2, 1) := by decide +kernel
theorem dX10_addToBag_16 : decode cX10_addToBag 16 = .ok (.iaload, 1) := by decide +kernel
theorem dX10_addToBag_17 : decode cX10_addToBag 17 = .ok (.iload_n 2, 1) := by decide +kernel
theorem dX10_addToBag_18 : decode cX10_addToBag 18 = .ok (.iadd, 1) := by decide +kernel
theorem dX10_addToBag_19 : decode cX10_addToBag 19 = .ok (.iastore, 1) := by decide +kernel
theorem dX10_addToBag_20 : decode cX10_addToBag 20 = .ok (.return_, 1) := by decide +kernel
theorem dX10_fillBags_0 : decode cX10_fillBags 0 = .ok (.aload_n 0, 1) := by decide +kernel
theorem dX10_fillBags_1 : decode cX10_fillBags 1 = .ok (.invokevirtual 54, 3) := by decide +kernel
theorem dX10_fillBags_4 : decode cX10_fillBags 4 = .ok (.iload 4, 2) := by decide +kernel
theorem dX10_fillBags_6 : decode cX10_fillBags 6 = .ok (.iconst 1, 1) := by decide +kernel
theorem dX10_fillBags_7 : decode cX10_fillBags 7 = .ok (.if_icmp .eq 9, 3) := by decide +kernel
theorem dX10_fillBags_10 : decode cX10_fillBags 10 = .ok (.iload 4, 2) := by decide +kernel
theorem dX10_fillBags_12 : decode cX10_fillBags 12 = .ok (.iconst 3, 1) := by decide +kernel
theorem dX10_fillBags_13 : decode cX10_fillBags 13 = .ok (.if_icmp .ne 29, 3) := by decide +kernel
theorem dX10_fillBags_16 : decode cX10_fillBags 16 = .ok (.aload_n 0, 1) := by decide +kernel
theorem dX10_fillBags_17 : decode cX10_fillBags 17 = .ok (.aload_n 1, 1) := by decide +kernel
theorem dX10_fillBags_18 : decode cX10_fillBags 18 = .ok (.iload 4, 2) := by decide +kernel
theorem dX10_fillBags_20 : decode cX10_fillBags 20 = .ok (.iconst 3, 1) := by decide +kernel
theorem dX10_fillBags_21 : decode cX10_fillBags 21 = .ok (.if_icmp .ne 7, 3) := by decide +kernel
theorem dX10_fillBags_24 : decode cX10_fillBags 24 = .ok (.iconst 1, 1) := by decide +kernel
theorem dX10_fillBags_25 : decode cX10_fillBags 25 = .ok (.goto 4, 3) := by decide +kernel
theorem dX10_fillBags_28 : decode cX10_fillBags 28 = .ok (.iconst 0, 1) := by decide +kernel
theorem dX10_fillBags_29 : decode cX10_fillBags 29 = .ok (.invokevirtual 57, 3) := by decide +kernel
theorem dX10_fillBags_32 : decode cX10_fillBags 32 = .ok (.aload_n 0, 1) := by decide +kernel
theorem dX10_fillBags_33 : decode cX10_fillBags 33 = .ok (.aload_n 1, 1) := by decide +kernel
theorem dX10_fillBags_34 : decode cX10_fillBags 34 = .ok (.aload_n 2, 1) := by decide +kernel
theorem dX10_fillBags_35 : decode cX10_fillBags 35 = .ok (.invokevirtual 61, 3) := by decide +kernel
theorem dX10_fillBags_38 : decode cX10_fillBags 38 = .ok (.invokevirtual 67, 3) := by decide +kernel
theorem dX10_fillBags_41 : decode cX10_fillBags 41 = .ok (.return_, 1) := by decide +kernel
theorem dX10_fillBags_42 : decode cX10_fillBags 42 = .ok (.iconst 0, 1) := by decide +kernel
theorem dX10_fillBags_43 : decode cX10_fillBags 43 = .ok (.istore 5, 2) := by decide +kernel
theorem dX10_fillBags_45 : decode cX10_fillBags 45 = .ok (.iload 5, 2) := by decide +kernel
theorem dX10_fillBags_47 : decode cX10_fillBags 47 = .ok (.aload_n 2, 1) := by decide +kernel
theorem dX10_fillBags_48 : decode cX10_fillBags 48 = .ok (.getfield 71, 3) := by decide +kernel
theorem dX10_fillBags_51 : decode cX10_fillBags 51 = .ok (.if_icmp .ge 33, 3) := by decide +kernel
theorem dX10_fillBags_54 : decode cX10_fillBags 54 = .ok (.aload_n 0, 1) := by decide +kernel
theorem dX10_fillBags_55 : decode cX10_fillBags 55 = .ok (.aload_n 0, 1) := by decide +kernel
theorem dX10_fillBags_56 : decode cX10_fillBags 56 = .ok (.aload_n 1, 1) := by decide +kernel
theorem dX10_fillBags_57 : decode cX10_fillBags 57 = .ok (.iload_n 3, 1) := by decide +kernel
theorem dX10_fillBags_58 : decode cX10_fillBags 58 = .ok (.aload_n 2, 1) := by decide +kernel
theorem dX10_fillBags_59 : decode cX10_fillBags 59 = .ok (.getfield 74, 3) := by decide +kernel
theorem dX10_fillBags_62 : decode cX10_fillBags 62 = .ok (.iload 5, 2) := by decide +kernel
theorem dX10_fillBags_64 : decode cX10_fillBags 64 = .ok (.iaload, 1) := by decide +kernel
theorem dX10_fillBags_65 : decode cX10_fillBags 65 = .ok (.invokevirtual 77, 3) := by decide +kernel
theorem dX10_fillBags_68 : decode cX10_fillBags 68 = .ok (.aload_n 2, 1) := by decide +kernel
theorem dX10_fillBags_69 : decode cX10_fillBags 69 = .ok (.getfield 81, 3) := by decide +kernel
theorem dX10_fillBags_72 : decode cX10_fillBags 72 = .ok (.iload 5, 2) := by decide +kernel
theorem dX10_fillBags_74 : decode cX10_fillBags 74 = .ok (.iaload, 1) := by decide +kernel
theorem dX10_fillBags_75 : decode cX10_fillBags 75 = .ok (.invokevirtual 84, 3) := by decide +kernel
theorem dX10_fillBags_78 : decode cX10_fillBags 78 = .ok (.iinc 5 1, 3) := by decide +kernel
theorem dX10_fillBags_81 : decode cX10_fillBags 81 = .ok (.goto (-36), 3) := by decide +kernel
theorem dX10_fillBags_84 : decode cX10_fillBags 84 = .ok (.iload 4, 2) := by decide +kernel
theorem dX10_fillBags_86 : decode cX10_fillBags 86 = .ok (.iconst 2, 1) := by decide +kernel
theorem dX10_fillBags_87 : decode cX10_fillBags 87 = .ok (.if_icmp .ne 17, 3) := by decide +kernel
theorem dX10_fillBags_90 : decode cX10_fillBags 90 = .ok (.aload_n 1, 1) := by decide +kernel
theorem dX10_fillBags_91 : decode cX10_fillBags 91 = .ok (.iload_n 3, 1) := by decide +kernel
theorem dX10_fillBags_92 : decode cX10_fillBags 92 = .ok (.invokevirtual 88, 3) := by decide +kernel
theorem dX10_fillBags_95 : decode cX10_fillBags 95 = .ok (.ifCond .eq 9, 3) := by decide +kernel
theorem dX10_fillBags_98 : decode cX10_fillBags 98 = .ok (.aload_n 0, 1) := by decide +kernel
theorem dX10_fillBags_99 : decode cX10_fillBags 99 = .ok (.aload_n 1, 1) := by decide +kernel
theorem dX10_fillBags_100 : decode cX10_fillBags 100 = .ok (.iload_n 3, 1) := by decide +kernel
theorem dX10_fillBags_101 : decode cX10_fillBags 101 = .ok (.invokevirtual 92, 3) := by decide +kernel
theorem dX10_fillBags_104 : decode cX10_fillBags 104 = .ok (.return_, 1) := by decide +kernel
theorem dX10_queueUp_0 : decode cX10_queueUp 0 = .ok (.iconst 0, 1) := by decide +kernel
theorem dX10_queueUp_1 : decode cX10_queueUp 1 = .ok (.istore_n 3, 1) := by decide +kernel
theorem dX10_queueUp_2 : decode cX10_queueUp 2 = .ok (.iload_n 3, 1) := by decide +kernel
theorem dX10_queueUp_3 : decode cX10_queueUp 3 = .ok (.aload_n 1, 1) := by decide +kernel
theorem dX10_queueUp_4 : decode cX10_queueUp 4 = .ok (.getfield 22, 3) := by decide +kernel
theorem dX10_queueUp_7 : decode cX10_queueUp 7 = .ok (.if_icmp .ge 74, 3) := by decide +kernel
theorem dX10_queueUp_10 : decode cX10_queueUp 10 = .ok (.iload_n 3, 1) := by decide +kernel
theorem dX10_queueUp_11 : decode cX10_queueUp 11 = .ok (.istore 4, 2) := by decide +kernel
theorem dX10_queueUp_13 : decode cX10_queueUp 13 = .ok (.iload_n 2, 1) := by decide +kernel
theorem dX10_queueUp_14 : decode cX10_queueUp 14 = .ok (.ifCond .eq 53, 3) := by decide +kernel
theorem dX10_queueUp_17 : decode cX10_queueUp 17 = .ok (.iload 4, 2) := by decide +kernel
theorem dX10_queueUp_19 : decode cX10_queueUp 19 = .ok (.ifCond .le 48, 3) := by decide +kernel
theorem dX10_queueUp_22 : decode cX10_queueUp 22 = .ok (.aload_n 1, 1) := by decide +kernel
theorem dX10_queueUp_23 : decode cX10_queueUp 23 = .ok (.getfield 95, 3) := by decide +kernel
theorem dX10_queueUp_26 : decode cX10_queueUp 26 = .ok (.aload_n 0, 1) := by decide +kernel
theorem dX10_queueUp_27 : decode cX10_queueUp 27 = .ok (.getfield 15, 3) := by decide +kernel
theorem dX10_queueUp_30 : decode cX10_queueUp 30 = .ok (.iload 4, 2) := by decide +kernel
theorem dX10_queueUp_32 : decode cX10_queueUp 32 = .ok (.iconst 1, 1) := by decide +kernel
theorem dX10_queueUp_33 : decode cX10_queueUp 33 = .ok (.isub, 1) := by decide +kernel
theorem dX10_queueUp_34 : decode cX10_queueUp 34 = .ok (.iaload, 1) := by decide +kernel
theorem dX10_queueUp_35 : decode cX10_queueUp 35 = .ok (.iaload, 1) := by decide +kernel
theorem dX10_queueUp_36 : decode cX10_queueUp 36 = .ok (.aload_n 1, 1) := by decide +kernel
theorem dX10_queueUp_37 : decode cX10_queueUp 37 = .ok (.getfield 95, 3) := by decide +kernel
theorem dX10_queueUp_40 : decode cX10_queueUp 40 = .ok (.iload_n 3, 1) := by decide +kernel
theorem dX10_queueUp_41 : decode cX10_queueUp 41 = .ok (.iaload, 1) := by decide +kernel
theorem dX10_queueUp_42 : decode cX10_queueUp 42 = .ok (.if_icmp .le 25, 3) := by decide +kernel
theorem dX10_queueUp_45 : decode cX10_queueUp 45 = .ok (.aload_n 0, 1) := by decide +kernel
theorem dX10_queueUp_46 : decode cX10_queueUp 46 = .ok (.getfield 15, 3) := by decide +kernel
theorem dX10_queueUp_49 : decode cX10_queueUp 49 = .ok (.iload 4, 2) := by decide +kernel
theorem dX10_queueUp_51 : decode cX10_queueUp 51 = .ok (.aload_n 0, 1) := by decide +kernel
theorem dX10_queueUp_52 : decode cX10_queueUp 52 = .ok (.getfield 15, 3) := by decide +kernel
theorem dX10_queueUp_55 : decode cX10_queueUp 55 = .ok (.iload 4, 2) := by decide +kernel
theorem dX10_queueUp_57 : decode cX10_queueUp 57 = .ok (.iconst 1, 1) := by decide +kernel
theorem dX10_queueUp_58 : decode cX10_queueUp 58 = .ok (.isub, 1) := by decide +kernel
theorem dX10_queueUp_59 : decode cX10_queueUp 59 = .ok (.iaload, 1) := by decide +kernel
theorem dX10_queueUp_60 : decode cX10_queueUp 60 = .ok (.iastore, 1) := by decide +kernel
theorem dX10_queueUp_61 : decode cX10_queueUp 61 = .ok (.iinc 4 (-1), 3) := by decide +kernel
theorem dX10_queueUp_64 : decode cX10_queueUp 64 = .ok (.goto (-51), 3) := by decide +kernel
theorem dX10_queueUp_67 : decode cX10_queueUp 67 = .ok (.aload_n 0, 1) := by decide +kernel
theorem dX10_queueUp_68 : decode cX10_queueUp 68 = .ok (.getfield 15, 3) := by decide +kernel
theorem dX10_queueUp_71 : decode cX10_queueUp 71 = .ok (.iload 4, 2) := by decide +kernel
theorem dX10_queueUp_73 : decode cX10_queueUp 73 = .ok (.iload_n 3, 1) := by decide +kernel
theorem dX10_queueUp_74 : decode cX10_queueUp 74 = .ok (.iastore, 1) := by decide +kernel
theorem dX10_queueUp_75 : decode cX10_queueUp 75 = .ok (.iinc 3 1, 3) := by decide +kernel
theorem dX10_queueUp_78 : decode cX10_queueUp 78 = .ok (.goto (-76), 3) := by decide +kernel
theorem dX10_queueUp_81 : decode cX10_queueUp 81 = .ok (.return_, 1) := by decide +kernel
theorem dX10_dealOut_0 : decode cX10_dealOut 0 = .ok (.iconst 0, 1) := by decide +kernel
theorem dX10_dealOut_1 : decode cX10_dealOut 1 = .ok (.istore_n 3, 1) := by decide +kernel
theorem dX10_dealOut_2 : decode cX10_dealOut 2 = .ok (.iload_n 3, 1) := by decide +kernel
theorem dX10_dealOut_3 : decode cX10_dealOut 3 = .ok (.iload_n 2, 1) := by decide +kernel
theorem dX10_dealOut_4 : decode cX10_dealOut 4 = .ok (.if_icmp .ge 32, 3) := by decide +kernel
theorem dX10_dealOut_7 : decode cX10_dealOut 7 = .ok (.aload_n 1, 1) := by decide +kernel
theorem dX10_dealOut_8 : decode cX10_dealOut 8 = .ok (.getfield 22, 3) := by decide +kernel
theorem dX10_dealOut_11 : decode cX10_dealOut 11 = .ok (.ifCond .le 25, 3) := by decide +kernel
theorem dX10_dealOut_14 : decode cX10_dealOut 14 = .ok (.aload_n 0, 1) := by decide +kernel
theorem dX10_dealOut_15 : decode cX10_dealOut 15 = .ok (.aload_n 0, 1) := by decide +kernel
theorem dX10_dealOut_16 : decode cX10_dealOut 16 = .ok (.getfield 15, 3) := by decide +kernel
theorem dX10_dealOut_19 : decode cX10_dealOut 19 = .ok (.iload_n 3, 1) := by decide +kernel
theorem dX10_dealOut_20 : decode cX10_dealOut 20 = .ok (.aload_n 1, 1) := by decide +kernel
theorem dX10_dealOut_21 : decode cX10_dealOut 21 = .ok (.getfield 22, 3) := by decide +kernel
theorem dX10_dealOut_24 : decode cX10_dealOut 24 = .ok (.irem, 1) := by decide +kernel
theorem dX10_dealOut_25 : decode cX10_dealOut 25 = .ok (.iaload, 1) := by decide +kernel
theorem dX10_dealOut_26 : decode cX10_dealOut 26 = .ok (.iconst 1, 1) := by decide +kernel
theorem dX10_dealOut_27 : decode cX10_dealOut 27 = .ok (.invokevirtual 84, 3) := by decide +kernel
theorem dX10_dealOut_30 : decode cX10_dealOut 30 = .ok (.iinc 3 1, 3) := by decide +kernel
theorem dX10_dealOut_33 : decode cX10_dealOut 33 = .ok (.goto (-31), 3) := by decide +kernel
theorem dX10_dealOut_36 : decode cX10_dealOut 36 = .ok (.return_, 1) := by decide +kernel
theorem dX10_giveThanks_0 : decode cX10_giveThanks 0 = .ok (.iconst 0, 1) := by decide +kernel
theorem dX10_giveThanks_1 : decode cX10_giveThanks 1 = .ok (.istore_n 3, 1) := by decide +kernel
theorem dX10_giveThanks_2 : decode cX10_giveThanks 2 = .ok (.iload_n 3, 1) := by decide +kernel
theorem dX10_giveThanks_3 : decode cX10_giveThanks 3 = .ok (.aload_n 1, 1) := by decide +kernel
theorem dX10_giveThanks_4 : decode cX10_giveThanks 4 = .ok (.getfield 22, 3) := by decide +kernel
theorem dX10_giveThanks_7 : decode cX10_giveThanks 7 = .ok (.if_icmp .ge 53, 3) := by decide +kernel
theorem dX10_giveThanks_10 : decode cX10_giveThanks 10 = .ok (.iload_n 3, 1) := by decide +kernel
theorem dX10_giveThanks_11 : decode cX10_giveThanks 11 = .ok (.iload_n 2, 1) := by decide +kernel
theorem dX10_giveThanks_12 : decode cX10_giveThanks 12 = .ok (.if_icmp .eq 42, 3) := by decide +kernel
theorem dX10_giveThanks_15 : decode cX10_giveThanks 15 = .ok (.aload_n 0, 1) := by decide +kernel
theorem dX10_giveThanks_16 : decode cX10_giveThanks 16 = .ok (.getfield 9, 3) := by decide +kernel
theorem dX10_giveThanks_19 : decode cX10_giveThanks 19 = .ok (.iload_n 3, 1) := by decide +kernel
theorem dX10_giveThanks_20 : decode cX10_giveThanks 20 = .ok (.iaload, 1) := by decide +kernel
theorem dX10_giveThanks_21 : decode cX10_giveThanks 21 = .ok (.ifCond .le 33, 3) := by decide +kernel
theorem dX10_giveThanks_24 : decode cX10_giveThanks 24 = .ok (.aload_n 1, 1) := by decide +kernel
theorem dX10_giveThanks_25 : decode cX10_giveThanks 25 = .ok (.iload_n 3, 1) := by decide +kernel
theorem dX10_giveThanks_26 : decode cX10_giveThanks 26 = .ok (.iload_n 2, 1) := by decide +kernel
theorem dX10_giveThanks_27 : decode cX10_giveThanks 27 = .ok (.invokevirtual 98, 3) := by decide +kernel
theorem dX10_giveThanks_30 : decode cX10_giveThanks 30 = .ok (.iconst 2, 1) := by decide +kernel
theorem dX10_giveThanks_31 : decode cX10_giveThanks 31 = .ok (.if_icmp .ne 23, 3) := by decide +kernel
theorem dX10_giveThanks_34 : decode cX10_giveThanks 34 = .ok (.aload_n 0, 1) := by decide +kernel
theorem dX10_giveThanks_35 : decode cX10_giveThanks 35 = .ok (.getfield 9, 3) := by decide +kernel
theorem dX10_giveThanks_38 : decode cX10_giveThanks 38 = .ok (.iload_n 3, 1) := by decide +kernel
theorem dX10_giveThanks_39 : decode cX10_giveThanks 39 = .ok (.dup2, 1) := by decide +kernel
theorem dX10_giveThanks_40 : decode cX10_giveThanks 40 = .ok (.iaload, 1) := by decide +kernel
theorem dX10_giveThanks_41 : decode cX10_giveThanks 41 = .ok (.iconst 1, 1) := by decide +kernel
theorem dX10_giveThanks_42 : decode cX10_giveThanks 42 = .ok (.isub, 1) := by decide +kernel
theorem dX10_giveThanks_43 : decode cX10_giveThanks 43 = .ok (.iastore, 1) := by decide +kernel
theorem dX10_giveThanks_44 : decode cX10_giveThanks 44 = .ok (.aload_n 0, 1) := by decide +kernel
theorem dX10_giveThanks_45 : decode cX10_giveThanks 45 = .ok (.getfield 9, 3) := by decide +kernel
theorem dX10_giveThanks_48 : decode cX10_giveThanks 48 = .ok (.iload_n 2, 1) := by decide +kernel
theorem dX10_giveThanks_49 : decode cX10_giveThanks 49 = .ok (.dup2, 1) := by decide +kernel
theorem dX10_giveThanks_50 : decode cX10_giveThanks 50 = .ok (.iaload, 1) := by decide +kernel
theorem dX10_giveThanks_51 : decode cX10_giveThanks 51 = .ok (.iconst 1, 1) := by decide +kernel
theorem dX10_giveThanks_52 : decode cX10_giveThanks 52 = .ok (.iadd, 1) := by decide +kernel
theorem dX10_giveThanks_53 : decode cX10_giveThanks 53 = .ok (.iastore, 1) := by decide +kernel
theorem dX10_giveThanks_54 : decode cX10_giveThanks 54 = .ok (.iinc 3 1, 3) := by decide +kernel
theorem dX10_giveThanks_57 : decode cX10_giveThanks 57 = .ok (.goto (-55), 3) := by decide +kernel
theorem dX10_giveThanks_60 : decode cX10_giveThanks 60 = .ok (.iconst 0, 1) := by decide +kernel
theorem dX10_giveThanks_61 : decode cX10_giveThanks 61 = .ok (.istore_n 3, 1) := by decide +kernel
theorem dX10_giveThanks_62 : decode cX10_giveThanks 62 = .ok (.iload_n 3, 1) := by decide +kernel
theorem dX10_giveThanks_63 : decode cX10_giveThanks 63 = .ok (.aload_n 1, 1) := by decide +kernel
theorem dX10_giveThanks_64 : decode cX10_giveThanks 64 = .ok (.getfield 22, 3) := by decide +kernel
theorem dX10_giveThanks_67 : decode cX10_giveThanks 67 = .ok (.if_icmp .ge 52, 3) := by decide +kernel
theorem dX10_giveThanks_70 : decode cX10_giveThanks 70 = .ok (.iload_n 3, 1) := by decide +kernel
theorem dX10_giveThanks_71 : decode cX10_giveThanks 71 = .ok (.iload_n 2, 1) := by decide +kernel
theorem dX10_giveThanks_72 : decode cX10_giveThanks 72 = .ok (.if_icmp .eq 41, 3) := by decide +kernel
theorem dX10_giveThanks_75 : decode cX10_giveThanks 75 = .ok (.aload_n 0, 1) := by decide +kernel
theorem dX10_giveThanks_76 : decode cX10_giveThanks 76 = .ok (.getfield 9, 3) := by decide +kernel
theorem dX10_giveThanks_79 : decode cX10_giveThanks 79 = .ok (.iload_n 2, 1) := by decide +kernel
theorem dX10_giveThanks_80 : decode cX10_giveThanks 80 = .ok (.iaload, 1) := by decide +kernel
theorem dX10_giveThanks_81 : decode cX10_giveThanks 81 = .ok (.ifCond .le 32, 3) := by decide +kernel
theorem dX10_giveThanks_84 : decode cX10_giveThanks 84 = .ok (.aload_n 1, 1) := by decide +kernel
theorem dX10_giveThanks_85 : decode cX10_giveThanks 85 = .ok (.iload_n 3, 1) := by decide +kernel
theorem dX10_giveThanks_86 : decode cX10_giveThanks 86 = .ok (.iload_n 2, 1) := by decide +kernel
theorem dX10_giveThanks_87 : decode cX10_giveThanks 87 = .ok (.invokevirtual 98, 3) := by decide +kernel
theorem dX10_giveThanks_90 : decode cX10_giveThanks 90 = .ok (.ifCond .ne 23, 3) := by decide +kernel
theorem dX10_giveThanks_93 : decode cX10_giveThanks 93 = .ok (.aload_n 0, 1) := by decide +kernel
theorem dX10_giveThanks_94 : decode cX10_giveThanks 94 = .ok (.getfield 9, 3) := by decide +kernel
theorem dX10_giveThanks_97 : decode cX10_giveThanks 97 = .ok (.iload_n 2, 1) := by decide +kernel
theorem dX10_giveThanks_98 : decode cX10_giveThanks 98 = .ok (.dup2, 1) := by decide +kernel
theorem dX10_giveThanks_99 : decode cX10_giveThanks 99 = .ok (.iaload, 1) := by decide +kernel
theorem dX10_giveThanks_100 : decode cX10_giveThanks 100 = .ok (.iconst 1, 1) := by decide +kernel
theorem dX10_giveThanks_101 : decode cX10_giveThanks 101 = .ok (.isub, 1) := by decide +kernel
theorem dX10_giveThanks_102 : decode cX10_giveThanks 102 = .ok (.iastore, 1) := by decide +kernel
theorem dX10_giveThanks_103 : decode cX10_giveThanks 103 = .ok (.aload_n 0, 1) := by decide +kernel
theorem dX10_giveThanks_104 : decode cX10_giveThanks 104 = .ok (.getfield 9, 3) := by decide +kernel
theorem dX10_giveThanks_107 : decode cX10_giveThanks 107 = .ok (.iload_n 3, 1) := by decide +kernel
theorem dX10_giveThanks_108 : decode cX10_giveThanks 108 = .ok (.dup2, 1) := by decide +kernel
theorem dX10_giveThanks_109 : decode cX10_giveThanks 109 = .ok (.iaload, 1) := by decide +kernel
theorem dX10_giveThanks_110 : decode cX10_giveThanks 110 = .ok (.iconst 1, 1) := by decide +kernel
theorem dX10_giveThanks_111 : decode cX10_giveThanks 111 = .ok (.iadd, 1) := by decide +kernel
theorem dX10_giveThanks_112 : decode cX10_giveThanks 112 = .ok (.iastore, 1) := by decide +kernel
theorem dX10_giveThanks_113 : decode cX10_giveThanks 113 = .ok (.iinc 3 1, 3) := by decide +kernel
theorem dX10_giveThanks_116 : decode cX10_giveThanks 116 = .ok (.goto (-54), 3) := by decide +kernel
theorem dX10_giveThanks_119 : decode cX10_giveThanks 119 = .ok (.return_, 1) := by decide +kernel
theorem dX10_uneven_0 : decode cX10_uneven 0 = .ok (.aload_n 0, 1) := by decide +kernel
theorem dX10_uneven_1 : decode cX10_uneven 1 = .ok (.getfield 9, 3) := by decide +kernel
theorem dX10_uneven_4 : decode cX10_uneven 4 = .ok (.iconst 0, 1) := by decide +kernel
theorem dX10_uneven_5 : decode cX10_uneven 5 = .ok (.iaload, 1) := by decide +kernel
theorem dX10_uneven_6 : decode cX10_uneven 6 = .ok (.istore_n 2, 1) := by decide +kernel
theorem dX10_uneven_7 : decode cX10_uneven 7 = .ok (.aload_n 0, 1) := by decide +kernel
theorem dX10_uneven_8 : decode cX10_uneven 8 = .ok (.getfield 9, 3) := by decide +kernel
theorem dX10_uneven_11 : decode cX10_uneven 11 = .ok (.iconst 0, 1) := by decide +kernel
theorem dX10_uneven_12 : decode cX10_uneven 12 = .ok (.iaload, 1) := by decide +kernel
theorem dX10_uneven_13 : decode cX10_uneven 13 = .ok (.istore_n 3, 1) := by decide +kernel
theorem dX10_uneven_14 : decode cX10_uneven 14 = .ok (.iconst 1, 1) := by decide +kernel
theorem dX10_uneven_15 : decode cX10_uneven 15 = .ok (.istore 4, 2) := by decide +kernel
theorem dX10_uneven_17 : decode cX10_uneven 17 = .ok (.iload 4, 2) := by decide +kernel
theorem dX10_uneven_19 : decode cX10_uneven 19 = .ok (.aload_n 1, 1) := by decide +kernel
theorem dX10_uneven_20 : decode cX10_uneven 20 = .ok (.getfield 22, 3) := by decide +kernel
theorem dX10_uneven_23 : decode cX10_uneven 23 = .ok (.if_icmp .ge 33, 3) := by decide +kernel
theorem dX10_uneven_26 : decode cX10_uneven 26 = .ok (.iload_n 2, 1) := by decide +kernel
theorem dX10_uneven_27 : decode cX10_uneven 27 = .ok (.aload_n 0, 1) := by decide +kernel
theorem dX10_uneven_28 : decode cX10_uneven 28 = .ok (.getfield 9, 3) := by decide +kernel
theorem dX10_uneven_31 : decode cX10_uneven 31 = .ok (.iload 4, 2) := by decide +kernel
theorem dX10_uneven_33 : decode cX10_uneven 33 = .ok (.iaload, 1) := by decide +kernel
theorem dX10_uneven_34 : decode cX10_uneven 34 = .ok (.invokestatic 101, 3) := by decide +kernel
theorem dX10_uneven_37 : decode cX10_uneven 37 = .ok (.istore_n 2, 1) := by decide +kernel
theorem dX10_uneven_38 : decode cX10_uneven 38 = .ok (.iload_n 3, 1) := by decide +kernel
theorem dX10_uneven_39 : decode cX10_uneven 39 = .ok (.aload_n 0, 1) := by decide +kernel
theorem dX10_uneven_40 : decode cX10_uneven 40 = .ok (.getfield 9, 3) := by decide +kernel
theorem dX10_uneven_43 : decode cX10_uneven 43 = .ok (.iload 4, 2) := by decide +kernel
theorem dX10_uneven_45 : decode cX10_uneven 45 = .ok (.iaload, 1) := by decide +kernel
theorem dX10_uneven_46 : decode cX10_uneven 46 = .ok (.invokestatic 106, 3) := by decide +kernel
theorem dX10_uneven_49 : decode cX10_uneven 49 = .ok (.istore_n 3, 1) := by decide +kernel
theorem dX10_uneven_50 : decode cX10_uneven 50 = .ok (.iinc 4 1, 3) := by decide +kernel
theorem dX10_uneven_53 : decode cX10_uneven 53 = .ok (.goto (-36), 3) := by decide +kernel
theorem dX10_uneven_56 : decode cX10_uneven 56 = .ok (.iload_n 2, 1) := by decide +kernel
theorem dX10_uneven_57 : decode cX10_uneven 57 = .ok (.iload_n 3, 1) := by decide +kernel
theorem dX10_uneven_58 : decode cX10_uneven 58 = .ok (.isub, 1) := by decide +kernel
theorem dX10_uneven_59 : decode cX10_uneven 59 = .ok (.ireturn, 1) := by decide +kernel
theorem dX10_mostJust_0 : decode cX10_mostJust 0 = .ok (.iconst (-1), 1) := by decide +kernel
theorem dX10_mostJust_1 : decode cX10_mostJust 1 = .ok (.istore 4, 2) := by decide +kernel
theorem dX10_mostJust_3 : decode cX10_mostJust 3 = .ok (.iconst 0, 1) := by decide +kernel
theorem dX10_mostJust_4 : decode cX10_mostJust 4 = .ok (.istore 5, 2) := by decide +kernel
theorem dX10_mostJust_6 : decode cX10_mostJust 6 = .ok (.iconst 0, 1) := by decide +kernel
theorem dX10_mostJust_7 : decode cX10_mostJust 7 = .ok (.istore 6, 2) := by decide +kernel
theorem dX10_mostJust_9 : decode cX10_mostJust 9 = .ok (.iload 6, 2) := by decide +kernel
theorem dX10_mostJust_11 : decode cX10_mostJust 11 = .ok (.iconst 3, 1) := by decide +kernel
theorem dX10_mostJust_12 : decode cX10_mostJust 12 = .ok (.if_icmp .gt 46, 3) := by decide +kernel
theorem dX10_mostJust_15 : decode cX10_mostJust 15 = .ok (.aload_n 0, 1) := by decide +kernel
theorem dX10_mostJust_16 : decode cX10_mostJust 16 = .ok (.aload_n 1, 1) := by decide +kernel
theorem dX10_mostJust_17 : decode cX10_mostJust 17 = .ok (.aload_n 2, 1) := by decide +kernel
theorem dX10_mostJust_18 : decode cX10_mostJust 18 = .ok (.iload_n 3, 1) := by decide +kernel
theorem dX10_mostJust_19 : decode cX10_mostJust 19 = .ok (.iload 6, 2) := by decide +kernel
theorem dX10_mostJust_21 : decode cX10_mostJust 21 = .ok (.invokevirtual 109, 3) := by decide +kernel
theorem dX10_mostJust_24 : decode cX10_mostJust 24 = .ok (.aload_n 0, 1) := by decide +kernel
theorem dX10_mostJust_25 : decode cX10_mostJust 25 = .ok (.aload_n 1, 1) := by decide +kernel
theorem dX10_mostJust_26 : decode cX10_mostJust 26 = .ok (.invokevirtual 113, 3) := by decide +kernel
theorem dX10_mostJust_29 : decode cX10_mostJust 29 = .ok (.istore 7, 2) := by decide +kernel
theorem dX10_mostJust_31 : decode cX10_mostJust 31 = .ok (.iload 4, 2) := by decide +kernel
theorem dX10_mostJust_33 : decode cX10_mostJust 33 = .ok (.iconst (-1), 1) := by decide +kernel
theorem dX10_mostJust_34 : decode cX10_mostJust 34 = .ok (.if_icmp .eq 10, 3) := by decide +kernel
theorem dX10_mostJust_37 : decode cX10_mostJust 37 = .ok (.iload 7, 2) := by decide +kernel
theorem dX10_mostJust_39 : decode cX10_mostJust 39 = .ok (.iload 5, 2) := by decide +kernel
theorem dX10_mostJust_41 : decode cX10_mostJust 41 = .ok (.if_icmp .ge 11, 3) := by decide +kernel
theorem dX10_mostJust_44 : decode cX10_mostJust 44 = .ok (.iload 6, 2) := by decide +kernel
theorem dX10_mostJust_46 : decode cX10_mostJust 46 = .ok (.istore 4, 2) := by decide +kernel
theorem dX10_mostJust_48 : decode cX10_mostJust 48 = .ok (.iload 7, 2) := by decide +kernel
theorem dX10_mostJust_50 : decode cX10_mostJust 50 = .ok (.istore 5, 2) := by decide +kernel
theorem dX10_mostJust_52 : decode cX10_mostJust 52 = .ok (.iinc 6 1, 3) := by decide +kernel
theorem dX10_mostJust_55 : decode cX10_mostJust 55 = .ok (.goto (-46), 3) := by decide +kernel
theorem dX10_mostJust_58 : decode cX10_mostJust 58 = .ok (.iload 4, 2) := by decide +kernel
theorem dX10_mostJust_60 : decode cX10_mostJust 60 = .ok (.ireturn, 1) := by decide +kernel
theorem dX11_init_0 : decode cX11_init 0 = .ok (.aload_n 0, 1) := by decide +kernel
theorem dX11_init_1 : decode cX11_init 1 = .ok (.invokespecial 1, 3) := by decide +kernel
theorem dX11_init_4 : decode cX11_init 4 = .ok (.aload_n 0, 1) := by decide +kernel
theorem dX11_init_5 : decode cX11_init 5 = .ok (.new 7, 3) := by decide +kernel
theorem dX11_init_8 : decode cX11_init 8 = .ok (.dup, 1) := by decide +kernel
theorem dX11_init_9 : decode cX11_init 9 = .ok (.invokespecial 9, 3) := by decide +kernel
theorem dX11_init_12 : decode cX11_init 12 = .ok (.putfield 10, 3) := by decide +kernel
theorem dX11_init_15 : decode cX11_init 15 = .ok (.aload_n 0, 1) := by decide +kernel
theorem dX11_init_16 : decode cX11_init 16 = .ok (.iconst 3, 1) := by decide +kernel
theorem dX11_init_17 : decode cX11_init 17 = .ok (.anewarray 7, 3) := by decide +kernel
theorem dX11_init_20 : decode cX11_init 20 = .ok (.putfield 16, 3) := by decide +kernel
theorem dX11_init_23 : decode cX11_init 23 = .ok (.aload_n 0, 1) := by decide +kernel
theorem dX11_init_24 : decode cX11_init 24 = .ok (.iconst 3, 1) := by decide +kernel
theorem dX11_init_25 : decode cX11_init 25 = .ok (.newarray .boolean, 2) := by decide +kernel
theorem dX11_init_27 : decode cX11_init 27 = .ok (.putfield 20, 3) := by decide +kernel
theorem dX11_init_30 : decode cX11_init 30 = .ok (.aload_n 0, 1) := by decide +kernel
theorem dX11_init_31 : decode cX11_init 31 = .ok (.new 24, 3) := by decide +kernel
theorem dX11_init_34 : decode cX11_init 34 = .ok (.dup, 1) := by decide +kernel
theorem dX11_init_35 : decode cX11_init 35 = .ok (.invokespecial 26, 3) := by decide +kernel
theorem dX11_init_38 : decode cX11_init 38 = .ok (.putfield 27, 3) := by decide +kernel
theorem dX11_init_41 : decode cX11_init 41 = .ok (.aload_n 0, 1) := by decide +kernel
theorem dX11_init_42 : decode cX11_init 42 = .ok (.new 31, 3) := by decide +kernel
theorem dX11_init_45 : decode cX11_init 45 = .ok (.dup, 1) := by decide +kernel
theorem dX11_init_46 : decode cX11_init 46 = .ok (.invokespecial 33, 3) := by decide +kernel
theorem dX11_init_49 : decode cX11_init 49 = .ok (.putfield 34, 3) := by decide +kernel
theorem dX11_init_52 : decode cX11_init 52 = .ok (.aload_n 0, 1) := by decide +kernel
theorem dX11_init_53 : decode cX11_init 53 = .ok (.new 38, 3) := by decide +kernel
theorem dX11_init_56 : decode cX11_init 56 = .ok (.dup, 1) := by decide +kernel
theorem dX11_init_57 : decode cX11_init 57 = .ok (.invokespecial 40, 3) := by decide +kernel
theorem dX11_init_60 : decode cX11_init 60 = .ok (.putfield 41, 3) := by decide +kernel
theorem dX11_init_63 : decode cX11_init 63 = .ok (.aload_n 0, 1) := by decide +kernel
theorem dX11_init_64 : decode cX11_init 64 = .ok (.new 45, 3) := by decide +kernel
theorem dX11_init_67 : decode cX11_init 67 = .ok (.dup, 1) := by decide +kernel
theorem dX11_init_68 : decode cX11_init 68 = .ok (.invokespecial 47, 3) := by decide +kernel
theorem dX11_init_71 : decode cX11_init 71 = .ok (.putfield 48, 3) := by decide +kernel
theorem dX11_init_74 : decode cX11_init 74 = .ok (.aload_n 0, 1) := by decide +kernel
theorem dX11_init_75 : decode cX11_init 75 = .ok (.new 52, 3) := by decide +kernel
theorem dX11_init_78 : decode cX11_init 78 = .ok (.dup, 1) := by decide +kernel
theorem dX11_init_79 : decode cX11_init 79 = .ok (.invokespecial 54, 3) := by decide +kernel
theorem dX11_init_82 : decode cX11_init 82 = .ok (.putfield 55, 3) := by decide +kernel
theorem dX11_init_85 : decode cX11_init 85 = .ok (.aload_n 0, 1) := by decide +kernel
theorem dX11_init_86 : decode cX11_init 86 = .ok (.new 59, 3) := by decide +kernel
theorem dX11_init_89 : decode cX11_init 89 = .ok (.dup, 1) := by decide +kernel
theorem dX11_init_90 : decode cX11_init 90 = .ok (.invokespecial 61, 3) := by decide +kernel
theorem dX11_init_93 : decode cX11_init 93 = .ok (.putfield 62, 3) := by decide +kernel
theorem dX11_init_96 : decode cX11_init 96 = .ok (.iconst 0, 1) := by decide +kernel
theorem dX11_init_97 : decode cX11_init 97 = .ok (.istore_n 1, 1) := by decide +kernel
theorem dX11_init_98 : decode cX11_init 98 = .ok (.iload_n 1, 1) := by decide +kernel
theorem dX11_init_99 : decode cX11_init 99 = .ok (.iconst 3, 1) := by decide +kernel
theorem dX11_init_100 : decode cX11_init 100 = .ok (.if_icmp .ge 22, 3) := by decide +kernel
theorem dX11_init_103 : decode cX11_init 103 = .ok (.aload_n 0, 1) := by decide +kernel
theorem dX11_init_104 : decode cX11_init 104 = .ok (.getfield 16, 3) := by decide +kernel
theorem dX11_init_107 : decode cX11_init 107 = .ok (.iload_n 1, 1) := by decide +kernel
theorem dX11_init_108 : decode cX11_init 108 = .ok (.new 7, 3) := by decide +kernel
theorem dX11_init_111 : decode cX11_init 111 = .ok (.dup, 1) := by decide +kernel
theorem dX11_init_112 : decode cX11_init 112 = .ok (.invokespecial 9, 3) := by decide +kernel
theorem dX11_init_115 : decode cX11_init 115 = .ok (.aastore, 1) := by decide +kernel
theorem dX11_init_116 : decode cX11_init 116 = .ok (.iinc 1 1, 3) := by decide +kernel
theorem dX11_init_119 : decode cX11_init 119 = .ok (.goto (-21), 3) := by decide +kernel
theorem dX11_init_122 : decode cX11_init 122 = .ok (.return_, 1) := by decide +kernel
theorem dX11_feed_0 : decode cX11_feed 0 = .ok (.aload_n 0, 1) := by decide +kernel
theorem dX11_feed_1 : decode cX11_feed 1 = .ok (.getfield 10, 3) := by decide +kernel
theorem dX11_feed_4 : decode cX11_feed 4 = .ok (.getfield 66, 3) := by decide +kernel
theorem dX11_feed_7 : decode cX11_feed 7 = .ok (.bipush 20, 2) := by decide +kernel
theorem dX11_feed_9 : decode cX11_feed 9 = .ok (.iadd, 1) := by decide +kernel
theorem dX11_feed_10 : decode cX11_feed 10 = .ok (.sipush 600, 3) := by decide +kernel
theorem dX11_feed_13 : decode cX11_feed 13 = .ok (.if_icmp .le 5, 3) := by decide +kernel
theorem dX11_feed_16 : decode cX11_feed 16 = .ok (.iconst (-1), 1) := by decide +kernel
theorem dX11_feed_17 : decode cX11_feed 17 = .ok (.ireturn, 1) := by decide +kernel
theorem dX11_feed_18 : decode cX11_feed 18 = .ok (.aload_n 0, 1) := by decide +kernel
theorem dX11_feed_19 : decode cX11_feed 19 = .ok (.getfield 10, 3) := by decide +kernel
theorem dX11_feed_22 : decode cX11_feed 22 = .ok (.iload_n 1, 1) := by decide +kernel
theorem dX11_feed_23 : decode cX11_feed 23 = .ok (.invokevirtual 70, 3) := by decide +kernel
theorem dX11_feed_26 : decode cX11_feed 26 = .ok (.aload_n 0, 1) := by decide +kernel
theorem dX11_feed_27 : decode cX11_feed 27 = .ok (.getfield 10, 3) := by decide +kernel
theorem dX11_feed_30 : decode cX11_feed 30 = .ok (.iload_n 2, 1) := by decide +kernel
theorem dX11_feed_31 : decode cX11_feed 31 = .ok (.invokevirtual 70, 3) := by decide +kernel
theorem dX11_feed_34 : decode cX11_feed 34 = .ok (.aload_n 0, 1) := by decide +kernel
theorem dX11_feed_35 : decode cX11_feed 35 = .ok (.getfield 10, 3) := by decide +kernel
theorem dX11_feed_38 : decode cX11_feed 38 = .ok (.iload_n 3, 1) := by decide +kernel
theorem dX11_feed_39 : decode cX11_feed 39 = .ok (.invokevirtual 70, 3) := by decide +kernel
theorem dX11_feed_42 : decode cX11_feed 42 = .ok (.aload_n 0, 1) := by decide +kernel
theorem dX11_feed_43 : decode cX11_feed 43 = .ok (.getfield 10, 3) := by decide +kernel
theorem dX11_feed_46 : decode cX11_feed 46 = .ok (.iload 4, 2) := by decide +kernel
theorem dX11_feed_48 : decode cX11_feed 48 = .ok (.invokevirtual 70, 3) := by decide +kernel
theorem dX11_feed_51 : decode cX11_feed 51 = .ok (.aload_n 0, 1) := by decide +kernel
theorem dX11_feed_52 : decode cX11_feed 52 = .ok (.getfield 10, 3) := by decide +kernel
theorem dX11_feed_55 : decode cX11_feed 55 = .ok (.iload 5, 2) := by decide +kernel
theorem dX11_feed_57 : decode cX11_feed 57 = .ok (.invokevirtual 70, 3) := by decide +kernel
theorem dX11_feed_60 : decode cX11_feed 60 = .ok (.aload_n 0, 1) := by decide +kernel
theorem dX11_feed_61 : decode cX11_feed 61 = .ok (.getfield 10, 3) := by decide +kernel
theorem dX11_feed_64 : decode cX11_feed 64 = .ok (.getfield 66, 3) := by decide +kernel
theorem dX11_feed_67 : decode cX11_feed 67 = .ok (.ireturn, 1) := by decide +kernel
theorem dX11_end_0 : decode cX11_end 0 = .ok (.iload_n 1, 1) := by decide +kernel
theorem dX11_end_1 : decode cX11_end 1 = .ok (.ifCond .lt 14, 3) := by decide +kernel
theorem dX11_end_4 : decode cX11_end 4 = .ok (.iload_n 1, 1) := by decide +kernel
theorem dX11_end_5 : decode cX11_end 5 = .ok (.aload_n 0, 1) := by decide +kernel
theorem dX11_end_6 : decode cX11_end 6 = .ok (.getfield 10, 3) := by decide +kernel
theorem dX11_end_9 : decode cX11_end 9 = .ok (.getfield 66, 3) := by decide +kernel
theorem dX11_end_12 : decode cX11_end 12 = .ok (.if_icmp .le 5, 3) := by decide +kernel
theorem dX11_end_15 : decode cX11_end 15 = .ok (.iconst (-1), 1) := by decide +kernel
theorem dX11_end_16 : decode cX11_end 16 = .ok (.ireturn, 1) := by decide +kernel
theorem dX11_end_17 : decode cX11_end 17 = .ok (.aload_n 0, 1) := by decide +kernel
theorem dX11_end_18 : decode cX11_end 18 = .ok (.getfield 10, 3) := by decide +kernel
theorem dX11_end_21 : decode cX11_end 21 = .ok (.iload_n 1, 1) := by decide +kernel
theorem dX11_end_22 : decode cX11_end 22 = .ok (.putfield 66, 3) := by decide +kernel
theorem dX11_end_25 : decode cX11_end 25 = .ok (.iload_n 1, 1) := by decide +kernel
theorem dX11_end_26 : decode cX11_end 26 = .ok (.ireturn, 1) := by decide +kernel
theorem dX11_text_0 : decode cX11_text 0 = .ok (.aload_n 0, 1) := by decide +kernel
theorem dX11_text_1 : decode cX11_text 1 = .ok (.iload_n 1, 1) := by decide +kernel
theorem dX11_text_2 : decode cX11_text 2 = .ok (.iload_n 2, 1) := by decide +kernel
theorem dX11_text_3 : decode cX11_text 3 = .ok (.invokevirtual 74, 3) := by decide +kernel
theorem dX11_text_6 : decode cX11_text 6 = .ok (.istore_n 3, 1) := by decide +kernel
theorem dX11_text_7 : decode cX11_text 7 = .ok (.iload_n 3, 1) := by decide +kernel
theorem dX11_text_8 : decode cX11_text 8 = .ok (.iconst (-1), 1) := by decide +kernel
theorem dX11_text_9 : decode cX11_text 9 = .ok (.if_icmp .ne 30, 3) := by decide +kernel
theorem dX11_text_12 : decode cX11_text 12 = .ok (.aload_n 0, 1) := by decide +kernel
theorem dX11_text_13 : decode cX11_text 13 = .ok (.getfield 10, 3) := by decide +kernel
theorem dX11_text_16 : decode cX11_text 16 = .ok (.iconst 0, 1) := by decide +kernel
theorem dX11_text_17 : decode cX11_text 17 = .ok (.putfield 78, 3) := by decide +kernel
theorem dX11_text_20 : decode cX11_text 20 = .ok (.aload_n 0, 1) := by decide +kernel
theorem dX11_text_21 : decode cX11_text 21 = .ok (.getfield 10, 3) := by decide +kernel
theorem dX11_text_24 : decode cX11_text 24 = .ok (.iconst (-1), 1) := by decide +kernel
theorem dX11_text_25 : decode cX11_text 25 = .ok (.putfield 81, 3) := by decide +kernel
theorem dX11_text_28 : decode cX11_text 28 = .ok (.aload_n 0, 1) := by decide +kernel
theorem dX11_text_29 : decode cX11_text 29 = .ok (.getfield 10, 3) := by decide +kernel
theorem dX11_text_32 : decode cX11_text 32 = .ok (.iconst 0, 1) := by decide +kernel
theorem dX11_text_33 : decode cX11_text 33 = .ok (.putfield 66, 3) := by decide +kernel
theorem dX11_text_36 : decode cX11_text 36 = .ok (.bipush (-2), 2) := by decide +kernel
theorem dX11_text_38 : decode cX11_text 38 = .ok (.ireturn, 1) := by decide +kernel
theorem dX11_text_39 : decode cX11_text 39 = .ok (.aload_n 0, 1) := by decide +kernel
theorem dX11_text_40 : decode cX11_text 40 = .ok (.getfield 27, 3) := by decide +kernel
theorem dX11_text_43 : decode cX11_text 43 = .ok (.aload_n 0, 1) := by decide +kernel
theorem dX11_text_44 : decode cX11_text 44 = .ok (.getfield 10, 3) := by decide +kernel
theorem dX11_text_47 : decode cX11_text 47 = .ok (.iload_n 1, 1) := by decide +kernel
theorem dX11_text_48 : decode cX11_text 48 = .ok (.invokevirtual 84, 3) := by decide +kernel
theorem dX11_text_51 : decode cX11_text 51 = .ok (.istore 4, 2) := by decide +kernel
theorem dX11_text_53 : decode cX11_text 53 = .ok (.aload_n 0, 1) := by decide +kernel
theorem dX11_text_54 : decode cX11_text 54 = .ok (.getfield 10, 3) := by decide +kernel
theorem dX11_text_57 : decode cX11_text 57 = .ok (.aload_n 0, 1) := by decide +kernel
theorem dX11_text_58 : decode cX11_text 58 = .ok (.getfield 27, 3) := by decide +kernel
theorem dX11_text_61 : decode cX11_text 61 = .ok (.getfield 88, 3) := by decide +kernel
theorem dX11_text_64 : decode cX11_text 64 = .ok (.putfield 78, 3) := by decide +kernel
theorem dX11_text_67 : decode cX11_text 67 = .ok (.aload_n 0, 1) := by decide +kernel
theorem dX11_text_68 : decode cX11_text 68 = .ok (.getfield 10, 3) := by decide +kernel
theorem dX11_text_71 : decode cX11_text 71 = .ok (.aload_n 0, 1) := by decide +kernel
theorem dX11_text_72 : decode cX11_text 72 = .ok (.getfield 27, 3) := by decide +kernel
theorem dX11_text_75 : decode cX11_text 75 = .ok (.getfield 89, 3) := by decide +kernel
theorem dX11_text_78 : decode cX11_text 78 = .ok (.putfield 81, 3) := by decide +kernel
theorem dX11_text_81 : decode cX11_text 81 = .ok (.aload_n 0, 1) := by decide +kernel
theorem dX11_text_82 : decode cX11_text 82 = .ok (.getfield 10, 3) := by decide +kernel
theorem dX11_text_85 : decode cX11_text 85 = .ok (.iconst 0, 1) := by decide +kernel
theorem dX11_text_86 : decode cX11_text 86 = .ok (.putfield 66, 3) := by decide +kernel
theorem dX11_text_89 : decode cX11_text 89 = .ok (.iload 4, 2) := by decide +kernel
theorem dX11_text_91 : decode cX11_text 91 = .ok (.ifCond .ne 5, 3) := by decide +kernel
theorem dX11_text_94 : decode cX11_text 94 = .ok (.iconst (-1), 1) := by decide +kernel
theorem dX11_text_95 : decode cX11_text 95 = .ok (.ireturn, 1) := by decide +kernel
theorem dX11_text_96 : decode cX11_text 96 = .ok (.aload_n 0, 1) := by decide +kernel
theorem dX11_text_97 : decode cX11_text 97 = .ok (.iload_n 1, 1) := by decide +kernel
theorem dX11_text_98 : decode cX11_text 98 = .ok (.iload_n 3, 1) := by decide +kernel
theorem dX11_text_99 : decode cX11_text 99 = .ok (.invokevirtual 90, 3) := by decide +kernel
theorem dX11_text_102 : decode cX11_text 102 = .ok (.iload_n 3, 1) := by decide +kernel
theorem dX11_text_103 : decode cX11_text 103 = .ok (.ireturn, 1) := by decide +kernel
theorem dX11_fault_0 : decode cX11_fault 0 = .ok (.iload_n 1, 1) := by decide +kernel
theorem dX11_fault_1 : decode cX11_fault 1 = .ok (.ifCond .ne 11, 3) := by decide +kernel
theorem dX11_fault_4 : decode cX11_fault 4 = .ok (.aload_n 0, 1) := by decide +kernel
theorem dX11_fault_5 : decode cX11_fault 5 = .ok (.getfield 10, 3) := by decide +kernel
theorem dX11_fault_8 : decode cX11_fault 8 = .ok (.getfield 78, 3) := by decide +kernel
theorem dX11_fault_11 : decode cX11_fault 11 = .ok (.ireturn, 1) := by decide +kernel
theorem dX11_fault_12 : decode cX11_fault 12 = .ok (.iload_n 1, 1) := by decide +kernel
theorem dX11_fault_13 : decode cX11_fault 13 = .ok (.iconst 1, 1) := by decide +kernel
theorem dX11_fault_14 : decode cX11_fault 14 = .ok (.if_icmp .ne 13, 3) := by decide +kernel
theorem dX11_fault_17 : decode cX11_fault 17 = .ok (.aload_n 0, 1) := by decide +kernel
theorem dX11_fault_18 : decode cX11_fault 18 = .ok (.getfield 10, 3) := by decide +kernel
theorem dX11_fault_21 : decode cX11_fault 21 = .ok (.getfield 81, 3) := by decide +kernel
theorem dX11_fault_24 : decode cX11_fault 24 = .ok (.goto 4, 3) := by decide +kernel
theorem dX11_fault_27 : decode cX11_fault 27 = .ok (.iconst (-1), 1) := by decide +kernel
theorem dX11_fault_28 : decode cX11_fault 28 = .ok (.ireturn, 1) := by decide +kernel
theorem dX11_party_0 : decode cX11_party 0 = .ok (.aload_n 0, 1) := by decide +kernel
theorem dX11_party_1 : decode cX11_party 1 = .ok (.iload_n 1, 1) := by decide +kernel
theorem dX11_party_2 : decode cX11_party 2 = .ok (.invokevirtual 94, 3) := by decide +kernel
theorem dX11_party_5 : decode cX11_party 5 = .ok (.astore_n 3, 1) := by decide +kernel
theorem dX11_party_6 : decode cX11_party 6 = .ok (.aload_n 3, 1) := by decide +kernel
theorem dX11_party_7 : decode cX11_party 7 = .ok (.ifnonnull 7, 3) := by decide +kernel
theorem dX11_party_10 : decode cX11_party 10 = .ok (.iconst (-1), 1) := by decide +kernel
theorem dX11_party_11 : decode cX11_party 11 = .ok (.goto 8, 3) := by decide +kernel
theorem dX11_party_14 : decode cX11_party 14 = .ok (.aload_n 3, 1) := by decide +kernel
theorem dX11_party_15 : decode cX11_party 15 = .ok (.iload_n 2, 1) := by decide +kernel
theorem dX11_party_16 : decode cX11_party 16 = .ok (.invokevirtual 98, 3) := by decide +kernel
theorem dX11_party_19 : decode cX11_party 19 = .ok (.ireturn, 1) := by decide +kernel
theorem dX11_child_0 : decode cX11_child 0 = .ok (.aload_n 0, 1) := by decide +kernel
theorem dX11_child_1 : decode cX11_child 1 = .ok (.iload_n 1, 1) := by decide +kernel
theorem dX11_child_2 : decode cX11_child 2 = .ok (.invokevirtual 94, 3) := by decide +kernel
theorem dX11_child_5 : decode cX11_child 5 = .ok (.astore 4, 2) := by decide +kernel
theorem dX11_child_7 : decode cX11_child 7 = .ok (.aload 4, 2) := by decide +kernel
theorem dX11_child_9 : decode cX11_child 9 = .ok (.ifnull 12, 3) := by decide +kernel
theorem dX11_child_12 : decode cX11_child 12 = .ok (.aload 4, 2) := by decide +kernel
theorem dX11_child_14 : decode cX11_child 14 = .ok (.iload_n 2, 1) := by decide +kernel
theorem dX11_child_15 : decode cX11_child 15 = .ok (.invokevirtual 104, 3) := by decide +kernel
theorem dX11_child_18 : decode cX11_child 18 = .ok (.ifCond .ne 7, 3) := by decide +kernel
theorem dX11_child_21 : decode cX11_child 21 = .ok (.iconst (-1), 1) := by decide +kernel
theorem dX11_child_22 : decode cX11_child 22 = .ok (.goto 10, 3) := by decide +kernel
theorem dX11_child_25 : decode cX11_child 25 = .ok (.aload 4, 2) := by decide +kernel
theorem dX11_child_27 : decode cX11_child 27 = .ok (.iload_n 2, 1) := by decide +kernel
theorem dX11_child_28 : decode cX11_child 28 = .ok (.iload_n 3, 1) := by decide +kernel
theorem dX11_child_29 : decode cX11_child 29 = .ok (.invokevirtual 108, 3) := by decide +kernel
theorem dX11_child_32 : decode cX11_child 32 = .ok (.ireturn, 1) := by decide +kernel
theorem dX11_deed_0 : decode cX11_deed 0 = .ok (.aload_n 0, 1) := by decide +kernel
theorem dX11_deed_1 : decode cX11_deed 1 = .ok (.iload_n 1, 1) := by decide +kernel
theorem dX11_deed_2 : decode cX11_deed 2 = .ok (.invokevirtual 111, 3) := by decide +kernel
theorem dX11_deed_5 : decode cX11_deed 5 = .ok (.astore 4, 2) := by decide +kernel
theorem dX11_deed_7 : decode cX11_deed 7 = .ok (.aload 4, 2) := by decide +kernel
theorem dX11_deed_9 : decode cX11_deed 9 = .ok (.ifnonnull 6, 3) := by decide +kernel
theorem dX11_deed_12 : decode cX11_deed 12 = .ok (.bipush (-2), 2) := by decide +kernel
theorem dX11_deed_14 : decode cX11_deed 14 = .ok (.ireturn, 1) := by decide +kernel
theorem dX11_deed_15 : decode cX11_deed 15 = .ok (.iload_n 2, 1) := by decide +kernel
theorem dX11_deed_16 : decode cX11_deed 16 = .ok (.iconst (-1), 1) := by decide +kernel
theorem dX11_deed_17 : decode cX11_deed 17 = .ok (.if_icmp .ne 13, 3) := by decide +kernel
theorem dX11_deed_20 : decode cX11_deed 20 = .ok (.iload_n 3, 1) := by decide +kernel
theorem dX11_deed_21 : decode cX11_deed 21 = .ok (.ifCond .ne 9, 3) := by decide +kernel
theorem dX11_deed_24 : decode cX11_deed 24 = .ok (.aload 4, 2) := by decide +kernel
theorem dX11_deed_26 : decode cX11_deed 26 = .ok (.getfield 115, 3) := by decide +kernel
theorem dX11_deed_29 : decode cX11_deed 29 = .ok (.ireturn, 1) := by decide +kernel
theorem dX11_deed_30 : decode cX11_deed 30 = .ok (.aload 4, 2) := by decide +kernel
theorem dX11_deed_32 : decode cX11_deed 32 = .ok (.iload_n 2, 1) := by decide +kernel
theorem dX11_deed_33 : decode cX11_deed 33 = .ok (.iload_n 3, 1) := by decide +kernel
theorem dX11_deed_34 : decode cX11_deed 34 = .ok (.invokevirtual 120, 3) := by decide +kernel
theorem dX11_deed_37 : decode cX11_deed 37 = .ok (.ireturn, 1) := by decide +kernel
theorem dX11_stop_0 : decode cX11_stop 0 = .ok (.aload_n 0, 1) := by decide +kernel
theorem dX11_stop_1 : decode cX11_stop 1 = .ok (.iload_n 1, 1) := by decide +kernel
theorem dX11_stop_2 : decode cX11_stop 2 = .ok (.invokevirtual 94, 3) := by decide +kernel
theorem dX11_stop_5 : decode cX11_stop 5 = .ok (.astore_n 3, 1) := by decide +kernel
theorem dX11_stop_6 : decode cX11_stop 6 = .ok (.aload_n 0, 1) := by decide +kernel
theorem dX11_stop_7 : decode cX11_stop 7 = .ok (.iload_n 2, 1) := by decide +kernel
theorem dX11_stop_8 : decode cX11_stop 8 = .ok (.invokevirtual 111, 3) := by decide +kernel
theorem dX11_stop_11 : decode cX11_stop 11 = .ok (.astore 4, 2) := by decide +kernel
theorem dX11_stop_13 : decode cX11_stop 13 = .ok (.aload_n 3, 1) := by decide +kernel
theorem dX11_stop_14 : decode cX11_stop 14 = .ok (.ifnull 8, 3) := by decide +kernel
theorem dX11_stop_17 : decode cX11_stop 17 = .ok (.aload 4, 2) := by decide +kernel
theorem dX11_stop_19 : decode cX11_stop 19 = .ok (.ifnonnull 7, 3) := by decide +kernel
theorem dX11_stop_22 : decode cX11_stop 22 = .ok (.iconst (-1), 1) := by decide +kernel
theorem dX11_stop_23 : decode cX11_stop 23 = .ok (.goto 18, 3) := by decide +kernel
theorem dX11_stop_26 : decode cX11_stop 26 = .ok (.aload_n 0, 1) := by decide +kernel
theorem dX11_stop_27 : decode cX11_stop 27 = .ok (.getfield 34, 3) := by decide +kernel
theorem dX11_stop_30 : decode cX11_stop 30 = .ok (.aload_n 3, 1) := by decide +kernel
theorem dX11_stop_31 : decode cX11_stop 31 = .ok (.aload 4, 2) := by decide +kernel
theorem dX11_stop_33 : decode cX11_stop 33 = .ok (.aload 4, 2) := by decide +kernel
theorem dX11_stop_35 : decode cX11_stop 35 = .ok (.getfield 115, 3) := by decide +kernel
theorem dX11_stop_38 : decode cX11_stop 38 = .ok (.invokevirtual 122, 3) := by decide +kernel
theorem dX11_stop_41 : decode cX11_stop 41 = .ok (.ireturn, 1) := by decide +kernel
theorem dX11_state_0 : decode cX11_state 0 = .ok (.aload_n 0, 1) := by decide +kernel
theorem dX11_state_1 : decode cX11_state 1 = .ok (.iload_n 1, 1) := by decide +kernel
theorem dX11_state_2 : decode cX11_state 2 = .ok (.invokevirtual 94, 3) := by decide +kernel
theorem dX11_state_5 : decode cX11_state 5 = .ok (.astore 5, 2) := by decide +kernel
theorem dX11_state_7 : decode cX11_state 7 = .ok (.aload_n 0, 1) := by decide +kernel
theorem dX11_state_8 : decode cX11_state 8 = .ok (.iload_n 2, 1) := by decide +kernel
theorem dX11_state_9 : decode cX11_state 9 = .ok (.invokevirtual 111, 3) := by decide +kernel
theorem dX11_state_12 : decode cX11_state 12 = .ok (.astore 6, 2) := by decide +kernel
theorem dX11_state_14 : decode cX11_state 14 = .ok (.aload 5, 2) := by decide +kernel
theorem dX11_state_16 : decode cX11_state 16 = .ok (.ifnull 28, 3) := by decide +kernel
theorem dX11_state_19 : decode cX11_state 19 = .ok (.aload 6, 2) := by decide +kernel
theorem dX11_state_21 : decode cX11_state 21 = .ok (.ifnull 23, 3) := by decide +kernel
theorem dX11_state_24 : decode cX11_state 24 = .ok (.iload_n 3, 1) := by decide +kernel
theorem dX11_state_25 : decode cX11_state 25 = .ok (.ifCond .lt 19, 3) := by decide +kernel
theorem dX11_state_28 : decode cX11_state 28 = .ok (.aload_n 0, 1) := by decide +kernel
theorem dX11_state_29 : decode cX11_state 29 = .ok (.getfield 34, 3) := by decide +kernel
theorem dX11_state_32 : decode cX11_state 32 = .ok (.aload 5, 2) := by decide +kernel
theorem dX11_state_34 : decode cX11_state 34 = .ok (.aload 6, 2) := by decide +kernel
theorem dX11_state_36 : decode cX11_state 36 = .ok (.iload_n 3, 1) := by decide +kernel
theorem dX11_state_37 : decode cX11_state 37 = .ok (.invokevirtual 122, 3) := by decide +kernel
theorem dX11_state_40 : decode cX11_state 40 = .ok (.iload_n 3, 1) := by decide +kernel
theorem dX11_state_41 : decode cX11_state 41 = .ok (.if_icmp .eq 6, 3) := by decide +kernel
theorem dX11_state_44 : decode cX11_state 44 = .ok (.bipush (-2), 2) := by decide +kernel
theorem dX11_state_46 : decode cX11_state 46 = .ok (.ireturn, 1) := by decide +kernel
theorem dX11_state_47 : decode cX11_state 47 = .ok (.aload_n 0, 1) := by decide +kernel
theorem dX11_state_48 : decode cX11_state 48 = .ok (.getfield 34, 3) := by decide +kernel
theorem dX11_state_51 : decode cX11_state 51 = .ok (.aload 5, 2) := by decide +kernel
theorem dX11_state_53 : decode cX11_state 53 = .ok (.iload 4, 2) := by decide +kernel
theorem dX11_state_55 : decode cX11_state 55 = .ok (.invokevirtual 126, 3) := by decide +kernel
theorem dX11_state_58 : decode cX11_state 58 = .ok (.ireturn, 1) := by decide +kernel
theorem dX11_did_0 : decode cX11_did 0 = .ok (.aload_n 0, 1) := by decide +kernel
theorem dX11_did_1 : decode cX11_did 1 = .ok (.iload_n 1, 1) := by decide +kernel
theorem dX11_did_2 : decode cX11_did 2 = .ok (.invokevirtual 94, 3) := by decide +kernel
theorem dX11_did_5 : decode cX11_did 5 = .ok (.astore 6, 2) := by decide +kernel
theorem dX11_did_7 : decode cX11_did 7 = .ok (.aload_n 0, 1) := by decide +kernel
theorem dX11_did_8 : decode cX11_did 8 = .ok (.iload_n 2, 1) := by decide +kernel
theorem dX11_did_9 : decode cX11_did 9 = .ok (.invokevirtual 111, 3) := by decide +kernel
theorem dX11_did_12 : decode cX11_did 12 = .ok (.astore 7, 2) := by decide +kernel
theorem dX11_did_14 : decode cX11_did 14 = .ok (.aload 6, 2) := by decide +kernel
theorem dX11_did_16 : decode cX11_did 16 = .ok (.ifnull 38, 3) := by decide +kernel
theorem dX11_did_19 : decode cX11_did 19 = .ok (.aload 7, 2) := by decide +kernel
theorem dX11_did_21 : decode cX11_did 21 = .ok (.ifnull 33, 3) := by decide +kernel
theorem dX11_did_24 : decode cX11_did 24 = .ok (.iload_n 3, 1) := by decide +kernel
theorem dX11_did_25 : decode cX11_did 25 = .ok (.ifCond .lt 29, 3) := by decide +kernel
theorem dX11_did_28 : decode cX11_did 28 = .ok (.aload 6, 2) := by decide +kernel
theorem dX11_did_30 : decode cX11_did 30 = .ok (.iload 4, 2) := by decide +kernel
theorem dX11_did_32 : decode cX11_did 32 = .ok (.invokevirtual 104, 3) := by decide +kernel
theorem dX11_did_35 : decode cX11_did 35 = .ok (.ifCond .eq 19, 3) := by decide +kernel
theorem dX11_did_38 : decode cX11_did 38 = .ok (.aload_n 0, 1) := by decide +kernel
theorem dX11_did_39 : decode cX11_did 39 = .ok (.getfield 34, 3) := by decide +kernel
theorem dX11_did_42 : decode cX11_did 42 = .ok (.aload 6, 2) := by decide +kernel
theorem dX11_did_44 : decode cX11_did 44 = .ok (.aload 7, 2) := by decide +kernel
theorem dX11_did_46 : decode cX11_did 46 = .ok (.iload_n 3, 1) := by decide +kernel
theorem dX11_did_47 : decode cX11_did 47 = .ok (.invokevirtual 122, 3) := by decide +kernel
theorem dX11_did_50 : decode cX11_did 50 = .ok (.iload_n 3, 1) := by decide +kernel
theorem dX11_did_51 : decode cX11_did 51 = .ok (.if_icmp .eq 6, 3) := by decide +kernel
theorem dX11_did_54 : decode cX11_did 54 = .ok (.bipush (-2), 2) := by decide +kernel
theorem dX11_did_56 : decode cX11_did 56 = .ok (.ireturn, 1) := by decide +kernel
theorem dX11_did_57 : decode cX11_did 57 = .ok (.aload_n 0, 1) := by decide +kernel
theorem dX11_did_58 : decode cX11_did 58 = .ok (.getfield 34, 3) := by decide +kernel
theorem dX11_did_61 : decode cX11_did 61 = .ok (.iload 4, 2) := by decide +kernel
theorem dX11_did_63 : decode cX11_did 63 = .ok (.iload 5, 2) := by decide +kernel
theorem dX11_did_65 : decode cX11_did 65 = .ok (.invokevirtual 129, 3) := by decide +kernel
theorem dX11_did_68 : decode cX11_did 68 = .ok (.ireturn, 1) := by decide +kernel
theorem dX11_span_0 : decode cX11_span 0 = .ok (.aload_n 0, 1) := by decide +kernel
theorem dX11_span_1 : decode cX11_span 1 = .ok (.iload_n 1, 1) := by decide +kernel
theorem dX11_span_2 : decode cX11_span 2 = .ok (.invokevirtual 94, 3) := by decide +kernel
theorem dX11_span_5 : decode cX11_span 5 = .ok (.astore 4, 2) := by decide +kernel
theorem dX11_span_7 : decode cX11_span 7 = .ok (.aload_n 0, 1) := by decide +kernel
theorem dX11_span_8 : decode cX11_span 8 = .ok (.iload_n 2, 1) := by decide +kernel
theorem dX11_span_9 : decode cX11_span 9 = .ok (.invokevirtual 111, 3) := by decide +kernel
theorem dX11_span_12 : decode cX11_span 12 = .ok (.astore 5, 2) := by decide +kernel
theorem dX11_span_14 : decode cX11_span 14 = .ok (.aload 4, 2) := by decide +kernel
theorem dX11_span_16 : decode cX11_span 16 = .ok (.ifnull 8, 3) := by decide +kernel
theorem dX11_span_19 : decode cX11_span 19 = .ok (.aload 5, 2) := by decide +kernel
theorem dX11_span_21 : decode cX11_span 21 = .ok (.ifnonnull 5, 3) := by decide +kernel
theorem dX11_span_24 : decode cX11_span 24 = .ok (.iconst (-1), 1) := by decide +kernel
theorem dX11_span_25 : decode cX11_span 25 = .ok (.ireturn, 1) := by decide +kernel
theorem dX11_span_26 : decode cX11_span 26 = .ok (.aload_n 0, 1) := by decide +kernel
theorem dX11_span_27 : decode cX11_span 27 = .ok (.getfield 34, 3) := by decide +kernel
theorem dX11_span_30 : decode cX11_span 30 = .ok (.aload 4, 2) := by decide +kernel
theorem dX11_span_32 : decode cX11_span 32 = .ok (.aload 5, 2) := by decide +kernel
theorem dX11_span_34 : decode cX11_span 34 = .ok (.aload 5, 2) := by decide +kernel
theorem dX11_span_36 : decode cX11_span 36 = .ok (.getfield 115, 3) := by decide +kernel
theorem dX11_span_39 : decode cX11_span 39 = .ok (.invokevirtual 122, 3) := by decide +kernel
theorem dX11_span_42 : decode cX11_span 42 = .ok (.pop, 1) := by decide +kernel
theorem dX11_span_43 : decode cX11_span 43 = .ok (.iload_n 3, 1) := by decide +kernel
theorem dX11_span_44 : decode cX11_span 44 = .ok (.ifCond .eq 13, 3) := by decide +kernel
theorem dX11_span_47 : decode cX11_span 47 = .ok (.aload_n 0, 1) := by decide +kernel
theorem dX11_span_48 : decode cX11_span 48 = .ok (.getfield 34, 3) := by decide +kernel
theorem dX11_span_51 : decode cX11_span 51 = .ok (.invokevirtual 130, 3) := by decide +kernel
theorem dX11_span_54 : decode cX11_span 54 = .ok (.goto 10, 3) := by decide +kernel
theorem dX11_span_57 : decode cX11_span 57 = .ok (.aload_n 0, 1) := by decide +kernel
theorem dX11_span_58 : decode cX11_span 58 = .ok (.getfield 34, 3) := by decide +kernel
theorem dX11_span_61 : decode cX11_span 61 = .ok (.invokevirtual 134, 3) := by decide +kernel
theorem dX11_span_64 : decode cX11_span 64 = .ok (.ireturn, 1) := by decide +kernel
theorem dX11_clue_0 : decode cX11_clue 0 = .ok (.aload_n 0, 1) := by decide +kernel
theorem dX11_clue_1 : decode cX11_clue 1 = .ok (.iload_n 1, 1) := by decide +kernel
theorem dX11_clue_2 : decode cX11_clue 2 = .ok (.invokevirtual 137, 3) := by decide +kernel
theorem dX11_clue_5 : decode cX11_clue 5 = .ok (.astore 4, 2) := by decide +kernel
theorem dX11_clue_7 : decode cX11_clue 7 = .ok (.aload 4, 2) := by decide +kernel
theorem dX11_clue_9 : decode cX11_clue 9 = .ok (.ifnonnull 6, 3) := by decide +kernel
theorem dX11_clue_12 : decode cX11_clue 12 = .ok (.bipush (-2), 2) := by decide +kernel
theorem dX11_clue_14 : decode cX11_clue 14 = .ok (.ireturn, 1) := by decide +kernel
theorem dX11_clue_15 : decode cX11_clue 15 = .ok (.iload_n 2, 1) := by decide +kernel
theorem dX11_clue_16 : decode cX11_clue 16 = .ok (.iconst (-1), 1) := by decide +kernel
theorem dX11_clue_17 : decode cX11_clue 17 = .ok (.if_icmp .eq 14, 3) := by decide +kernel
theorem dX11_clue_20 : decode cX11_clue 20 = .ok (.aload 4, 2) := by decide +kernel
theorem dX11_clue_22 : decode cX11_clue 22 = .ok (.getfield 141, 3) := by decide +kernel
theorem dX11_clue_25 : decode cX11_clue 25 = .ok (.iload_n 2, 1) := by decide +kernel
theorem dX11_clue_26 : decode cX11_clue 26 = .ok (.iload_n 3, 1) := by decide +kernel
theorem dX11_clue_27 : decode cX11_clue 27 = .ok (.invokevirtual 120, 3) := by decide +kernel
theorem dX11_clue_30 : decode cX11_clue 30 = .ok (.ireturn, 1) := by decide +kernel
theorem dX11_clue_31 : decode cX11_clue 31 = .ok (.iload_n 3, 1) := by decide +kernel
theorem dX11_clue_32 : decode cX11_clue 32 = .ok (.ifCond .ne 12, 3) := by decide +kernel
theorem dX11_clue_35 : decode cX11_clue 35 = .ok (.aload 4, 2) := by decide +kernel
theorem dX11_clue_37 : decode cX11_clue 37 = .ok (.getfield 141, 3) := by decide +kernel
theorem dX11_clue_40 : decode cX11_clue 40 = .ok (.getfield 115, 3) := by decide +kernel
theorem dX11_clue_43 : decode cX11_clue 43 = .ok (.ireturn, 1) := by decide +kernel
theorem dX11_clue_44 : decode cX11_clue 44 = .ok (.iload_n 3, 1) := by decide +kernel
theorem dX11_clue_45 : decode cX11_clue 45 = .ok (.bipush 10, 2) := by decide +kernel
theorem dX11_clue_47 : decode cX11_clue 47 = .ok (.if_icmp .lt 22, 3) := by decide +kernel
theorem dX11_clue_50 : decode cX11_clue 50 = .ok (.iload_n 3, 1) := by decide +kernel
theorem dX11_clue_51 : decode cX11_clue 51 = .ok (.bipush 18, 2) := by decide +kernel
theorem dX11_clue_53 : decode cX11_clue 53 = .ok (.if_icmp .ge 16, 3) := by decide +kernel
theorem dX11_clue_56 : decode cX11_clue 56 = .ok (.aload 4, 2) := by decide +kernel
theorem dX11_clue_58 : decode cX11_clue 58 = .ok (.getfield 147, 3) := by decide +kernel
theorem dX11_clue_61 : decode cX11_clue 61 = .ok (.iload_n 3, 1) := by decide +kernel
theorem dX11_clue_62 : decode cX11_clue 62 = .ok (.bipush 10, 2) := by decide +kernel
theorem dX11_clue_64 : decode cX11_clue 64 = .ok (.isub, 1) := by decide +kernel
theorem dX11_clue_65 : decode cX11_clue 65 = .ok (.iaload, 1) := by decide +kernel
theorem dX11_clue_66 : decode cX11_clue 66 = .ok (.goto 5, 3) := by decide +kernel
theorem dX11_clue_69 : decode cX11_clue 69 = .ok (.bipush (-2), 2) := by decide +kernel
theorem dX11_clue_71 : decode cX11_clue 71 = .ok (.ireturn, 1) := by decide +kernel
theorem dX11_hangs_0 : decode cX11_hangs 0 = .ok (.aload_n 0, 1) := by decide +kernel
theorem dX11_hangs_1 : decode cX11_hangs 1 = .ok (.iload_n 1, 1) := by decide +kernel
theorem dX11_hangs_2 : decode cX11_hangs 2 = .ok (.invokevirtual 94, 3) := by decide +kernel
theorem dX11_hangs_5 : decode cX11_hangs 5 = .ok (.astore 5, 2) := by decide +kernel
theorem dX11_hangs_7 : decode cX11_hangs 7 = .ok (.aload_n 0, 1) := by decide +kernel
theorem dX11_hangs_8 : decode cX11_hangs 8 = .ok (.iload_n 2, 1) := by decide +kernel
theorem dX11_hangs_9 : decode cX11_hangs 9 = .ok (.invokevirtual 137, 3) := by decide +kernel
theorem dX11_hangs_12 : decode cX11_hangs 12 = .ok (.astore 6, 2) := by decide +kernel
theorem dX11_hangs_14 : decode cX11_hangs 14 = .ok (.aload 5, 2) := by decide +kernel
theorem dX11_hangs_16 : decode cX11_hangs 16 = .ok (.ifnull 18, 3) := by decide +kernel
theorem dX11_hangs_19 : decode cX11_hangs 19 = .ok (.aload 6, 2) := by decide +kernel
theorem dX11_hangs_21 : decode cX11_hangs 21 = .ok (.ifnull 13, 3) := by decide +kernel
theorem dX11_hangs_24 : decode cX11_hangs 24 = .ok (.iload_n 3, 1) := by decide +kernel
theorem dX11_hangs_25 : decode cX11_hangs 25 = .ok (.ifCond .lt 9, 3) := by decide +kernel
theorem dX11_hangs_28 : decode cX11_hangs 28 = .ok (.iload_n 3, 1) := by decide +kernel
theorem dX11_hangs_29 : decode cX11_hangs 29 = .ok (.bipush 8, 2) := by decide +kernel
theorem dX11_hangs_31 : decode cX11_hangs 31 = .ok (.if_icmp .lt 7, 3) := by decide +kernel
theorem dX11_hangs_34 : decode cX11_hangs 34 = .ok (.ldc2_w 151, 3) := by decide +kernel
theorem dX11_hangs_37 : decode cX11_hangs 37 = .ok (.lreturn, 1) := by decide +kernel
theorem dX11_hangs_38 : decode cX11_hangs 38 = .ok (.aload_n 0, 1) := by decide +kernel
theorem dX11_hangs_39 : decode cX11_hangs 39 = .ok (.getfield 41, 3) := by decide +kernel
theorem dX11_hangs_42 : decode cX11_hangs 42 = .ok (.aload 5, 2) := by decide +kernel
theorem dX11_hangs_44 : decode cX11_hangs 44 = .ok (.aload 6, 2) := by decide +kernel
theorem dX11_hangs_46 : decode cX11_hangs 46 = .ok (.iconst (-1), 1) := by decide +kernel
theorem dX11_hangs_47 : decode cX11_hangs 47 = .ok (.invokevirtual 153, 3) := by decide +kernel
theorem dX11_hangs_50 : decode cX11_hangs 50 = .ok (.aload_n 0, 1) := by decide +kernel
theorem dX11_hangs_51 : decode cX11_hangs 51 = .ok (.getfield 41, 3) := by decide +kernel
theorem dX11_hangs_54 : decode cX11_hangs 54 = .ok (.getfield 157, 3) := by decide +kernel
theorem dX11_hangs_57 : decode cX11_hangs 57 = .ok (.lconst 0, 1) := by decide +kernel
theorem dX11_hangs_58 : decode cX11_hangs 58 = .ok (.lcmp, 1) := by decide +kernel
theorem dX11_hangs_59 : decode cX11_hangs 59 = .ok (.ifCond .ne 9, 3) := by decide +kernel
theorem dX11_hangs_62 : decode cX11_hangs 62 = .ok (.ldc2_w 151, 3) := by decide +kernel
theorem dX11_hangs_65 : decode cX11_hangs 65 = .ok (.goto 24, 3) := by decide +kernel
theorem dX11_hangs_68 : decode cX11_hangs 68 = .ok (.aload_n 0, 1) := by decide +kernel
theorem dX11_hangs_69 : decode cX11_hangs 69 = .ok (.getfield 41, 3) := by decide +kernel
theorem dX11_hangs_72 : decode cX11_hangs 72 = .ok (.getfield 161, 3) := by decide +kernel
theorem dX11_hangs_75 : decode cX11_hangs 75 = .ok (.iload_n 3, 1) := by decide +kernel
theorem dX11_hangs_76 : decode cX11_hangs 76 = .ok (.laload, 1) := by decide +kernel
theorem dX11_hangs_77 : decode cX11_hangs 77 = .ok (.aload_n 0, 1) := by decide +kernel
theorem dX11_hangs_78 : decode cX11_hangs 78 = .ok (.getfield 41, 3) := by decide +kernel
theorem dX11_hangs_81 : decode cX11_hangs 81 = .ok (.getfield 157, 3) := by decide +kernel
theorem dX11_hangs_84 : decode cX11_hangs 84 = .ok (.iload 4, 2) := by decide +kernel
theorem dX11_hangs_86 : decode cX11_hangs 86 = .ok (.invokestatic 165, 3) := by decide +kernel
theorem dX11_hangs_89 : decode cX11_hangs 89 = .ok (.lreturn, 1) := by decide +kernel
theorem dX11_aim_0 : decode cX11_aim 0 = .ok (.aload_n 0, 1) := by decide +kernel
theorem dX11_aim_1 : decode cX11_aim 1 = .ok (.iload_n 1, 1) := by decide +kernel
theorem dX11_aim_2 : decode cX11_aim 2 = .ok (.invokevirtual 94, 3) := by decide +kernel
theorem dX11_aim_5 : decode cX11_aim 5 = .ok (.astore 4, 2) := by decide +kernel
theorem dX11_aim_7 : decode cX11_aim 7 = .ok (.aload_n 0, 1) := by decide +kernel
theorem dX11_aim_8 : decode cX11_aim 8 = .ok (.iload_n 2, 1) := by decide +kernel
theorem dX11_aim_9 : decode cX11_aim 9 = .ok (.invokevirtual 137, 3) := by decide +kernel
theorem dX11_aim_12 : decode cX11_aim 12 = .ok (.astore 5, 2) := by decide +kernel
theorem dX11_aim_14 : decode cX11_aim 14 = .ok (.aload 4, 2) := by decide +kernel
theorem dX11_aim_16 : decode cX11_aim 16 = .ok (.ifnull 8, 3) := by decide +kernel
theorem dX11_aim_19 : decode cX11_aim 19 = .ok (.aload 5, 2) := by decide +kernel
theorem dX11_aim_21 : decode cX11_aim 21 = .ok (.ifnonnull 6, 3) := by decide +kernel
theorem dX11_aim_24 : decode cX11_aim 24 = .ok (.bipush (-2), 2) := by decide +kernel
theorem dX11_aim_26 : decode cX11_aim 26 = .ok (.ireturn, 1) := by decide +kernel
theorem dX11_aim_27 : decode cX11_aim 27 = .ok (.iload_n 3, 1) := by decide +kernel
theorem dX11_aim_28 : decode cX11_aim 28 = .ok (.tableswitch 65 0 2 #[28, 41, 53], 28) := by decide +kernel
theorem dX11_aim_56 : decode cX11_aim 56 = .ok (.aload_n 0, 1) := by decide +kernel
theorem dX11_aim_57 : decode cX11_aim 57 = .ok (.getfield 41, 3) := by decide +kernel
theorem dX11_aim_60 : decode cX11_aim 60 = .ok (.aload 4, 2) := by decide +kernel
theorem dX11_aim_62 : decode cX11_aim 62 = .ok (.aload 5, 2) := by decide +kernel
theorem dX11_aim_64 : decode cX11_aim 64 = .ok (.iconst (-1), 1) := by decide +kernel
theorem dX11_aim_65 : decode cX11_aim 65 = .ok (.invokevirtual 169, 3) := by decide +kernel
theorem dX11_aim_68 : decode cX11_aim 68 = .ok (.ireturn, 1) := by decide +kernel
theorem dX11_aim_69 : decode cX11_aim 69 = .ok (.aload_n 0, 1) := by decide +kernel
theorem dX11_aim_70 : decode cX11_aim 70 = .ok (.getfield 41, 3) := by decide +kernel
theorem dX11_aim_73 : decode cX11_aim 73 = .ok (.aload 4, 2) := by decide +kernel
theorem dX11_aim_75 : decode cX11_aim 75 = .ok (.aload 5, 2) := by decide +kernel
theorem dX11_aim_77 : decode cX11_aim 77 = .ok (.invokevirtual 173, 3) := by decide +kernel
theorem dX11_aim_80 : decode cX11_aim 80 = .ok (.ireturn, 1) := by decide +kernel
theorem dX11_aim_81 : decode cX11_aim 81 = .ok (.aload_n 0, 1) := by decide +kernel
theorem dX11_aim_82 : decode cX11_aim 82 = .ok (.getfield 41, 3) := by decide +kernel
theorem dX11_aim_85 : decode cX11_aim 85 = .ok (.aload 4, 2) := by decide +kernel
theorem dX11_aim_87 : decode cX11_aim 87 = .ok (.aload 5, 2) := by decide +kernel
theorem dX11_aim_89 : decode cX11_aim 89 = .ok (.invokevirtual 177, 3) := by decide +kernel
theorem dX11_aim_92 : decode cX11_aim 92 = .ok (.ireturn, 1) := by decide +kernel
theorem dX11_aim_93 : decode cX11_aim 93 = .ok (.bipush (-2), 2) := by decide +kernel
theorem dX11_aim_95 : decode cX11_aim 95 = .ok (.ireturn, 1) := by decide +kernel
theorem dX11_luck_0 : decode cX11_luck 0 = .ok (.aload_n 0, 1) := by decide +kernel
theorem dX11_luck_1 : decode cX11_luck 1 = .ok (.iload_n 1, 1) := by decide +kernel
theorem dX11_luck_2 : decode cX11_luck 2 = .ok (.invokevirtual 94, 3) := by decide +kernel
theorem dX11_luck_5 : decode cX11_luck 5 = .ok (.astore 5, 2) := by decide +kernel
theorem dX11_luck_7 : decode cX11_luck 7 = .ok (.aload_n 0, 1) := by decide +kernel
theorem dX11_luck_8 : decode cX11_luck 8 = .ok (.iload_n 2, 1) := by decide +kernel
theorem dX11_luck_9 : decode cX11_luck 9 = .ok (.invokevirtual 137, 3) := by decide +kernel
theorem dX11_luck_12 : decode cX11_luck 12 = .ok (.astore 6, 2) := by decide +kernel
theorem dX11_luck_14 : decode cX11_luck 14 = .ok (.aload 5, 2) := by decide +kernel
theorem dX11_luck_16 : decode cX11_luck 16 = .ok (.ifnull 18, 3) := by decide +kernel
theorem dX11_luck_19 : decode cX11_luck 19 = .ok (.aload 6, 2) := by decide +kernel
theorem dX11_luck_21 : decode cX11_luck 21 = .ok (.ifnull 13, 3) := by decide +kernel
theorem dX11_luck_24 : decode cX11_luck 24 = .ok (.iload_n 3, 1) := by decide +kernel
theorem dX11_luck_25 : decode cX11_luck 25 = .ok (.ifCond .lt 9, 3) := by decide +kernel
theorem dX11_luck_28 : decode cX11_luck 28 = .ok (.iload_n 3, 1) := by decide +kernel
theorem dX11_luck_29 : decode cX11_luck 29 = .ok (.bipush 8, 2) := by decide +kernel
theorem dX11_luck_31 : decode cX11_luck 31 = .ok (.if_icmp .lt 7, 3) := by decide +kernel
theorem dX11_luck_34 : decode cX11_luck 34 = .ok (.ldc2_w 151, 3) := by decide +kernel
theorem dX11_luck_37 : decode cX11_luck 37 = .ok (.lreturn, 1) := by decide +kernel
theorem dX11_luck_38 : decode cX11_luck 38 = .ok (.aload_n 0, 1) := by decide +kernel
theorem dX11_luck_39 : decode cX11_luck 39 = .ok (.getfield 41, 3) := by decide +kernel
theorem dX11_luck_42 : decode cX11_luck 42 = .ok (.aload 5, 2) := by decide +kernel
theorem dX11_luck_44 : decode cX11_luck 44 = .ok (.aload 6, 2) := by decide +kernel
theorem dX11_luck_46 : decode cX11_luck 46 = .ok (.iconst (-1), 1) := by decide +kernel
theorem dX11_luck_47 : decode cX11_luck 47 = .ok (.invokevirtual 153, 3) := by decide +kernel
theorem dX11_luck_50 : decode cX11_luck 50 = .ok (.aload_n 0, 1) := by decide +kernel
theorem dX11_luck_51 : decode cX11_luck 51 = .ok (.getfield 41, 3) := by decide +kernel
theorem dX11_luck_54 : decode cX11_luck 54 = .ok (.getfield 157, 3) := by decide +kernel
theorem dX11_luck_57 : decode cX11_luck 57 = .ok (.lconst 0, 1) := by decide +kernel
theorem dX11_luck_58 : decode cX11_luck 58 = .ok (.lcmp, 1) := by decide +kernel
theorem dX11_luck_59 : decode cX11_luck 59 = .ok (.ifCond .ne 9, 3) := by decide +kernel
theorem dX11_luck_62 : decode cX11_luck 62 = .ok (.ldc2_w 151, 3) := by decide +kernel
theorem dX11_luck_65 : decode cX11_luck 65 = .ok (.goto 33, 3) := by decide +kernel
theorem dX11_luck_68 : decode cX11_luck 68 = .ok (.aload_n 0, 1) := by decide +kernel
theorem dX11_luck_69 : decode cX11_luck 69 = .ok (.getfield 41, 3) := by decide +kernel
theorem dX11_luck_72 : decode cX11_luck 72 = .ok (.getfield 161, 3) := by decide +kernel
theorem dX11_luck_75 : decode cX11_luck 75 = .ok (.iload_n 3, 1) := by decide +kernel
theorem dX11_luck_76 : decode cX11_luck 76 = .ok (.laload, 1) := by decide +kernel
theorem dX11_luck_77 : decode cX11_luck 77 = .ok (.aload_n 0, 1) := by decide +kernel
theorem dX11_luck_78 : decode cX11_luck 78 = .ok (.getfield 41, 3) := by decide +kernel
theorem dX11_luck_81 : decode cX11_luck 81 = .ok (.iload_n 3, 1) := by decide +kernel
theorem dX11_luck_82 : decode cX11_luck 82 = .ok (.invokevirtual 180, 3) := by decide +kernel
theorem dX11_luck_85 : decode cX11_luck 85 = .ok (.ladd, 1) := by decide +kernel
theorem dX11_luck_86 : decode cX11_luck 86 = .ok (.aload_n 0, 1) := by decide +kernel
theorem dX11_luck_87 : decode cX11_luck 87 = .ok (.getfield 41, 3) := by decide +kernel
theorem dX11_luck_90 : decode cX11_luck 90 = .ok (.getfield 157, 3) := by decide +kernel
theorem dX11_luck_93 : decode cX11_luck 93 = .ok (.iload 4, 2) := by decide +kernel
theorem dX11_luck_95 : decode cX11_luck 95 = .ok (.invokestatic 165, 3) := by decide +kernel
theorem dX11_luck_98 : decode cX11_luck 98 = .ok (.lreturn, 1) := by decide +kernel
theorem dX11_chance_0 : decode cX11_chance 0 = .ok (.aload_n 0, 1) := by decide +kernel
theorem dX11_chance_1 : decode cX11_chance 1 = .ok (.iload_n 1, 1) := by decide +kernel
theorem dX11_chance_2 : decode cX11_chance 2 = .ok (.invokevirtual 94, 3) := by decide +kernel
theorem dX11_chance_5 : decode cX11_chance 5 = .ok (.astore 6, 2) := by decide +kernel
theorem dX11_chance_7 : decode cX11_chance 7 = .ok (.aload 6, 2) := by decide +kernel
theorem dX11_chance_9 : decode cX11_chance 9 = .ok (.ifnull 22, 3) := by decide +kernel
theorem dX11_chance_12 : decode cX11_chance 12 = .ok (.aload 6, 2) := by decide +kernel
theorem dX11_chance_14 : decode cX11_chance 14 = .ok (.invokevirtual 184, 3) := by decide +kernel
theorem dX11_chance_17 : decode cX11_chance 17 = .ok (.ifCond .eq 14, 3) := by decide +kernel
theorem dX11_chance_20 : decode cX11_chance 20 = .ok (.iload_n 3, 1) := by decide +kernel
theorem dX11_chance_21 : decode cX11_chance 21 = .ok (.iconst 1, 1) := by decide +kernel
theorem dX11_chance_22 : decode cX11_chance 22 = .ok (.if_icmp .lt 9, 3) := by decide +kernel
theorem dX11_chance_25 : decode cX11_chance 25 = .ok (.iload_n 3, 1) := by decide +kernel
theorem dX11_chance_26 : decode cX11_chance 26 = .ok (.bipush 9, 2) := by decide +kernel
theorem dX11_chance_28 : decode cX11_chance 28 = .ok (.if_icmp .le 7, 3) := by decide +kernel
theorem dX11_chance_31 : decode cX11_chance 31 = .ok (.ldc2_w 151, 3) := by decide +kernel
theorem dX11_chance_34 : decode cX11_chance 34 = .ok (.lreturn, 1) := by decide +kernel
theorem dX11_chance_35 : decode cX11_chance 35 = .ok (.aload_n 0, 1) := by decide +kernel
theorem dX11_chance_36 : decode cX11_chance 36 = .ok (.getfield 48, 3) := by decide +kernel
theorem dX11_chance_39 : decode cX11_chance 39 = .ok (.aload 6, 2) := by decide +kernel
theorem dX11_chance_41 : decode cX11_chance 41 = .ok (.iload_n 2, 1) := by decide +kernel
theorem dX11_chance_42 : decode cX11_chance 42 = .ok (.invokevirtual 188, 3) := by decide +kernel
theorem dX11_chance_45 : decode cX11_chance 45 = .ok (.ifCond .ne 7, 3) := by decide +kernel
theorem dX11_chance_48 : decode cX11_chance 48 = .ok (.ldc2_w 151, 3) := by decide +kernel
theorem dX11_chance_51 : decode cX11_chance 51 = .ok (.lreturn, 1) := by decide +kernel
theorem dX11_chance_52 : decode cX11_chance 52 = .ok (.aload_n 0, 1) := by decide +kernel
theorem dX11_chance_53 : decode cX11_chance 53 = .ok (.getfield 48, 3) := by decide +kernel
theorem dX11_chance_56 : decode cX11_chance 56 = .ok (.aload 6, 2) := by decide +kernel
theorem dX11_chance_58 : decode cX11_chance 58 = .ok (.iload_n 3, 1) := by decide +kernel
theorem dX11_chance_59 : decode cX11_chance 59 = .ok (.iload 4, 2) := by decide +kernel
theorem dX11_chance_61 : decode cX11_chance 61 = .ok (.invokevirtual 192, 3) := by decide +kernel
theorem dX11_chance_64 : decode cX11_chance 64 = .ok (.lstore 7, 2) := by decide +kernel
theorem dX11_chance_66 : decode cX11_chance 66 = .ok (.lload 7, 2) := by decide +kernel
theorem dX11_chance_68 : decode cX11_chance 68 = .ok (.lconst 0, 1) := by decide +kernel
theorem dX11_chance_69 : decode cX11_chance 69 = .ok (.lcmp, 1) := by decide +kernel
theorem dX11_chance_70 : decode cX11_chance 70 = .ok (.ifCond .ge 9, 3) := by decide +kernel
theorem dX11_chance_73 : decode cX11_chance 73 = .ok (.ldc2_w 151, 3) := by decide +kernel
theorem dX11_chance_76 : decode cX11_chance 76 = .ok (.goto 19, 3) := by decide +kernel
theorem dX11_chance_79 : decode cX11_chance 79 = .ok (.lload 7, 2) := by decide +kernel
theorem dX11_chance_81 : decode cX11_chance 81 = .ok (.aload_n 0, 1) := by decide +kernel
theorem dX11_chance_82 : decode cX11_chance 82 = .ok (.getfield 48, 3) := by decide +kernel
theorem dX11_chance_85 : decode cX11_chance 85 = .ok (.aload 6, 2) := by decide +kernel
theorem dX11_chance_87 : decode cX11_chance 87 = .ok (.invokevirtual 196, 3) := by decide +kernel
theorem dX11_chance_90 : decode cX11_chance 90 = .ok (.iload 5, 2) := by decide +kernel
theorem dX11_chance_92 : decode cX11_chance 92 = .ok (.invokestatic 165, 3) := by decide +kernel
theorem dX11_chance_95 : decode cX11_chance 95 = .ok (.lreturn, 1) := by decide +kernel
theorem dX11_uncle_0 : decode cX11_uncle 0 = .ok (.aload_n 0, 1) := by decide +kernel
theorem dX11_uncle_1 : decode cX11_uncle 1 = .ok (.iload_n 1, 1) := by decide +kernel
theorem dX11_uncle_2 : decode cX11_uncle 2 = .ok (.invokevirtual 94, 3) := by decide +kernel
theorem dX11_uncle_5 : decode cX11_uncle 5 = .ok (.astore_n 3, 1) := by decide +kernel
theorem dX11_uncle_6 : decode cX11_uncle 6 = .ok (.aload_n 3, 1) := by decide +kernel
theorem dX11_uncle_7 : decode cX11_uncle 7 = .ok (.ifnull 10, 3) := by decide +kernel
theorem dX11_uncle_10 : decode cX11_uncle 10 = .ok (.aload_n 3, 1) := by decide +kernel
theorem dX11_uncle_11 : decode cX11_uncle 11 = .ok (.invokevirtual 184, 3) := by decide +kernel
theorem dX11_uncle_14 : decode cX11_uncle 14 = .ok (.ifCond .ne 7, 3) := by decide +kernel
theorem dX11_uncle_17 : decode cX11_uncle 17 = .ok (.ldc2_w 151, 3) := by decide +kernel
theorem dX11_uncle_20 : decode cX11_uncle 20 = .ok (.lreturn, 1) := by decide +kernel
theorem dX11_uncle_21 : decode cX11_uncle 21 = .ok (.aload_n 0, 1) := by decide +kernel
theorem dX11_uncle_22 : decode cX11_uncle 22 = .ok (.getfield 48, 3) := by decide +kernel
theorem dX11_uncle_25 : decode cX11_uncle 25 = .ok (.aload_n 3, 1) := by decide +kernel
theorem dX11_uncle_26 : decode cX11_uncle 26 = .ok (.invokevirtual 200, 3) := by decide +kernel
theorem dX11_uncle_29 : decode cX11_uncle 29 = .ok (.aload_n 0, 1) := by decide +kernel
theorem dX11_uncle_30 : decode cX11_uncle 30 = .ok (.getfield 48, 3) := by decide +kernel
theorem dX11_uncle_33 : decode cX11_uncle 33 = .ok (.iconst 0, 1) := by decide +kernel
theorem dX11_uncle_34 : decode cX11_uncle 34 = .ok (.aload_n 3, 1) := by decide +kernel
theorem dX11_uncle_35 : decode cX11_uncle 35 = .ok (.getfield 204, 3) := by decide +kernel
theorem dX11_uncle_38 : decode cX11_uncle 38 = .ok (.iconst 0, 1) := by decide +kernel
theorem dX11_uncle_39 : decode cX11_uncle 39 = .ok (.iaload, 1) := by decide +kernel
theorem dX11_uncle_40 : decode cX11_uncle 40 = .ok (.invokevirtual 207, 3) := by decide +kernel
theorem dX11_uncle_43 : decode cX11_uncle 43 = .ok (.aload_n 0, 1) := by decide +kernel
theorem dX11_uncle_44 : decode cX11_uncle 44 = .ok (.getfield 48, 3) := by decide +kernel
theorem dX11_uncle_47 : decode cX11_uncle 47 = .ok (.aload_n 3, 1) := by decide +kernel
theorem dX11_uncle_48 : decode cX11_uncle 48 = .ok (.invokevirtual 196, 3) := by decide +kernel
theorem dX11_uncle_51 : decode cX11_uncle 51 = .ok (.iload_n 2, 1) := by decide +kernel
theorem dX11_uncle_52 : decode cX11_uncle 52 = .ok (.invokestatic 165, 3) := by decide +kernel
theorem dX11_uncle_55 : decode cX11_uncle 55 = .ok (.lreturn, 1) := by decide +kernel
theorem dX11_lifts_0 : decode cX11_lifts 0 = .ok (.aload_n 0, 1) := by decide +kernel
theorem dX11_lifts_1 : decode cX11_lifts 1 = .ok (.iload_n 1, 1) := by decide +kernel
theorem dX11_lifts_2 : decode cX11_lifts 2 = .ok (.invokevirtual 94, 3) := by decide +kernel
theorem dX11_lifts_5 : decode cX11_lifts 5 = .ok (.astore 5, 2) := by decide +kernel
theorem dX11_lifts_7 : decode cX11_lifts 7 = .ok (.aload 5, 2) := by decide +kernel
theorem dX11_lifts_9 : decode cX11_lifts 9 = .ok (.ifnull 33, 3) := by decide +kernel
theorem dX11_lifts_12 : decode cX11_lifts 12 = .ok (.aload 5, 2) := by decide +kernel
theorem dX11_lifts_14 : decode cX11_lifts 14 = .ok (.invokevirtual 184, 3) := by decide +kernel
theorem dX11_lifts_17 : decode cX11_lifts 17 = .ok (.ifCond .eq 25, 3) := by decide +kernel
theorem dX11_lifts_20 : decode cX11_lifts 20 = .ok (.aload 5, 2) := by decide +kernel
theorem dX11_lifts_22 : decode cX11_lifts 22 = .ok (.iload_n 2, 1) := by decide +kernel
theorem dX11_lifts_23 : decode cX11_lifts 23 = .ok (.invokevirtual 104, 3) := by decide +kernel
theorem dX11_lifts_26 : decode cX11_lifts 26 = .ok (.ifCond .eq 16, 3) := by decide +kernel
theorem dX11_lifts_29 : decode cX11_lifts 29 = .ok (.iload_n 3, 1) := by decide +kernel
theorem dX11_lifts_30 : decode cX11_lifts 30 = .ok (.ifCond .lt 12, 3) := by decide +kernel
theorem dX11_lifts_33 : decode cX11_lifts 33 = .ok (.iload_n 3, 1) := by decide +kernel
theorem dX11_lifts_34 : decode cX11_lifts 34 = .ok (.aload 5, 2) := by decide +kernel
theorem dX11_lifts_36 : decode cX11_lifts 36 = .ok (.getfield 211, 3) := by decide +kernel
theorem dX11_lifts_39 : decode cX11_lifts 39 = .ok (.if_icmp .lt 5, 3) := by decide +kernel
theorem dX11_lifts_42 : decode cX11_lifts 42 = .ok (.iconst (-1), 1) := by decide +kernel
theorem dX11_lifts_43 : decode cX11_lifts 43 = .ok (.ireturn, 1) := by decide +kernel
theorem dX11_lifts_44 : decode cX11_lifts 44 = .ok (.iload 4, 2) := by decide +kernel
theorem dX11_lifts_46 : decode cX11_lifts 46 = .ok (.iconst 1, 1) := by decide +kernel
theorem dX11_lifts_47 : decode cX11_lifts 47 = .ok (.if_icmp .lt 10, 3) := by decide +kernel
theorem dX11_lifts_50 : decode cX11_lifts 50 = .ok (.iload 4, 2) := by decide +kernel
theorem dX11_lifts_52 : decode cX11_lifts 52 = .ok (.bipush 30, 2) := by decide +kernel
theorem dX11_lifts_54 : decode cX11_lifts 54 = .ok (.if_icmp .le 5, 3) := by decide +kernel
theorem dX11_lifts_57 : decode cX11_lifts 57 = .ok (.iconst (-1), 1) := by decide +kernel
theorem dX11_lifts_58 : decode cX11_lifts 58 = .ok (.ireturn, 1) := by decide +kernel
theorem dX11_lifts_59 : decode cX11_lifts 59 = .ok (.aload_n 0, 1) := by decide +kernel
theorem dX11_lifts_60 : decode cX11_lifts 60 = .ok (.getfield 48, 3) := by decide +kernel
theorem dX11_lifts_63 : decode cX11_lifts 63 = .ok (.aload 5, 2) := by decide +kernel
theorem dX11_lifts_65 : decode cX11_lifts 65 = .ok (.invokevirtual 200, 3) := by decide +kernel
theorem dX11_lifts_68 : decode cX11_lifts 68 = .ok (.aload_n 0, 1) := by decide +kernel
theorem dX11_lifts_69 : decode cX11_lifts 69 = .ok (.getfield 48, 3) := by decide +kernel
theorem dX11_lifts_72 : decode cX11_lifts 72 = .ok (.aload 5, 2) := by decide +kernel
theorem dX11_lifts_74 : decode cX11_lifts 74 = .ok (.iload_n 2, 1) := by decide +kernel
theorem dX11_lifts_75 : decode cX11_lifts 75 = .ok (.iload_n 3, 1) := by decide +kernel
theorem dX11_lifts_76 : decode cX11_lifts 76 = .ok (.iload 4, 2) := by decide +kernel
theorem dX11_lifts_78 : decode cX11_lifts 78 = .ok (.invokevirtual 214, 3) := by decide +kernel
theorem dX11_lifts_81 : decode cX11_lifts 81 = .ok (.ifCond .eq 7, 3) := by decide +kernel
theorem dX11_lifts_84 : decode cX11_lifts 84 = .ok (.iconst 1, 1) := by decide +kernel
theorem dX11_lifts_85 : decode cX11_lifts 85 = .ok (.goto 4, 3) := by decide +kernel
theorem dX11_lifts_88 : decode cX11_lifts 88 = .ok (.iconst 0, 1) := by decide +kernel
theorem dX11_lifts_89 : decode cX11_lifts 89 = .ok (.ireturn, 1) := by decide +kernel
theorem dX11_fair_0 : decode cX11_fair 0 = .ok (.aload_n 0, 1) := by decide +kernel
theorem dX11_fair_1 : decode cX11_fair 1 = .ok (.iload_n 1, 1) := by decide +kernel
theorem dX11_fair_2 : decode cX11_fair 2 = .ok (.invokevirtual 94, 3) := by decide +kernel
theorem dX11_fair_5 : decode cX11_fair 5 = .ok (.astore_n 2, 1) := by decide +kernel
theorem dX11_fair_6 : decode cX11_fair 6 = .ok (.aload_n 2, 1) := by decide +kernel
theorem dX11_fair_7 : decode cX11_fair 7 = .ok (.ifnull 18, 3) := by decide +kernel
theorem dX11_fair_10 : decode cX11_fair 10 = .ok (.aload_n 2, 1) := by decide +kernel
theorem dX11_fair_11 : decode cX11_fair 11 = .ok (.invokevirtual 184, 3) := by decide +kernel
theorem dX11_fair_14 : decode cX11_fair 14 = .ok (.ifCond .eq 11, 3) := by decide +kernel
theorem dX11_fair_17 : decode cX11_fair 17 = .ok (.aload_n 2, 1) := by decide +kernel
theorem dX11_fair_18 : decode cX11_fair 18 = .ok (.getfield 218, 3) := by decide +kernel
theorem dX11_fair_21 : decode cX11_fair 21 = .ok (.iconst 5, 1) := by decide +kernel
theorem dX11_fair_22 : decode cX11_fair 22 = .ok (.if_icmp .le 5, 3) := by decide +kernel
theorem dX11_fair_25 : decode cX11_fair 25 = .ok (.iconst (-1), 1) := by decide +kernel
theorem dX11_fair_26 : decode cX11_fair 26 = .ok (.ireturn, 1) := by decide +kernel
theorem dX11_fair_27 : decode cX11_fair 27 = .ok (.aload_n 0, 1) := by decide +kernel
theorem dX11_fair_28 : decode cX11_fair 28 = .ok (.getfield 48, 3) := by decide +kernel
theorem dX11_fair_31 : decode cX11_fair 31 = .ok (.aload_n 2, 1) := by decide +kernel
theorem dX11_fair_32 : decode cX11_fair 32 = .ok (.invokevirtual 221, 3) := by decide +kernel
theorem dX11_fair_35 : decode cX11_fair 35 = .ok (.ireturn, 1) := by decide +kernel
theorem dX11_thick_0 : decode cX11_thick 0 = .ok (.aload_n 0, 1) := by decide +kernel
theorem dX11_thick_1 : decode cX11_thick 1 = .ok (.iload_n 1, 1) := by decide +kernel
theorem dX11_thick_2 : decode cX11_thick 2 = .ok (.invokevirtual 94, 3) := by decide +kernel
theorem dX11_thick_5 : decode cX11_thick 5 = .ok (.astore_n 2, 1) := by decide +kernel
theorem dX11_thick_6 : decode cX11_thick 6 = .ok (.aload_n 2, 1) := by decide +kernel
theorem dX11_thick_7 : decode cX11_thick 7 = .ok (.ifnull 10, 3) := by decide +kernel
theorem dX11_thick_10 : decode cX11_thick 10 = .ok (.aload_n 2, 1) := by decide +kernel
theorem dX11_thick_11 : decode cX11_thick 11 = .ok (.invokevirtual 184, 3) := by decide +kernel
theorem dX11_thick_14 : decode cX11_thick 14 = .ok (.ifCond .ne 5, 3) := by decide +kernel
theorem dX11_thick_17 : decode cX11_thick 17 = .ok (.iconst (-1), 1) := by decide +kernel
theorem dX11_thick_18 : decode cX11_thick 18 = .ok (.ireturn, 1) := by decide +kernel
theorem dX11_thick_19 : decode cX11_thick 19 = .ok (.aload_n 0, 1) := by decide +kernel
theorem dX11_thick_20 : decode cX11_thick 20 = .ok (.getfield 48, 3) := by decide +kernel
theorem dX11_thick_23 : decode cX11_thick 23 = .ok (.aload_n 2, 1) := by decide +kernel
theorem dX11_thick_24 : decode cX11_thick 24 = .ok (.invokevirtual 225, 3) := by decide +kernel
theorem dX11_thick_27 : decode cX11_thick 27 = .ok (.ireturn, 1) := by decide +kernel
theorem dX11_cell_0 : decode cX11_cell 0 = .ok (.aload_n 0, 1) := by decide +kernel
theorem dX11_cell_1 : decode cX11_cell 1 = .ok (.iload_n 1, 1) := by decide +kernel
theorem dX11_cell_2 : decode cX11_cell 2 = .ok (.invokevirtual 94, 3) := by decide +kernel
theorem dX11_cell_5 : decode cX11_cell 5 = .ok (.astore 5, 2) := by decide +kernel
theorem dX11_cell_7 : decode cX11_cell 7 = .ok (.aload 5, 2) := by decide +kernel
theorem dX11_cell_9 : decode cX11_cell 9 = .ok (.ifnull 22, 3) := by decide +kernel
theorem dX11_cell_12 : decode cX11_cell 12 = .ok (.aload 5, 2) := by decide +kernel
theorem dX11_cell_14 : decode cX11_cell 14 = .ok (.iload_n 2, 1) := by decide +kernel
theorem dX11_cell_15 : decode cX11_cell 15 = .ok (.invokevirtual 228, 3) := by decide +kernel
theorem dX11_cell_18 : decode cX11_cell 18 = .ok (.ifCond .eq 13, 3) := by decide +kernel
theorem dX11_cell_21 : decode cX11_cell 21 = .ok (.iload_n 3, 1) := by decide +kernel
theorem dX11_cell_22 : decode cX11_cell 22 = .ok (.ifCond .lt 9, 3) := by decide +kernel
theorem dX11_cell_25 : decode cX11_cell 25 = .ok (.iload_n 3, 1) := by decide +kernel
theorem dX11_cell_26 : decode cX11_cell 26 = .ok (.bipush 25, 2) := by decide +kernel
theorem dX11_cell_28 : decode cX11_cell 28 = .ok (.if_icmp .lt 5, 3) := by decide +kernel
theorem dX11_cell_31 : decode cX11_cell 31 = .ok (.iconst (-1), 1) := by decide +kernel
theorem dX11_cell_32 : decode cX11_cell 32 = .ok (.ireturn, 1) := by decide +kernel
theorem dX11_cell_33 : decode cX11_cell 33 = .ok (.iload 4, 2) := by decide +kernel
theorem dX11_cell_35 : decode cX11_cell 35 = .ok (.tableswitch 47 0 2 #[25, 30, 35], 25) := by decide +kernel
theorem dX11_cell_60 : decode cX11_cell 60 = .ok (.iload_n 3, 1) := by decide +kernel
theorem dX11_cell_61 : decode cX11_cell 61 = .ok (.invokestatic 231, 3) := by decide +kernel
theorem dX11_cell_64 : decode cX11_cell 64 = .ok (.ireturn, 1) := by decide +kernel
theorem dX11_cell_65 : decode cX11_cell 65 = .ok (.iload_n 3, 1) := by decide +kernel
theorem dX11_cell_66 : decode cX11_cell 66 = .ok (.invokestatic 234, 3) := by decide +kernel
theorem dX11_cell_69 : decode cX11_cell 69 = .ok (.ireturn, 1) := by decide +kernel
theorem dX11_cell_70 : decode cX11_cell 70 = .ok (.aload_n 0, 1) := by decide +kernel
theorem dX11_cell_71 : decode cX11_cell 71 = .ok (.getfield 55, 3) := by decide +kernel
theorem dX11_cell_74 : decode cX11_cell 74 = .ok (.aload 5, 2) := by decide +kernel
theorem dX11_cell_76 : decode cX11_cell 76 = .ok (.iload_n 2, 1) := by decide +kernel
theorem dX11_cell_77 : decode cX11_cell 77 = .ok (.iload_n 3, 1) := by decide +kernel
theorem dX11_cell_78 : decode cX11_cell 78 = .ok (.invokevirtual 237, 3) := by decide +kernel
theorem dX11_cell_81 : decode cX11_cell 81 = .ok (.ireturn, 1) := by decide +kernel
theorem dX11_cell_82 : decode cX11_cell 82 = .ok (.iconst (-1), 1) := by decide +kernel
theorem dX11_cell_83 : decode cX11_cell 83 = .ok (.ireturn, 1) := by decide +kernel
theorem dX11_share_0 : decode cX11_share 0 = .ok (.aload_n 0, 1) := by decide +kernel
theorem dX11_share_1 : decode cX11_share 1 = .ok (.iload_n 1, 1) := by decide +kernel
theorem dX11_share_2 : decode cX11_share 2 = .ok (.invokevirtual 94, 3) := by decide +kernel
theorem dX11_share_5 : decode cX11_share 5 = .ok (.astore 5, 2) := by decide +kernel
theorem dX11_share_7 : decode cX11_share 7 = .ok (.aload 5, 2) := by decide +kernel
theorem dX11_share_9 : decode cX11_share 9 = .ok (.ifnull 21, 3) := by decide +kernel
theorem dX11_share_12 : decode cX11_share 12 = .ok (.aload 5, 2) := by decide +kernel
theorem dX11_share_14 : decode cX11_share 14 = .ok (.iload_n 2, 1) := by decide +kernel
theorem dX11_share_15 : decode cX11_share 15 = .ok (.invokevirtual 228, 3) := by decide +kernel
theorem dX11_share_18 : decode cX11_share 18 = .ok (.ifCond .eq 12, 3) := by decide +kernel
theorem dX11_share_21 : decode cX11_share 21 = .ok (.aload 5, 2) := by decide +kernel
theorem dX11_share_23 : decode cX11_share 23 = .ok (.iload_n 3, 1) := by decide +kernel
theorem dX11_share_24 : decode cX11_share 24 = .ok (.invokevirtual 104, 3) := by decide +kernel
theorem dX11_share_27 : decode cX11_share 27 = .ok (.ifCond .ne 5, 3) := by decide +kernel
theorem dX11_share_30 : decode cX11_share 30 = .ok (.iconst (-1), 1) := by decide +kernel
theorem dX11_share_31 : decode cX11_share 31 = .ok (.ireturn, 1) := by decide +kernel
theorem dX11_share_32 : decode cX11_share 32 = .ok (.aload_n 0, 1) := by decide +kernel
theorem dX11_share_33 : decode cX11_share 33 = .ok (.getfield 55, 3) := by decide +kernel
theorem dX11_share_36 : decode cX11_share 36 = .ok (.aload 5, 2) := by decide +kernel
theorem dX11_share_38 : decode cX11_share 38 = .ok (.iload_n 2, 1) := by decide +kernel
theorem dX11_share_39 : decode cX11_share 39 = .ok (.iload_n 3, 1) := by decide +kernel
theorem dX11_share_40 : decode cX11_share 40 = .ok (.invokevirtual 241, 3) := by decide +kernel
theorem dX11_share_43 : decode cX11_share 43 = .ok (.i2l, 1) := by decide +kernel
theorem dX11_share_44 : decode cX11_share 44 = .ok (.aload_n 0, 1) := by decide +kernel
theorem dX11_share_45 : decode cX11_share 45 = .ok (.getfield 55, 3) := by decide +kernel
theorem dX11_share_48 : decode cX11_share 48 = .ok (.aload 5, 2) := by decide +kernel
theorem dX11_share_50 : decode cX11_share 50 = .ok (.invokevirtual 244, 3) := by decide +kernel
theorem dX11_share_53 : decode cX11_share 53 = .ok (.i2l, 1) := by decide +kernel
theorem dX11_share_54 : decode cX11_share 54 = .ok (.iload 4, 2) := by decide +kernel
theorem dX11_share_56 : decode cX11_share 56 = .ok (.invokestatic 165, 3) := by decide +kernel
theorem dX11_share_59 : decode cX11_share 59 = .ok (.l2i, 1) := by decide +kernel
theorem dX11_share_60 : decode cX11_share 60 = .ok (.ireturn, 1) := by decide +kernel
theorem dX11_stand_0 : decode cX11_stand 0 = .ok (.aload_n 0, 1) := by decide +kernel
theorem dX11_stand_1 : decode cX11_stand 1 = .ok (.iload_n 1, 1) := by decide +kernel
theorem dX11_stand_2 : decode cX11_stand 2 = .ok (.invokevirtual 94, 3) := by decide +kernel
theorem dX11_stand_5 : decode cX11_stand 5 = .ok (.astore 4, 2) := by decide +kernel
theorem dX11_stand_7 : decode cX11_stand 7 = .ok (.aload 4, 2) := by decide +kernel
theorem dX11_stand_9 : decode cX11_stand 9 = .ok (.ifnull 26, 3) := by decide +kernel
theorem dX11_stand_12 : decode cX11_stand 12 = .ok (.aload 4, 2) := by decide +kernel
theorem dX11_stand_14 : decode cX11_stand 14 = .ok (.iload_n 2, 1) := by decide +kernel
theorem dX11_stand_15 : decode cX11_stand 15 = .ok (.invokevirtual 228, 3) := by decide +kernel
theorem dX11_stand_18 : decode cX11_stand 18 = .ok (.ifCond .eq 17, 3) := by decide +kernel
theorem dX11_stand_21 : decode cX11_stand 21 = .ok (.aload 4, 2) := by decide +kernel
theorem dX11_stand_23 : decode cX11_stand 23 = .ok (.iload_n 3, 1) := by decide +kernel
theorem dX11_stand_24 : decode cX11_stand 24 = .ok (.invokevirtual 104, 3) := by decide +kernel
theorem dX11_stand_27 : decode cX11_stand 27 = .ok (.ifCond .eq 8, 3) := by decide +kernel
theorem dX11_stand_30 : decode cX11_stand 30 = .ok (.iload_n 3, 1) := by decide +kernel
theorem dX11_stand_31 : decode cX11_stand 31 = .ok (.iload_n 2, 1) := by decide +kernel
theorem dX11_stand_32 : decode cX11_stand 32 = .ok (.if_icmp .ne 5, 3) := by decide +kernel
theorem dX11_stand_35 : decode cX11_stand 35 = .ok (.iconst (-1), 1) := by decide +kernel
theorem dX11_stand_36 : decode cX11_stand 36 = .ok (.ireturn, 1) := by decide +kernel
theorem dX11_stand_37 : decode cX11_stand 37 = .ok (.aload_n 0, 1) := by decide +kernel
theorem dX11_stand_38 : decode cX11_stand 38 = .ok (.getfield 55, 3) := by decide +kernel
theorem dX11_stand_41 : decode cX11_stand 41 = .ok (.aload 4, 2) := by decide +kernel
theorem dX11_stand_43 : decode cX11_stand 43 = .ok (.iload_n 2, 1) := by decide +kernel
theorem dX11_stand_44 : decode cX11_stand 44 = .ok (.iload_n 3, 1) := by decide +kernel
theorem dX11_stand_45 : decode cX11_stand 45 = .ok (.invokevirtual 247, 3) := by decide +kernel
theorem dX11_stand_48 : decode cX11_stand 48 = .ok (.ireturn, 1) := by decide +kernel
theorem dX11_danger_0 : decode cX11_danger 0 = .ok (.aload_n 0, 1) := by decide +kernel
theorem dX11_danger_1 : decode cX11_danger 1 = .ok (.iload_n 1, 1) := by decide +kernel
theorem dX11_danger_2 : decode cX11_danger 2 = .ok (.invokevirtual 94, 3) := by decide +kernel
theorem dX11_danger_5 : decode cX11_danger 5 = .ok (.astore 4, 2) := by decide +kernel
theorem dX11_danger_7 : decode cX11_danger 7 = .ok (.aload 4, 2) := by decide +kernel
theorem dX11_danger_9 : decode cX11_danger 9 = .ok (.ifnull 12, 3) := by decide +kernel
theorem dX11_danger_12 : decode cX11_danger 12 = .ok (.aload 4, 2) := by decide +kernel
theorem dX11_danger_14 : decode cX11_danger 14 = .ok (.iload_n 2, 1) := by decide +kernel
theorem dX11_danger_15 : decode cX11_danger 15 = .ok (.invokevirtual 104, 3) := by decide +kernel
theorem dX11_danger_18 : decode cX11_danger 18 = .ok (.ifCond .ne 5, 3) := by decide +kernel
theorem dX11_danger_21 : decode cX11_danger 21 = .ok (.iconst (-1), 1) := by decide +kernel
theorem dX11_danger_22 : decode cX11_danger 22 = .ok (.ireturn, 1) := by decide +kernel
theorem dX11_danger_23 : decode cX11_danger 23 = .ok (.aload 4, 2) := by decide +kernel
theorem dX11_danger_25 : decode cX11_danger 25 = .ok (.iload_n 2, 1) := by decide +kernel
theorem dX11_danger_26 : decode cX11_danger 26 = .ok (.aload 4, 2) := by decide +kernel
theorem dX11_danger_28 : decode cX11_danger 28 = .ok (.getfield 250, 3) := by decide +kernel
theorem dX11_danger_31 : decode cX11_danger 31 = .ok (.invokevirtual 253, 3) := by decide +kernel
theorem dX11_danger_34 : decode cX11_danger 34 = .ok (.i2l, 1) := by decide +kernel
theorem dX11_danger_35 : decode cX11_danger 35 = .ok (.aload 4, 2) := by decide +kernel
theorem dX11_danger_37 : decode cX11_danger 37 = .ok (.invokevirtual 256, 3) := by decide +kernel
theorem dX11_danger_40 : decode cX11_danger 40 = .ok (.i2l, 1) := by decide +kernel
theorem dX11_danger_41 : decode cX11_danger 41 = .ok (.iload_n 3, 1) := by decide +kernel
theorem dX11_danger_42 : decode cX11_danger 42 = .ok (.invokestatic 165, 3) := by decide +kernel
theorem dX11_danger_45 : decode cX11_danger 45 = .ok (.l2i, 1) := by decide +kernel
theorem dX11_danger_46 : decode cX11_danger 46 = .ok (.ireturn, 1) := by decide +kernel
theorem dX11_safe_0 : decode cX11_safe 0 = .ok (.aload_n 0, 1) := by decide +kernel
theorem dX11_safe_1 : decode cX11_safe 1 = .ok (.iload_n 1, 1) := by decide +kernel
theorem dX11_safe_2 : decode cX11_safe 2 = .ok (.invokevirtual 94, 3) := by decide +kernel
theorem dX11_safe_5 : decode cX11_safe 5 = .ok (.astore_n 3, 1) := by decide +kernel
theorem dX11_safe_6 : decode cX11_safe 6 = .ok (.aload_n 3, 1) := by decide +kernel
theorem dX11_safe_7 : decode cX11_safe 7 = .ok (.ifnull 13, 3) := by decide +kernel
theorem dX11_safe_10 : decode cX11_safe 10 = .ok (.iload_n 2, 1) := by decide +kernel
theorem dX11_safe_11 : decode cX11_safe 11 = .ok (.ifCond .lt 9, 3) := by decide +kernel
theorem dX11_safe_14 : decode cX11_safe 14 = .ok (.iload_n 2, 1) := by decide +kernel
theorem dX11_safe_15 : decode cX11_safe 15 = .ok (.bipush 100, 2) := by decide +kernel
theorem dX11_safe_17 : decode cX11_safe 17 = .ok (.if_icmp .le 5, 3) := by decide +kernel
theorem dX11_safe_20 : decode cX11_safe 20 = .ok (.iconst (-1), 1) := by decide +kernel
theorem dX11_safe_21 : decode cX11_safe 21 = .ok (.ireturn, 1) := by decide +kernel
theorem dX11_safe_22 : decode cX11_safe 22 = .ok (.iconst 3, 1) := by decide +kernel
theorem dX11_safe_23 : decode cX11_safe 23 = .ok (.istore 4, 2) := by decide +kernel
theorem dX11_safe_25 : decode cX11_safe 25 = .ok (.iload 4, 2) := by decide +kernel
theorem dX11_safe_27 : decode cX11_safe 27 = .ok (.ifCond .le 19, 3) := by decide +kernel
theorem dX11_safe_30 : decode cX11_safe 30 = .ok (.aload_n 3, 1) := by decide +kernel
theorem dX11_safe_31 : decode cX11_safe 31 = .ok (.iload 4, 2) := by decide +kernel
theorem dX11_safe_33 : decode cX11_safe 33 = .ok (.iload_n 2, 1) := by decide +kernel
theorem dX11_safe_34 : decode cX11_safe 34 = .ok (.invokevirtual 259, 3) := by decide +kernel
theorem dX11_safe_37 : decode cX11_safe 37 = .ok (.ifCond .ne 9, 3) := by decide +kernel
theorem dX11_safe_40 : decode cX11_safe 40 = .ok (.iinc 4 (-1), 3) := by decide +kernel
theorem dX11_safe_43 : decode cX11_safe 43 = .ok (.goto (-18), 3) := by decide +kernel
theorem dX11_safe_46 : decode cX11_safe 46 = .ok (.iload 4, 2) := by decide +kernel
theorem dX11_safe_48 : decode cX11_safe 48 = .ok (.ireturn, 1) := by decide +kernel
theorem dX11_fell_0 : decode cX11_fell 0 = .ok (.aload_n 0, 1) := by decide +kernel
theorem dX11_fell_1 : decode cX11_fell 1 = .ok (.iload_n 1, 1) := by decide +kernel
theorem dX11_fell_2 : decode cX11_fell 2 = .ok (.invokevirtual 263, 3) := by decide +kernel
theorem dX11_fell_5 : decode cX11_fell 5 = .ok (.astore 4, 2) := by decide +kernel
theorem dX11_fell_7 : decode cX11_fell 7 = .ok (.aload 4, 2) := by decide +kernel
theorem dX11_fell_9 : decode cX11_fell 9 = .ok (.ifnonnull 6, 3) := by decide +kernel
theorem dX11_fell_12 : decode cX11_fell 12 = .ok (.bipush (-2), 2) := by decide +kernel
theorem dX11_fell_14 : decode cX11_fell 14 = .ok (.ireturn, 1) := by decide +kernel
theorem dX11_fell_15 : decode cX11_fell 15 = .ok (.iload_n 2, 1) := by decide +kernel
theorem dX11_fell_16 : decode cX11_fell 16 = .ok (.iconst (-1), 1) := by decide +kernel
theorem dX11_fell_17 : decode cX11_fell 17 = .ok (.if_icmp .ne 31, 3) := by decide +kernel
theorem dX11_fell_20 : decode cX11_fell 20 = .ok (.iload_n 3, 1) := by decide +kernel
theorem dX11_fell_21 : decode cX11_fell 21 = .ok (.ifCond .ne 11, 3) := by decide +kernel
theorem dX11_fell_24 : decode cX11_fell 24 = .ok (.aload 4, 2) := by decide +kernel
theorem dX11_fell_26 : decode cX11_fell 26 = .ok (.getfield 115, 3) := by decide +kernel
theorem dX11_fell_29 : decode cX11_fell 29 = .ok (.goto 18, 3) := by decide +kernel
theorem dX11_fell_32 : decode cX11_fell 32 = .ok (.iload_n 3, 1) := by decide +kernel
theorem dX11_fell_33 : decode cX11_fell 33 = .ok (.iconst 1, 1) := by decide +kernel
theorem dX11_fell_34 : decode cX11_fell 34 = .ok (.if_icmp .ne 11, 3) := by decide +kernel
theorem dX11_fell_37 : decode cX11_fell 37 = .ok (.aload 4, 2) := by decide +kernel
theorem dX11_fell_39 : decode cX11_fell 39 = .ok (.invokevirtual 266, 3) := by decide +kernel
theorem dX11_fell_42 : decode cX11_fell 42 = .ok (.goto 5, 3) := by decide +kernel
theorem dX11_fell_45 : decode cX11_fell 45 = .ok (.bipush (-2), 2) := by decide +kernel
theorem dX11_fell_47 : decode cX11_fell 47 = .ok (.ireturn, 1) := by decide +kernel
theorem dX11_fell_48 : decode cX11_fell 48 = .ok (.iload_n 2, 1) := by decide +kernel
theorem dX11_fell_49 : decode cX11_fell 49 = .ok (.ifCond .lt 12, 3) := by decide +kernel
theorem dX11_fell_52 : decode cX11_fell 52 = .ok (.iload_n 2, 1) := by decide +kernel
theorem dX11_fell_53 : decode cX11_fell 53 = .ok (.aload 4, 2) := by decide +kernel
theorem dX11_fell_55 : decode cX11_fell 55 = .ok (.getfield 115, 3) := by decide +kernel
theorem dX11_fell_58 : decode cX11_fell 58 = .ok (.if_icmp .lt 6, 3) := by decide +kernel
theorem dX11_fell_61 : decode cX11_fell 61 = .ok (.bipush (-2), 2) := by decide +kernel
theorem dX11_fell_63 : decode cX11_fell 63 = .ok (.ireturn, 1) := by decide +kernel
theorem dX11_fell_64 : decode cX11_fell 64 = .ok (.iload_n 3, 1) := by decide +kernel
theorem dX11_fell_65 : decode cX11_fell 65 = .ok (.ifCond .ne 13, 3) := by decide +kernel
theorem dX11_fell_68 : decode cX11_fell 68 = .ok (.aload 4, 2) := by decide +kernel
theorem dX11_fell_70 : decode cX11_fell 70 = .ok (.getfield 269, 3) := by decide +kernel
theorem dX11_fell_73 : decode cX11_fell 73 = .ok (.iload_n 2, 1) := by decide +kernel
theorem dX11_fell_74 : decode cX11_fell 74 = .ok (.iaload, 1) := by decide +kernel
theorem dX11_fell_75 : decode cX11_fell 75 = .ok (.goto 20, 3) := by decide +kernel
theorem dX11_fell_78 : decode cX11_fell 78 = .ok (.iload_n 3, 1) := by decide +kernel
theorem dX11_fell_79 : decode cX11_fell 79 = .ok (.iconst 1, 1) := by decide +kernel
theorem dX11_fell_80 : decode cX11_fell 80 = .ok (.if_icmp .ne 13, 3) := by decide +kernel
theorem dX11_fell_83 : decode cX11_fell 83 = .ok (.aload 4, 2) := by decide +kernel
theorem dX11_fell_85 : decode cX11_fell 85 = .ok (.getfield 272, 3) := by decide +kernel
theorem dX11_fell_88 : decode cX11_fell 88 = .ok (.iload_n 2, 1) := by decide +kernel
theorem dX11_fell_89 : decode cX11_fell 89 = .ok (.iaload, 1) := by decide +kernel
theorem dX11_fell_90 : decode cX11_fell 90 = .ok (.goto 5, 3) := by decide +kernel
theorem dX11_fell_93 : decode cX11_fell 93 = .ok (.bipush (-2), 2) := by decide +kernel
theorem dX11_fell_95 : decode cX11_fell 95 = .ok (.ireturn, 1) := by decide +kernel
theorem dX11_bag_0 : decode cX11_bag 0 = .ok (.aload_n 0, 1) := by decide +kernel
theorem dX11_bag_1 : decode cX11_bag 1 = .ok (.iload_n 1, 1) := by decide +kernel
theorem dX11_bag_2 : decode cX11_bag 2 = .ok (.invokevirtual 94, 3) := by decide +kernel
theorem dX11_bag_5 : decode cX11_bag 5 = .ok (.astore 6, 2) := by decide +kernel
theorem dX11_bag_7 : decode cX11_bag 7 = .ok (.aload_n 0, 1) := by decide +kernel
theorem dX11_bag_8 : decode cX11_bag 8 = .ok (.iload_n 2, 1) := by decide +kernel
theorem dX11_bag_9 : decode cX11_bag 9 = .ok (.invokevirtual 263, 3) := by decide +kernel
theorem dX11_bag_12 : decode cX11_bag 12 = .ok (.astore 7, 2) := by decide +kernel
theorem dX11_bag_14 : decode cX11_bag 14 = .ok (.aload 6, 2) := by decide +kernel
theorem dX11_bag_16 : decode cX11_bag 16 = .ok (.ifnull 33, 3) := by decide +kernel
theorem dX11_bag_19 : decode cX11_bag 19 = .ok (.aload 7, 2) := by decide +kernel
theorem dX11_bag_21 : decode cX11_bag 21 = .ok (.ifnull 28, 3) := by decide +kernel
theorem dX11_bag_24 : decode cX11_bag 24 = .ok (.aload 6, 2) := by decide +kernel
theorem dX11_bag_26 : decode cX11_bag 26 = .ok (.iload_n 3, 1) := by decide +kernel
theorem dX11_bag_27 : decode cX11_bag 27 = .ok (.invokevirtual 228, 3) := by decide +kernel
theorem dX11_bag_30 : decode cX11_bag 30 = .ok (.ifCond .eq 19, 3) := by decide +kernel
theorem dX11_bag_33 : decode cX11_bag 33 = .ok (.iload 5, 2) := by decide +kernel
theorem dX11_bag_35 : decode cX11_bag 35 = .ok (.iconst (-1), 1) := by decide +kernel
theorem dX11_bag_36 : decode cX11_bag 36 = .ok (.if_icmp .eq 15, 3) := by decide +kernel
theorem dX11_bag_39 : decode cX11_bag 39 = .ok (.aload 6, 2) := by decide +kernel
theorem dX11_bag_41 : decode cX11_bag 41 = .ok (.iload 5, 2) := by decide +kernel
theorem dX11_bag_43 : decode cX11_bag 43 = .ok (.invokevirtual 104, 3) := by decide +kernel
theorem dX11_bag_46 : decode cX11_bag 46 = .ok (.ifCond .ne 5, 3) := by decide +kernel
theorem dX11_bag_49 : decode cX11_bag 49 = .ok (.iconst (-1), 1) := by decide +kernel
theorem dX11_bag_50 : decode cX11_bag 50 = .ok (.ireturn, 1) := by decide +kernel
theorem dX11_bag_51 : decode cX11_bag 51 = .ok (.iload 4, 2) := by decide +kernel
theorem dX11_bag_53 : decode cX11_bag 53 = .ok (.iconst (-1), 1) := by decide +kernel
theorem dX11_bag_54 : decode cX11_bag 54 = .ok (.if_icmp .ne 22, 3) := by decide +kernel
theorem dX11_bag_57 : decode cX11_bag 57 = .ok (.iload 5, 2) := by decide +kernel
theorem dX11_bag_59 : decode cX11_bag 59 = .ok (.iconst (-1), 1) := by decide +kernel
theorem dX11_bag_60 : decode cX11_bag 60 = .ok (.if_icmp .ne 16, 3) := by decide +kernel
theorem dX11_bag_63 : decode cX11_bag 63 = .ok (.aload_n 0, 1) := by decide +kernel
theorem dX11_bag_64 : decode cX11_bag 64 = .ok (.getfield 55, 3) := by decide +kernel
theorem dX11_bag_67 : decode cX11_bag 67 = .ok (.aload 6, 2) := by decide +kernel
theorem dX11_bag_69 : decode cX11_bag 69 = .ok (.aload 7, 2) := by decide +kernel
theorem dX11_bag_71 : decode cX11_bag 71 = .ok (.iload_n 3, 1) := by decide +kernel
theorem dX11_bag_72 : decode cX11_bag 72 = .ok (.invokevirtual 275, 3) := by decide +kernel
theorem dX11_bag_75 : decode cX11_bag 75 = .ok (.ireturn, 1) := by decide +kernel
theorem dX11_bag_76 : decode cX11_bag 76 = .ok (.iload 4, 2) := by decide +kernel
theorem dX11_bag_78 : decode cX11_bag 78 = .ok (.ifCond .lt 9, 3) := by decide +kernel
theorem dX11_bag_81 : decode cX11_bag 81 = .ok (.iload 4, 2) := by decide +kernel
theorem dX11_bag_83 : decode cX11_bag 83 = .ok (.iconst 3, 1) := by decide +kernel
theorem dX11_bag_84 : decode cX11_bag 84 = .ok (.if_icmp .le 5, 3) := by decide +kernel
theorem dX11_bag_87 : decode cX11_bag 87 = .ok (.iconst (-1), 1) := by decide +kernel
theorem dX11_bag_88 : decode cX11_bag 88 = .ok (.ireturn, 1) := by decide +kernel
theorem dX11_bag_89 : decode cX11_bag 89 = .ok (.aload_n 0, 1) := by decide +kernel
theorem dX11_bag_90 : decode cX11_bag 90 = .ok (.getfield 55, 3) := by decide +kernel
theorem dX11_bag_93 : decode cX11_bag 93 = .ok (.aload 6, 2) := by decide +kernel
theorem dX11_bag_95 : decode cX11_bag 95 = .ok (.aload 7, 2) := by decide +kernel
theorem dX11_bag_97 : decode cX11_bag 97 = .ok (.iload_n 3, 1) := by decide +kernel
theorem dX11_bag_98 : decode cX11_bag 98 = .ok (.iload 4, 2) := by decide +kernel
theorem dX11_bag_100 : decode cX11_bag 100 = .ok (.invokevirtual 278, 3) := by decide +kernel
theorem dX11_bag_103 : decode cX11_bag 103 = .ok (.iload 5, 2) := by decide +kernel
theorem dX11_bag_105 : decode cX11_bag 105 = .ok (.iconst (-1), 1) := by decide +kernel
theorem dX11_bag_106 : decode cX11_bag 106 = .ok (.if_icmp .ne 15, 3) := by decide +kernel
theorem dX11_bag_109 : decode cX11_bag 109 = .ok (.aload_n 0, 1) := by decide +kernel
theorem dX11_bag_110 : decode cX11_bag 110 = .ok (.getfield 55, 3) := by decide +kernel
theorem dX11_bag_113 : decode cX11_bag 113 = .ok (.aload 6, 2) := by decide +kernel
theorem dX11_bag_115 : decode cX11_bag 115 = .ok (.invokevirtual 282, 3) := by decide +kernel
theorem dX11_bag_118 : decode cX11_bag 118 = .ok (.goto 13, 3) := by decide +kernel
theorem dX11_bag_121 : decode cX11_bag 121 = .ok (.aload_n 0, 1) := by decide +kernel
theorem dX11_bag_122 : decode cX11_bag 122 = .ok (.getfield 55, 3) := by decide +kernel
theorem dX11_bag_125 : decode cX11_bag 125 = .ok (.getfield 285, 3) := by decide +kernel
theorem dX11_bag_128 : decode cX11_bag 128 = .ok (.iload 5, 2) := by decide +kernel
theorem dX11_bag_130 : decode cX11_bag 130 = .ok (.iaload, 1) := by decide +kernel
theorem dX11_bag_131 : decode cX11_bag 131 = .ok (.ireturn, 1) := by decide +kernel
theorem dX11_record_0 : decode cX11_record 0 = .ok (.aload_n 0, 1) := by decide +kernel
theorem dX11_record_1 : decode cX11_record 1 = .ok (.iload_n 1, 1) := by decide +kernel
theorem dX11_record_2 : decode cX11_record 2 = .ok (.invokevirtual 288, 3) := by decide +kernel
theorem dX11_record_5 : decode cX11_record 5 = .ok (.astore_n 3, 1) := by decide +kernel
theorem dX11_record_6 : decode cX11_record 6 = .ok (.aload_n 3, 1) := by decide +kernel
theorem dX11_record_7 : decode cX11_record 7 = .ok (.ifnonnull 8, 3) := by decide +kernel
theorem dX11_record_10 : decode cX11_record 10 = .ok (.bipush (-2), 2) := by decide +kernel
theorem dX11_record_12 : decode cX11_record 12 = .ok (.goto 8, 3) := by decide +kernel
theorem dX11_record_15 : decode cX11_record 15 = .ok (.aload_n 3, 1) := by decide +kernel
theorem dX11_record_16 : decode cX11_record 16 = .ok (.iload_n 2, 1) := by decide +kernel
theorem dX11_record_17 : decode cX11_record 17 = .ok (.invokevirtual 292, 3) := by decide +kernel
theorem dX11_record_20 : decode cX11_record 20 = .ok (.ireturn, 1) := by decide +kernel
theorem dX11_trust_0 : decode cX11_trust 0 = .ok (.aload_n 0, 1) := by decide +kernel
theorem dX11_trust_1 : decode cX11_trust 1 = .ok (.iload_n 1, 1) := by decide +kernel
theorem dX11_trust_2 : decode cX11_trust 2 = .ok (.invokevirtual 288, 3) := by decide +kernel
theorem dX11_trust_5 : decode cX11_trust 5 = .ok (.astore 4, 2) := by decide +kernel
theorem dX11_trust_7 : decode cX11_trust 7 = .ok (.aload 4, 2) := by decide +kernel
theorem dX11_trust_9 : decode cX11_trust 9 = .ok (.ifnull 13, 3) := by decide +kernel
theorem dX11_trust_12 : decode cX11_trust 12 = .ok (.iload_n 2, 1) := by decide +kernel
theorem dX11_trust_13 : decode cX11_trust 13 = .ok (.ifCond .lt 9, 3) := by decide +kernel
theorem dX11_trust_16 : decode cX11_trust 16 = .ok (.iload_n 2, 1) := by decide +kernel
theorem dX11_trust_17 : decode cX11_trust 17 = .ok (.bipush 8, 2) := by decide +kernel
theorem dX11_trust_19 : decode cX11_trust 19 = .ok (.if_icmp .lt 5, 3) := by decide +kernel
theorem dX11_trust_22 : decode cX11_trust 22 = .ok (.iconst (-1), 1) := by decide +kernel
theorem dX11_trust_23 : decode cX11_trust 23 = .ok (.ireturn, 1) := by decide +kernel
theorem dX11_trust_24 : decode cX11_trust 24 = .ok (.aload 4, 2) := by decide +kernel
theorem dX11_trust_26 : decode cX11_trust 26 = .ok (.iload_n 2, 1) := by decide +kernel
theorem dX11_trust_27 : decode cX11_trust 27 = .ok (.invokevirtual 295, 3) := by decide +kernel
theorem dX11_trust_30 : decode cX11_trust 30 = .ok (.istore 5, 2) := by decide +kernel
theorem dX11_trust_32 : decode cX11_trust 32 = .ok (.iload 5, 2) := by decide +kernel
theorem dX11_trust_34 : decode cX11_trust 34 = .ok (.ifCond .ne 7, 3) := by decide +kernel
theorem dX11_trust_37 : decode cX11_trust 37 = .ok (.iconst (-1), 1) := by decide +kernel
theorem dX11_trust_38 : decode cX11_trust 38 = .ok (.goto 18, 3) := by decide +kernel
theorem dX11_trust_41 : decode cX11_trust 41 = .ok (.aload 4, 2) := by decide +kernel
theorem dX11_trust_43 : decode cX11_trust 43 = .ok (.iload_n 2, 1) := by decide +kernel
theorem dX11_trust_44 : decode cX11_trust 44 = .ok (.invokevirtual 298, 3) := by decide +kernel
theorem dX11_trust_47 : decode cX11_trust 47 = .ok (.i2l, 1) := by decide +kernel
theorem dX11_trust_48 : decode cX11_trust 48 = .ok (.iload 5, 2) := by decide +kernel
theorem dX11_trust_50 : decode cX11_trust 50 = .ok (.i2l, 1) := by decide +kernel
theorem dX11_trust_51 : decode cX11_trust 51 = .ok (.iload_n 3, 1) := by decide +kernel
theorem dX11_trust_52 : decode cX11_trust 52 = .ok (.invokestatic 165, 3) := by decide +kernel
theorem dX11_trust_55 : decode cX11_trust 55 = .ok (.l2i, 1) := by decide +kernel
theorem dX11_trust_56 : decode cX11_trust 56 = .ok (.ireturn, 1) := by decide +kernel
theorem dX11_peeped_0 : decode cX11_peeped 0 = .ok (.aload_n 0, 1) := by decide +kernel
theorem dX11_peeped_1 : decode cX11_peeped 1 = .ok (.iload_n 1, 1) := by decide +kernel
theorem dX11_peeped_2 : decode cX11_peeped 2 = .ok (.invokevirtual 288, 3) := by decide +kernel
theorem dX11_peeped_5 : decode cX11_peeped 5 = .ok (.astore 5, 2) := by decide +kernel
theorem dX11_peeped_7 : decode cX11_peeped 7 = .ok (.aload 5, 2) := by decide +kernel
theorem dX11_peeped_9 : decode cX11_peeped 9 = .ok (.ifnull 23, 3) := by decide +kernel
theorem dX11_peeped_12 : decode cX11_peeped 12 = .ok (.iload_n 2, 1) := by decide +kernel
theorem dX11_peeped_13 : decode cX11_peeped 13 = .ok (.ifCond .lt 19, 3) := by decide +kernel
theorem dX11_peeped_16 : decode cX11_peeped 16 = .ok (.iload_n 2, 1) := by decide +kernel
theorem dX11_peeped_17 : decode cX11_peeped 17 = .ok (.bipush 10, 2) := by decide +kernel
theorem dX11_peeped_19 : decode cX11_peeped 19 = .ok (.if_icmp .gt 13, 3) := by decide +kernel
theorem dX11_peeped_22 : decode cX11_peeped 22 = .ok (.iload_n 3, 1) := by decide +kernel
theorem dX11_peeped_23 : decode cX11_peeped 23 = .ok (.ifCond .lt 9, 3) := by decide +kernel
theorem dX11_peeped_26 : decode cX11_peeped 26 = .ok (.iload_n 3, 1) := by decide +kernel
theorem dX11_peeped_27 : decode cX11_peeped 27 = .ok (.bipush 10, 2) := by decide +kernel
theorem dX11_peeped_29 : decode cX11_peeped 29 = .ok (.if_icmp .le 7, 3) := by decide +kernel
theorem dX11_peeped_32 : decode cX11_peeped 32 = .ok (.ldc2_w 151, 3) := by decide +kernel
theorem dX11_peeped_35 : decode cX11_peeped 35 = .ok (.lreturn, 1) := by decide +kernel
theorem dX11_peeped_36 : decode cX11_peeped 36 = .ok (.aload 5, 2) := by decide +kernel
theorem dX11_peeped_38 : decode cX11_peeped 38 = .ok (.invokevirtual 301, 3) := by decide +kernel
theorem dX11_peeped_41 : decode cX11_peeped 41 = .ok (.istore 6, 2) := by decide +kernel
theorem dX11_peeped_43 : decode cX11_peeped 43 = .ok (.aload 5, 2) := by decide +kernel
theorem dX11_peeped_45 : decode cX11_peeped 45 = .ok (.getfield 304, 3) := by decide +kernel
theorem dX11_peeped_48 : decode cX11_peeped 48 = .ok (.getfield 115, 3) := by decide +kernel
theorem dX11_peeped_51 : decode cX11_peeped 51 = .ok (.iload 6, 2) := by decide +kernel
theorem dX11_peeped_53 : decode cX11_peeped 53 = .ok (.isub, 1) := by decide +kernel
theorem dX11_peeped_54 : decode cX11_peeped 54 = .ok (.istore 7, 2) := by decide +kernel
theorem dX11_peeped_56 : decode cX11_peeped 56 = .ok (.iload_n 2, 1) := by decide +kernel
theorem dX11_peeped_57 : decode cX11_peeped 57 = .ok (.iload 6, 2) := by decide +kernel
theorem dX11_peeped_59 : decode cX11_peeped 59 = .ok (.invokestatic 307, 3) := by decide +kernel
theorem dX11_peeped_62 : decode cX11_peeped 62 = .ok (.bipush 10, 2) := by decide +kernel
theorem dX11_peeped_64 : decode cX11_peeped 64 = .ok (.iload_n 2, 1) := by decide +kernel
theorem dX11_peeped_65 : decode cX11_peeped 65 = .ok (.isub, 1) := by decide +kernel
theorem dX11_peeped_66 : decode cX11_peeped 66 = .ok (.iload 7, 2) := by decide +kernel
theorem dX11_peeped_68 : decode cX11_peeped 68 = .ok (.invokestatic 307, 3) := by decide +kernel
theorem dX11_peeped_71 : decode cX11_peeped 71 = .ok (.lmul, 1) := by decide +kernel
theorem dX11_peeped_72 : decode cX11_peeped 72 = .ok (.lstore 8, 2) := by decide +kernel
theorem dX11_peeped_74 : decode cX11_peeped 74 = .ok (.iload_n 3, 1) := by decide +kernel
theorem dX11_peeped_75 : decode cX11_peeped 75 = .ok (.iload 6, 2) := by decide +kernel
theorem dX11_peeped_77 : decode cX11_peeped 77 = .ok (.invokestatic 307, 3) := by decide +kernel
theorem dX11_peeped_80 : decode cX11_peeped 80 = .ok (.bipush 10, 2) := by decide +kernel
theorem dX11_peeped_82 : decode cX11_peeped 82 = .ok (.iload_n 3, 1) := by decide +kernel
theorem dX11_peeped_83 : decode cX11_peeped 83 = .ok (.isub, 1) := by decide +kernel
theorem dX11_peeped_84 : decode cX11_peeped 84 = .ok (.iload 7, 2) := by decide +kernel
theorem dX11_peeped_86 : decode cX11_peeped 86 = .ok (.invokestatic 307, 3) := by decide +kernel
theorem dX11_peeped_89 : decode cX11_peeped 89 = .ok (.lmul, 1) := by decide +kernel
theorem dX11_peeped_90 : decode cX11_peeped 90 = .ok (.lstore 10, 2) := by decide +kernel
theorem dX11_peeped_92 : decode cX11_peeped 92 = .ok (.lload 8, 2) := by decide +kernel
theorem dX11_peeped_94 : decode cX11_peeped 94 = .ok (.lload 10, 2) := by decide +kernel
theorem dX11_peeped_96 : decode cX11_peeped 96 = .ok (.ladd, 1) := by decide +kernel
theorem dX11_peeped_97 : decode cX11_peeped 97 = .ok (.lconst 0, 1) := by decide +kernel
theorem dX11_peeped_98 : decode cX11_peeped 98 = .ok (.lcmp, 1) := by decide +kernel
theorem dX11_peeped_99 : decode cX11_peeped 99 = .ok (.ifCond .ne 9, 3) := by decide +kernel
theorem dX11_peeped_102 : decode cX11_peeped 102 = .ok (.ldc2_w 151, 3) := by decide +kernel
theorem dX11_peeped_105 : decode cX11_peeped 105 = .ok (.goto 15, 3) := by decide +kernel
theorem dX11_peeped_108 : decode cX11_peeped 108 = .ok (.lload 10, 2) := by decide +kernel
theorem dX11_peeped_110 : decode cX11_peeped 110 = .ok (.lload 8, 2) := by decide +kernel
theorem dX11_peeped_112 : decode cX11_peeped 112 = .ok (.lload 10, 2) := by decide +kernel
theorem dX11_peeped_114 : decode cX11_peeped 114 = .ok (.ladd, 1) := by decide +kernel
theorem dX11_peeped_115 : decode cX11_peeped 115 = .ok (.iload 4, 2) := by decide +kernel
theorem dX11_peeped_117 : decode cX11_peeped 117 = .ok (.invokestatic 165, 3) := by decide +kernel
theorem dX11_peeped_120 : decode cX11_peeped 120 = .ok (.lreturn, 1) := by decide +kernel
theorem dX11_many_0 : decode cX11_many 0 = .ok (.iload_n 1, 1) := by decide +kernel
theorem dX11_many_1 : decode cX11_many 1 = .ok (.ifCond .lt 29, 3) := by decide +kernel
theorem dX11_many_4 : decode cX11_many 4 = .ok (.iload_n 1, 1) := by decide +kernel
theorem dX11_many_5 : decode cX11_many 5 = .ok (.bipush 10, 2) := by decide +kernel
theorem dX11_many_7 : decode cX11_many 7 = .ok (.if_icmp .gt 23, 3) := by decide +kernel
theorem dX11_many_10 : decode cX11_many 10 = .ok (.iload_n 2, 1) := by decide +kernel
theorem dX11_many_11 : decode cX11_many 11 = .ok (.ifCond .lt 19, 3) := by decide +kernel
theorem dX11_many_14 : decode cX11_many 14 = .ok (.iload_n 2, 1) := by decide +kernel
theorem dX11_many_15 : decode cX11_many 15 = .ok (.bipush 10, 2) := by decide +kernel
theorem dX11_many_17 : decode cX11_many 17 = .ok (.if_icmp .gt 13, 3) := by decide +kernel
theorem dX11_many_20 : decode cX11_many 20 = .ok (.iload_n 3, 1) := by decide +kernel
theorem dX11_many_21 : decode cX11_many 21 = .ok (.ifCond .lt 9, 3) := by decide +kernel
theorem dX11_many_24 : decode cX11_many 24 = .ok (.iload_n 3, 1) := by decide +kernel
theorem dX11_many_25 : decode cX11_many 25 = .ok (.bipush 100, 2) := by decide +kernel
theorem dX11_many_27 : decode cX11_many 27 = .ok (.if_icmp .le 5, 3) := by decide +kernel
theorem dX11_many_30 : decode cX11_many 30 = .ok (.iconst (-1), 1) := by decide +kernel
theorem dX11_many_31 : decode cX11_many 31 = .ok (.ireturn, 1) := by decide +kernel
theorem dX11_many_32 : decode cX11_many 32 = .ok (.iconst 0, 1) := by decide +kernel
theorem dX11_many_33 : decode cX11_many 33 = .ok (.istore 4, 2) := by decide +kernel
theorem dX11_many_35 : decode cX11_many 35 = .ok (.iload 4, 2) := by decide +kernel
theorem dX11_many_37 : decode cX11_many 37 = .ok (.bipush 15, 2) := by decide +kernel
theorem dX11_many_39 : decode cX11_many 39 = .ok (.if_icmp .gt 53, 3) := by decide +kernel
theorem dX11_many_42 : decode cX11_many 42 = .ok (.iload_n 2, 1) := by decide +kernel
theorem dX11_many_43 : decode cX11_many 43 = .ok (.iload 4, 2) := by decide +kernel
theorem dX11_many_45 : decode cX11_many 45 = .ok (.invokestatic 307, 3) := by decide +kernel
theorem dX11_many_48 : decode cX11_many 48 = .ok (.lstore 5, 2) := by decide +kernel
theorem dX11_many_50 : decode cX11_many 50 = .ok (.iload_n 1, 1) := by decide +kernel
theorem dX11_many_51 : decode cX11_many 51 = .ok (.iload 4, 2) := by decide +kernel
theorem dX11_many_53 : decode cX11_many 53 = .ok (.invokestatic 307, 3) := by decide +kernel
theorem dX11_many_56 : decode cX11_many 56 = .ok (.lload 5, 2) := by decide +kernel
theorem dX11_many_58 : decode cX11_many 58 = .ok (.ladd, 1) := by decide +kernel
theorem dX11_many_59 : decode cX11_many 59 = .ok (.lstore 7, 2) := by decide +kernel
theorem dX11_many_61 : decode cX11_many 61 = .ok (.lload 7, 2) := by decide +kernel
theorem dX11_many_63 : decode cX11_many 63 = .ok (.lconst 0, 1) := by decide +kernel
theorem dX11_many_64 : decode cX11_many 64 = .ok (.lcmp, 1) := by decide +kernel
theorem dX11_many_65 : decode cX11_many 65 = .ok (.ifCond .le 21, 3) := by decide +kernel
theorem dX11_many_68 : decode cX11_many 68 = .ok (.ldc2_w 310, 3) := by decide +kernel
theorem dX11_many_71 : decode cX11_many 71 = .ok (.lload 5, 2) := by decide +kernel
theorem dX11_many_73 : decode cX11_many 73 = .ok (.lmul, 1) := by decide +kernel
theorem dX11_many_74 : decode cX11_many 74 = .ok (.iload_n 3, 1) := by decide +kernel
theorem dX11_many_75 : decode cX11_many 75 = .ok (.i2l, 1) := by decide +kernel
theorem dX11_many_76 : decode cX11_many 76 = .ok (.lload 7, 2) := by decide +kernel
theorem dX11_many_78 : decode cX11_many 78 = .ok (.lmul, 1) := by decide +kernel
theorem dX11_many_79 : decode cX11_many 79 = .ok (.lcmp, 1) := by decide +kernel
theorem dX11_many_80 : decode cX11_many 80 = .ok (.ifCond .lt 6, 3) := by decide +kernel
theorem dX11_many_83 : decode cX11_many 83 = .ok (.iload 4, 2) := by decide +kernel
theorem dX11_many_85 : decode cX11_many 85 = .ok (.ireturn, 1) := by decide +kernel
theorem dX11_many_86 : decode cX11_many 86 = .ok (.iinc 4 1, 3) := by decide +kernel
theorem dX11_many_89 : decode cX11_many 89 = .ok (.goto (-54), 3) := by decide +kernel
theorem dX11_many_92 : decode cX11_many 92 = .ok (.iconst (-1), 1) := by decide +kernel
theorem dX11_many_93 : decode cX11_many 93 = .ok (.ireturn, 1) := by decide +kernel
theorem dX11_drawn_0 : decode cX11_drawn 0 = .ok (.aload_n 0, 1) := by decide +kernel
theorem dX11_drawn_1 : decode cX11_drawn 1 = .ok (.iload_n 1, 1) := by decide +kernel
theorem dX11_drawn_2 : decode cX11_drawn 2 = .ok (.invokevirtual 94, 3) := by decide +kernel
theorem dX11_drawn_5 : decode cX11_drawn 5 = .ok (.astore 4, 2) := by decide +kernel
theorem dX11_drawn_7 : decode cX11_drawn 7 = .ok (.aload 4, 2) := by decide +kernel
theorem dX11_drawn_9 : decode cX11_drawn 9 = .ok (.ifnonnull 6, 3) := by decide +kernel
theorem dX11_drawn_12 : decode cX11_drawn 12 = .ok (.bipush (-2), 2) := by decide +kernel
theorem dX11_drawn_14 : decode cX11_drawn 14 = .ok (.ireturn, 1) := by decide +kernel
theorem dX11_drawn_15 : decode cX11_drawn 15 = .ok (.aload_n 0, 1) := by decide +kernel
theorem dX11_drawn_16 : decode cX11_drawn 16 = .ok (.getfield 62, 3) := by decide +kernel
theorem dX11_drawn_19 : decode cX11_drawn 19 = .ok (.aload 4, 2) := by decide +kernel
theorem dX11_drawn_21 : decode cX11_drawn 21 = .ok (.iload_n 2, 1) := by decide +kernel
theorem dX11_drawn_22 : decode cX11_drawn 22 = .ok (.aload_n 0, 1) := by decide +kernel
theorem dX11_drawn_23 : decode cX11_drawn 23 = .ok (.getfield 55, 3) := by decide +kernel
theorem dX11_drawn_26 : decode cX11_drawn 26 = .ok (.invokevirtual 312, 3) := by decide +kernel
theorem dX11_drawn_29 : decode cX11_drawn 29 = .ok (.iload_n 3, 1) := by decide +kernel
theorem dX11_drawn_30 : decode cX11_drawn 30 = .ok (.bipush 10, 2) := by decide +kernel
theorem dX11_drawn_32 : decode cX11_drawn 32 = .ok (.if_icmp .lt 30, 3) := by decide +kernel
theorem dX11_drawn_35 : decode cX11_drawn 35 = .ok (.iload_n 3, 1) := by decide +kernel
theorem dX11_drawn_36 : decode cX11_drawn 36 = .ok (.bipush 10, 2) := by decide +kernel
theorem dX11_drawn_38 : decode cX11_drawn 38 = .ok (.aload 4, 2) := by decide +kernel
theorem dX11_drawn_40 : decode cX11_drawn 40 = .ok (.getfield 218, 3) := by decide +kernel
theorem dX11_drawn_43 : decode cX11_drawn 43 = .ok (.iadd, 1) := by decide +kernel
theorem dX11_drawn_44 : decode cX11_drawn 44 = .ok (.if_icmp .ge 18, 3) := by decide +kernel
theorem dX11_drawn_47 : decode cX11_drawn 47 = .ok (.aload_n 0, 1) := by decide +kernel
theorem dX11_drawn_48 : decode cX11_drawn 48 = .ok (.getfield 55, 3) := by decide +kernel
theorem dX11_drawn_51 : decode cX11_drawn 51 = .ok (.getfield 285, 3) := by decide +kernel
theorem dX11_drawn_54 : decode cX11_drawn 54 = .ok (.iload_n 3, 1) := by decide +kernel
theorem dX11_drawn_55 : decode cX11_drawn 55 = .ok (.bipush 10, 2) := by decide +kernel
theorem dX11_drawn_57 : decode cX11_drawn 57 = .ok (.isub, 1) := by decide +kernel
theorem dX11_drawn_58 : decode cX11_drawn 58 = .ok (.iaload, 1) := by decide +kernel
theorem dX11_drawn_59 : decode cX11_drawn 59 = .ok (.goto 11, 3) := by decide +kernel
theorem dX11_drawn_62 : decode cX11_drawn 62 = .ok (.aload_n 0, 1) := by decide +kernel
theorem dX11_drawn_63 : decode cX11_drawn 63 = .ok (.getfield 62, 3) := by decide +kernel
theorem dX11_drawn_66 : decode cX11_drawn 66 = .ok (.iload_n 3, 1) := by decide +kernel
theorem dX11_drawn_67 : decode cX11_drawn 67 = .ok (.invokevirtual 316, 3) := by decide +kernel
theorem dX11_drawn_70 : decode cX11_drawn 70 = .ok (.ireturn, 1) := by decide +kernel
theorem dX11_count_0 : decode cX11_count 0 = .ok (.iload_n 1, 1) := by decide +kernel
theorem dX11_count_1 : decode cX11_count 1 = .ok (.ifCond .lt 8, 3) := by decide +kernel
theorem dX11_count_4 : decode cX11_count 4 = .ok (.iload_n 1, 1) := by decide +kernel
theorem dX11_count_5 : decode cX11_count 5 = .ok (.iconst 5, 1) := by decide +kernel
theorem dX11_count_6 : decode cX11_count 6 = .ok (.if_icmp .lt 8, 3) := by decide +kernel
theorem dX11_count_9 : decode cX11_count 9 = .ok (.bipush (-2), 2) := by decide +kernel
theorem dX11_count_11 : decode cX11_count 11 = .ok (.goto 12, 3) := by decide +kernel
theorem dX11_count_14 : decode cX11_count 14 = .ok (.aload_n 0, 1) := by decide +kernel
theorem dX11_count_15 : decode cX11_count 15 = .ok (.getfield 10, 3) := by decide +kernel
theorem dX11_count_18 : decode cX11_count 18 = .ok (.getfield 317, 3) := by decide +kernel
theorem dX11_count_21 : decode cX11_count 21 = .ok (.iload_n 1, 1) := by decide +kernel
theorem dX11_count_22 : decode cX11_count 22 = .ok (.iaload, 1) := by decide +kernel
theorem dX11_count_23 : decode cX11_count 23 = .ok (.ireturn, 1) := by decide +kernel
theorem dX11_image_0 : decode cX11_image 0 = .ok (.iload_n 1, 1) := by decide +kernel
theorem dX11_image_1 : decode cX11_image 1 = .ok (.ifCond .lt 8, 3) := by decide +kernel
theorem dX11_image_4 : decode cX11_image 4 = .ok (.iload_n 1, 1) := by decide +kernel
theorem dX11_image_5 : decode cX11_image 5 = .ok (.iconst 3, 1) := by decide +kernel
theorem dX11_image_6 : decode cX11_image 6 = .ok (.if_icmp .lt 5, 3) := by decide +kernel
theorem dX11_image_9 : decode cX11_image 9 = .ok (.iconst 0, 1) := by decide +kernel
theorem dX11_image_10 : decode cX11_image 10 = .ok (.ireturn, 1) := by decide +kernel
theorem dX11_image_11 : decode cX11_image 11 = .ok (.aload_n 0, 1) := by decide +kernel
theorem dX11_image_12 : decode cX11_image 12 = .ok (.getfield 16, 3) := by decide +kernel
theorem dX11_image_15 : decode cX11_image 15 = .ok (.iload_n 1, 1) := by decide +kernel
theorem dX11_image_16 : decode cX11_image 16 = .ok (.aaload, 1) := by decide +kernel
theorem dX11_image_17 : decode cX11_image 17 = .ok (.aload_n 0, 1) := by decide +kernel
theorem dX11_image_18 : decode cX11_image 18 = .ok (.getfield 10, 3) := by decide +kernel
theorem dX11_image_21 : decode cX11_image 21 = .ok (.invokevirtual 320, 3) := by decide +kernel
theorem dX11_image_24 : decode cX11_image 24 = .ok (.aload_n 0, 1) := by decide +kernel
theorem dX11_image_25 : decode cX11_image 25 = .ok (.getfield 20, 3) := by decide +kernel
theorem dX11_image_28 : decode cX11_image 28 = .ok (.iload_n 1, 1) := by decide +kernel
theorem dX11_image_29 : decode cX11_image 29 = .ok (.iconst 1, 1) := by decide +kernel
theorem dX11_image_30 : decode cX11_image 30 = .ok (.bastore, 1) := by decide +kernel
theorem dX11_image_31 : decode cX11_image 31 = .ok (.iconst 1, 1) := by decide +kernel
theorem dX11_image_32 : decode cX11_image 32 = .ok (.ireturn, 1) := by decide +kernel
theorem dX11_again_0 : decode cX11_again 0 = .ok (.iload_n 1, 1) := by decide +kernel
theorem dX11_again_1 : decode cX11_again 1 = .ok (.ifCond .lt 17, 3) := by decide +kernel
theorem dX11_again_4 : decode cX11_again 4 = .ok (.iload_n 1, 1) := by decide +kernel
theorem dX11_again_5 : decode cX11_again 5 = .ok (.iconst 3, 1) := by decide +kernel
theorem dX11_again_6 : decode cX11_again 6 = .ok (.if_icmp .ge 12, 3) := by decide +kernel
theorem dX11_again_9 : decode cX11_again 9 = .ok (.aload_n 0, 1) := by decide +kernel
theorem dX11_again_10 : decode cX11_again 10 = .ok (.getfield 20, 3) := by decide +kernel
theorem dX11_again_13 : decode cX11_again 13 = .ok (.iload_n 1, 1) := by decide +kernel
theorem dX11_again_14 : decode cX11_again 14 = .ok (.baload, 1) := by decide +kernel
theorem dX11_again_15 : decode cX11_again 15 = .ok (.ifCond .ne 5, 3) := by decide +kernel
theorem dX11_again_18 : decode cX11_again 18 = .ok (.iconst 0, 1) := by decide +kernel
theorem dX11_again_19 : decode cX11_again 19 = .ok (.ireturn, 1) := by decide +kernel
theorem dX11_again_20 : decode cX11_again 20 = .ok (.aload_n 0, 1) := by decide +kernel
theorem dX11_again_21 : decode cX11_again 21 = .ok (.getfield 10, 3) := by decide +kernel
theorem dX11_again_24 : decode cX11_again 24 = .ok (.aload_n 0, 1) := by decide +kernel
theorem dX11_again_25 : decode cX11_again 25 = .ok (.getfield 16, 3) := by decide +kernel
theorem dX11_again_28 : decode cX11_again 28 = .ok (.iload_n 1, 1) := by decide +kernel
theorem dX11_again_29 : decode cX11_again 29 = .ok (.aaload, 1) := by decide +kernel
theorem dX11_again_30 : decode cX11_again 30 = .ok (.invokevirtual 320, 3) := by decide +kernel
theorem dX11_again_33 : decode cX11_again 33 = .ok (.iconst 1, 1) := by decide +kernel
theorem dX11_again_34 : decode cX11_again 34 = .ok (.ireturn, 1) := by decide +kernel
theorem dX11_placeFor_0 : decode cX11_placeFor 0 = .ok (.iload_n 1, 1) := by decide +kernel
theorem dX11_placeFor_1 : decode cX11_placeFor 1 = .ok (.ifCond .lt 8, 3) := by decide +kernel
theorem dX11_placeFor_4 : decode cX11_placeFor 4 = .ok (.iload_n 1, 1) := by decide +kernel
theorem dX11_placeFor_5 : decode cX11_placeFor 5 = .ok (.iconst 5, 1) := by decide +kernel
theorem dX11_placeFor_6 : decode cX11_placeFor 6 = .ok (.if_icmp .lt 5, 3) := by decide +kernel
theorem dX11_placeFor_9 : decode cX11_placeFor 9 = .ok (.iconst (-1), 1) := by decide +kernel
theorem dX11_placeFor_10 : decode cX11_placeFor 10 = .ok (.ireturn, 1) := by decide +kernel
theorem dX11_placeFor_11 : decode cX11_placeFor 11 = .ok (.aload_n 0, 1) := by decide +kernel
theorem dX11_placeFor_12 : decode cX11_placeFor 12 = .ok (.getfield 10, 3) := by decide +kernel
theorem dX11_placeFor_15 : decode cX11_placeFor 15 = .ok (.getfield 317, 3) := by decide +kernel
theorem dX11_placeFor_18 : decode cX11_placeFor 18 = .ok (.iload_n 1, 1) := by decide +kernel
theorem dX11_placeFor_19 : decode cX11_placeFor 19 = .ok (.iaload, 1) := by decide +kernel
theorem dX11_placeFor_20 : decode cX11_placeFor 20 = .ok (.istore_n 3, 1) := by decide +kernel
theorem dX11_placeFor_21 : decode cX11_placeFor 21 = .ok (.iload_n 2, 1) := by decide +kernel
theorem dX11_placeFor_22 : decode cX11_placeFor 22 = .ok (.iconst (-1), 1) := by decide +kernel
theorem dX11_placeFor_23 : decode cX11_placeFor 23 = .ok (.if_icmp .ne 14, 3) := by decide +kernel
theorem dX11_placeFor_26 : decode cX11_placeFor 26 = .ok (.iload_n 3, 1) := by decide +kernel
theorem dX11_placeFor_27 : decode cX11_placeFor 27 = .ok (.iconst 2, 1) := by decide +kernel
theorem dX11_placeFor_28 : decode cX11_placeFor 28 = .ok (.if_icmp .ge 7, 3) := by decide +kernel
theorem dX11_placeFor_31 : decode cX11_placeFor 31 = .ok (.iload_n 3, 1) := by decide +kernel
theorem dX11_placeFor_32 : decode cX11_placeFor 32 = .ok (.goto 4, 3) := by decide +kernel
theorem dX11_placeFor_35 : decode cX11_placeFor 35 = .ok (.iconst (-1), 1) := by decide +kernel
theorem dX11_placeFor_36 : decode cX11_placeFor 36 = .ok (.ireturn, 1) := by decide +kernel
theorem dX11_placeFor_37 : decode cX11_placeFor 37 = .ok (.iload_n 2, 1) := by decide +kernel
theorem dX11_placeFor_38 : decode cX11_placeFor 38 = .ok (.ifCond .lt 12, 3) := by decide +kernel
theorem dX11_placeFor_41 : decode cX11_placeFor 41 = .ok (.iload_n 2, 1) := by decide +kernel
theorem dX11_placeFor_42 : decode cX11_placeFor 42 = .ok (.iload_n 3, 1) := by decide +kernel
theorem dX11_placeFor_43 : decode cX11_placeFor 43 = .ok (.if_icmp .ge 7, 3) := by decide +kernel
theorem dX11_placeFor_46 : decode cX11_placeFor 46 = .ok (.iload_n 2, 1) := by decide +kernel
theorem dX11_placeFor_47 : decode cX11_placeFor 47 = .ok (.goto 4, 3) := by decide +kernel
theorem dX11_placeFor_50 : decode cX11_placeFor 50 = .ok (.iconst (-1), 1) := by decide +kernel
theorem dX11_placeFor_51 : decode cX11_placeFor 51 = .ok (.ireturn, 1) := by decide +kernel
theorem dX11_keepDraft_0 : decode cX11_keepDraft 0 = .ok (.iload_n 1, 1) := by decide +kernel
theorem dX11_keepDraft_1 : decode cX11_keepDraft 1 = .ok (.tableswitch 119 0 3 #[31, 53, 75, 97], 31) := by decide +kernel
theorem dX11_keepDraft_32 : decode cX11_keepDraft 32 = .ok (.aload_n 0, 1) := by decide +kernel
theorem dX11_keepDraft_33 : decode cX11_keepDraft 33 = .ok (.getfield 10, 3) := by decide +kernel
theorem dX11_keepDraft_36 : decode cX11_keepDraft 36 = .ok (.getfield 324, 3) := by decide +kernel
theorem dX11_keepDraft_39 : decode cX11_keepDraft 39 = .ok (.iload_n 2, 1) := by decide +kernel
theorem dX11_keepDraft_40 : decode cX11_keepDraft 40 = .ok (.aaload, 1) := by decide +kernel
theorem dX11_keepDraft_41 : decode cX11_keepDraft 41 = .ok (.aload_n 0, 1) := by decide +kernel
theorem dX11_keepDraft_42 : decode cX11_keepDraft 42 = .ok (.getfield 27, 3) := by decide +kernel
theorem dX11_keepDraft_45 : decode cX11_keepDraft 45 = .ok (.getfield 328, 3) := by decide +kernel
theorem dX11_keepDraft_48 : decode cX11_keepDraft 48 = .ok (.invokevirtual 332, 3) := by decide +kernel
theorem dX11_keepDraft_51 : decode cX11_keepDraft 51 = .ok (.goto 88, 3) := by decide +kernel
theorem dX11_keepDraft_54 : decode cX11_keepDraft 54 = .ok (.aload_n 0, 1) := by decide +kernel
theorem dX11_keepDraft_55 : decode cX11_keepDraft 55 = .ok (.getfield 10, 3) := by decide +kernel
theorem dX11_keepDraft_58 : decode cX11_keepDraft 58 = .ok (.getfield 334, 3) := by decide +kernel
theorem dX11_keepDraft_61 : decode cX11_keepDraft 61 = .ok (.iload_n 2, 1) := by decide +kernel
theorem dX11_keepDraft_62 : decode cX11_keepDraft 62 = .ok (.aaload, 1) := by decide +kernel
theorem dX11_keepDraft_63 : decode cX11_keepDraft 63 = .ok (.aload_n 0, 1) := by decide +kernel
theorem dX11_keepDraft_64 : decode cX11_keepDraft 64 = .ok (.getfield 27, 3) := by decide +kernel
theorem dX11_keepDraft_67 : decode cX11_keepDraft 67 = .ok (.getfield 338, 3) := by decide +kernel
theorem dX11_keepDraft_70 : decode cX11_keepDraft 70 = .ok (.invokevirtual 341, 3) := by decide +kernel
theorem dX11_keepDraft_73 : decode cX11_keepDraft 73 = .ok (.goto 66, 3) := by decide +kernel
theorem dX11_keepDraft_76 : decode cX11_keepDraft 76 = .ok (.aload_n 0, 1) := by decide +kernel
theorem dX11_keepDraft_77 : decode cX11_keepDraft 77 = .ok (.getfield 10, 3) := by decide +kernel
theorem dX11_keepDraft_80 : decode cX11_keepDraft 80 = .ok (.getfield 344, 3) := by decide +kernel
theorem dX11_keepDraft_83 : decode cX11_keepDraft 83 = .ok (.iload_n 2, 1) := by decide +kernel
theorem dX11_keepDraft_84 : decode cX11_keepDraft 84 = .ok (.aaload, 1) := by decide +kernel
theorem dX11_keepDraft_85 : decode cX11_keepDraft 85 = .ok (.aload_n 0, 1) := by decide +kernel
theorem dX11_keepDraft_86 : decode cX11_keepDraft 86 = .ok (.getfield 27, 3) := by decide +kernel
theorem dX11_keepDraft_89 : decode cX11_keepDraft 89 = .ok (.getfield 348, 3) := by decide +kernel
theorem dX11_keepDraft_92 : decode cX11_keepDraft 92 = .ok (.invokevirtual 351, 3) := by decide +kernel
theorem dX11_keepDraft_95 : decode cX11_keepDraft 95 = .ok (.goto 44, 3) := by decide +kernel
theorem dX11_keepDraft_98 : decode cX11_keepDraft 98 = .ok (.aload_n 0, 1) := by decide +kernel
theorem dX11_keepDraft_99 : decode cX11_keepDraft 99 = .ok (.getfield 10, 3) := by decide +kernel
theorem dX11_keepDraft_102 : decode cX11_keepDraft 102 = .ok (.getfield 354, 3) := by decide +kernel
theorem dX11_keepDraft_105 : decode cX11_keepDraft 105 = .ok (.iload_n 2, 1) := by decide +kernel
theorem dX11_keepDraft_106 : decode cX11_keepDraft 106 = .ok (.aaload, 1) := by decide +kernel
theorem dX11_keepDraft_107 : decode cX11_keepDraft 107 = .ok (.aload_n 0, 1) := by decide +kernel
theorem dX11_keepDraft_108 : decode cX11_keepDraft 108 = .ok (.getfield 27, 3) := by decide +kernel
theorem dX11_keepDraft_111 : decode cX11_keepDraft 111 = .ok (.getfield 357, 3) := by decide +kernel
theorem dX11_keepDraft_114 : decode cX11_keepDraft 114 = .ok (.invokevirtual 341, 3) := by decide +kernel
theorem dX11_keepDraft_117 : decode cX11_keepDraft 117 = .ok (.goto 22, 3) := by decide +kernel
theorem dX11_keepDraft_120 : decode cX11_keepDraft 120 = .ok (.aload_n 0, 1) := by decide +kernel
theorem dX11_keepDraft_121 : decode cX11_keepDraft 121 = .ok (.getfield 10, 3) := by decide +kernel
theorem dX11_keepDraft_124 : decode cX11_keepDraft 124 = .ok (.getfield 360, 3) := by decide +kernel
theorem dX11_keepDraft_127 : decode cX11_keepDraft 127 = .ok (.iload_n 2, 1) := by decide +kernel
theorem dX11_keepDraft_128 : decode cX11_keepDraft 128 = .ok (.aaload, 1) := by decide +kernel
theorem dX11_keepDraft_129 : decode cX11_keepDraft 129 = .ok (.aload_n 0, 1) := by decide +kernel
theorem dX11_keepDraft_130 : decode cX11_keepDraft 130 = .ok (.getfield 27, 3) := by decide +kernel
theorem dX11_keepDraft_133 : decode cX11_keepDraft 133 = .ok (.getfield 364, 3) := by decide +kernel
theorem dX11_keepDraft_136 : decode cX11_keepDraft 136 = .ok (.invokevirtual 368, 3) := by decide +kernel
theorem dX11_keepDraft_139 : decode cX11_keepDraft 139 = .ok (.iload_n 2, 1) := by decide +kernel
theorem dX11_keepDraft_140 : decode cX11_keepDraft 140 = .ok (.aload_n 0, 1) := by decide +kernel
theorem dX11_keepDraft_141 : decode cX11_keepDraft 141 = .ok (.getfield 10, 3) := by decide +kernel
theorem dX11_keepDraft_144 : decode cX11_keepDraft 144 = .ok (.getfield 317, 3) := by decide +kernel
theorem dX11_keepDraft_147 : decode cX11_keepDraft 147 = .ok (.iload_n 1, 1) := by decide +kernel
theorem dX11_keepDraft_148 : decode cX11_keepDraft 148 = .ok (.iaload, 1) := by decide +kernel
theorem dX11_keepDraft_149 : decode cX11_keepDraft 149 = .ok (.if_icmp .ne 16, 3) := by decide +kernel
theorem dX11_keepDraft_152 : decode cX11_keepDraft 152 = .ok (.aload_n 0, 1) := by decide +kernel
theorem dX11_keepDraft_153 : decode cX11_keepDraft 153 = .ok (.getfield 10, 3) := by decide +kernel
theorem dX11_keepDraft_156 : decode cX11_keepDraft 156 = .ok (.getfield 317, 3) := by decide +kernel
theorem dX11_keepDraft_159 : decode cX11_keepDraft 159 = .ok (.iload_n 1, 1) := by decide +kernel
theorem dX11_keepDraft_160 : decode cX11_keepDraft 160 = .ok (.dup2, 1) := by decide +kernel
theorem dX11_keepDraft_161 : decode cX11_keepDraft 161 = .ok (.iaload, 1) := by decide +kernel
theorem dX11_keepDraft_162 : decode cX11_keepDraft 162 = .ok (.iconst 1, 1) := by decide +kernel
theorem dX11_keepDraft_163 : decode cX11_keepDraft 163 = .ok (.iadd, 1) := by decide +kernel
theorem dX11_keepDraft_164 : decode cX11_keepDraft 164 = .ok (.iastore, 1) := by decide +kernel
theorem dX11_keepDraft_165 : decode cX11_keepDraft 165 = .ok (.return_, 1) := by decide +kernel
theorem dX11_partyAt_0 : decode cX11_partyAt 0 = .ok (.iload_n 1, 1) := by decide +kernel
theorem dX11_partyAt_1 : decode cX11_partyAt 1 = .ok (.ifCond .lt 28, 3) := by decide +kernel
theorem dX11_partyAt_4 : decode cX11_partyAt 4 = .ok (.iload_n 1, 1) := by decide +kernel
theorem dX11_partyAt_5 : decode cX11_partyAt 5 = .ok (.aload_n 0, 1) := by decide +kernel
theorem dX11_partyAt_6 : decode cX11_partyAt 6 = .ok (.getfield 10, 3) := by decide +kernel
theorem dX11_partyAt_9 : decode cX11_partyAt 9 = .ok (.getfield 317, 3) := by decide +kernel
theorem dX11_partyAt_12 : decode cX11_partyAt 12 = .ok (.iconst 0, 1) := by decide +kernel
theorem dX11_partyAt_13 : decode cX11_partyAt 13 = .ok (.iaload, 1) := by decide +kernel
theorem dX11_partyAt_14 : decode cX11_partyAt 14 = .ok (.if_icmp .ge 15, 3) := by decide +kernel
theorem dX11_partyAt_17 : decode cX11_partyAt 17 = .ok (.aload_n 0, 1) := by decide +kernel
theorem dX11_partyAt_18 : decode cX11_partyAt 18 = .ok (.getfield 10, 3) := by decide +kernel
theorem dX11_partyAt_21 : decode cX11_partyAt 21 = .ok (.getfield 324, 3) := by decide +kernel
theorem dX11_partyAt_24 : decode cX11_partyAt 24 = .ok (.iload_n 1, 1) := by decide +kernel
theorem dX11_partyAt_25 : decode cX11_partyAt 25 = .ok (.aaload, 1) := by decide +kernel
theorem dX11_partyAt_26 : decode cX11_partyAt 26 = .ok (.goto 4, 3) := by decide +kernel
theorem dX11_partyAt_29 : decode cX11_partyAt 29 = .ok (.aconst_null, 1) := by decide +kernel
theorem dX11_partyAt_30 : decode cX11_partyAt 30 = .ok (.areturn, 1) := by decide +kernel
theorem dX11_bookAt_0 : decode cX11_bookAt 0 = .ok (.iload_n 1, 1) := by decide +kernel
theorem dX11_bookAt_1 : decode cX11_bookAt 1 = .ok (.ifCond .lt 28, 3) := by decide +kernel
theorem dX11_bookAt_4 : decode cX11_bookAt 4 = .ok (.iload_n 1, 1) := by decide +kernel
theorem dX11_bookAt_5 : decode cX11_bookAt 5 = .ok (.aload_n 0, 1) := by decide +kernel
theorem dX11_bookAt_6 : decode cX11_bookAt 6 = .ok (.getfield 10, 3) := by decide +kernel
theorem dX11_bookAt_9 : decode cX11_bookAt 9 = .ok (.getfield 317, 3) := by decide +kernel
theorem dX11_bookAt_12 : decode cX11_bookAt 12 = .ok (.iconst 1, 1) := by decide +kernel
theorem dX11_bookAt_13 : decode cX11_bookAt 13 = .ok (.iaload, 1) := by decide +kernel
theorem dX11_bookAt_14 : decode cX11_bookAt 14 = .ok (.if_icmp .ge 15, 3) := by decide +kernel
theorem dX11_bookAt_17 : decode cX11_bookAt 17 = .ok (.aload_n 0, 1) := by decide +kernel
theorem dX11_bookAt_18 : decode cX11_bookAt 18 = .ok (.getfield 10, 3) := by decide +kernel
theorem dX11_bookAt_21 : decode cX11_bookAt 21 = .ok (.getfield 334, 3) := by decide +kernel
theorem dX11_bookAt_24 : decode cX11_bookAt 24 = .ok (.iload_n 1, 1) := by decide +kernel
theorem dX11_bookAt_25 : decode cX11_bookAt 25 = .ok (.aaload, 1) := by decide +kernel
theorem dX11_bookAt_26 : decode cX11_bookAt 26 = .ok (.goto 4, 3) := by decide +kernel
theorem dX11_bookAt_29 : decode cX11_bookAt 29 = .ok (.aconst_null, 1) := by decide +kernel
theorem dX11_bookAt_30 : decode cX11_bookAt 30 = .ok (.areturn, 1) := by decide +kernel
theorem dX11_cluesAt_0 : decode cX11_cluesAt 0 = .ok (.iload_n 1, 1) := by decide +kernel
theorem dX11_cluesAt_1 : decode cX11_cluesAt 1 = .ok (.ifCond .lt 28, 3) := by decide +kernel
theorem dX11_cluesAt_4 : decode cX11_cluesAt 4 = .ok (.iload_n 1, 1) := by decide +kernel
theorem dX11_cluesAt_5 : decode cX11_cluesAt 5 = .ok (.aload_n 0, 1) := by decide +kernel
theorem dX11_cluesAt_6 : decode cX11_cluesAt 6 = .ok (.getfield 10, 3) := by decide +kernel
theorem dX11_cluesAt_9 : decode cX11_cluesAt 9 = .ok (.getfield 317, 3) := by decide +kernel
theorem dX11_cluesAt_12 : decode cX11_cluesAt 12 = .ok (.iconst 2, 1) := by decide +kernel
theorem dX11_cluesAt_13 : decode cX11_cluesAt 13 = .ok (.iaload, 1) := by decide +kernel
theorem dX11_cluesAt_14 : decode cX11_cluesAt 14 = .ok (.if_icmp .ge 15, 3) := by decide +kernel
theorem dX11_cluesAt_17 : decode cX11_cluesAt 17 = .ok (.aload_n 0, 1) := by decide +kernel
theorem dX11_cluesAt_18 : decode cX11_cluesAt 18 = .ok (.getfield 10, 3) := by decide +kernel
theorem dX11_cluesAt_21 : decode cX11_cluesAt 21 = .ok (.getfield 344, 3) := by decide +kernel
theorem dX11_cluesAt_24 : decode cX11_cluesAt 24 = .ok (.iload_n 1, 1) := by decide +kernel
theorem dX11_cluesAt_25 : decode cX11_cluesAt 25 = .ok (.aaload, 1) := by decide +kernel
theorem dX11_cluesAt_26 : decode cX11_cluesAt 26 = .ok (.goto 4, 3) := by decide +kernel
theorem dX11_cluesAt_29 : decode cX11_cluesAt 29 = .ok (.aconst_null, 1) := by decide +kernel
theorem dX11_cluesAt_30 : decode cX11_cluesAt 30 = .ok (.areturn, 1) := by decide +kernel
theorem dX11_groundAt_0 : decode cX11_groundAt 0 = .ok (.iload_n 1, 1) := by decide +kernel
theorem dX11_groundAt_1 : decode cX11_groundAt 1 = .ok (.ifCond .lt 28, 3) := by decide +kernel
theorem dX11_groundAt_4 : decode cX11_groundAt 4 = .ok (.iload_n 1, 1) := by decide +kernel
theorem dX11_groundAt_5 : decode cX11_groundAt 5 = .ok (.aload_n 0, 1) := by decide +kernel
theorem dX11_groundAt_6 : decode cX11_groundAt 6 = .ok (.getfield 10, 3) := by decide +kernel
theorem dX11_groundAt_9 : decode cX11_groundAt 9 = .ok (.getfield 317, 3) := by decide +kernel
theorem dX11_groundAt_12 : decode cX11_groundAt 12 = .ok (.iconst 3, 1) := by decide +kernel
theorem dX11_groundAt_13 : decode cX11_groundAt 13 = .ok (.iaload, 1) := by decide +kernel
theorem dX11_groundAt_14 : decode cX11_groundAt 14 = .ok (.if_icmp .ge 15, 3) := by decide +kernel
theorem dX11_groundAt_17 : decode cX11_groundAt 17 = .ok (.aload_n 0, 1) := by decide +kernel
theorem dX11_groundAt_18 : decode cX11_groundAt 18 = .ok (.getfield 10, 3) := by decide +kernel
theorem dX11_groundAt_21 : decode cX11_groundAt 21 = .ok (.getfield 354, 3) := by decide +kernel
theorem dX11_groundAt_24 : decode cX11_groundAt 24 = .ok (.iload_n 1, 1) := by decide +kernel
theorem dX11_groundAt_25 : decode cX11_groundAt 25 = .ok (.aaload, 1) := by decide +kernel
theorem dX11_groundAt_26 : decode cX11_groundAt 26 = .ok (.goto 4, 3) := by decide +kernel
theorem dX11_groundAt_29 : decode cX11_groundAt 29 = .ok (.aconst_null, 1) := by decide +kernel
theorem dX11_groundAt_30 : decode cX11_groundAt 30 = .ok (.areturn, 1) := by decide +kernel
theorem dX11_tallyAt_0 : decode cX11_tallyAt 0 = .ok (.iload_n 1, 1) := by decide +kernel
theorem dX11_tallyAt_1 : decode cX11_tallyAt 1 = .ok (.ifCond .lt 28, 3) := by decide +kernel
theorem dX11_tallyAt_4 : decode cX11_tallyAt 4 = .ok (.iload_n 1, 1) := by decide +kernel
theorem dX11_tallyAt_5 : decode cX11_tallyAt 5 = .ok (.aload_n 0, 1) := by decide +kernel
theorem dX11_tallyAt_6 : decode cX11_tallyAt 6 = .ok (.getfield 10, 3) := by decide +kernel
theorem dX11_tallyAt_9 : decode cX11_tallyAt 9 = .ok (.getfield 317, 3) := by decide +kernel
theorem dX11_tallyAt_12 : decode cX11_tallyAt 12 = .ok (.iconst 4, 1) := by decide +kernel
theorem dX11_tallyAt_13 : decode cX11_tallyAt 13 = .ok (.iaload, 1) := by decide +kernel
theorem dX11_tallyAt_14 : decode cX11_tallyAt 14 = .ok (.if_icmp .ge 15, 3) := by decide +kernel
theorem dX11_tallyAt_17 : decode cX11_tallyAt 17 = .ok (.aload_n 0, 1) := by decide +kernel
theorem dX11_tallyAt_18 : decode cX11_tallyAt 18 = .ok (.getfield 10, 3) := by decide +kernel
theorem dX11_tallyAt_21 : decode cX11_tallyAt 21 = .ok (.getfield 360, 3) := by decide +kernel
theorem dX11_tallyAt_24 : decode cX11_tallyAt 24 = .ok (.iload_n 1, 1) := by decide +kernel
theorem dX11_tallyAt_25 : decode cX11_tallyAt 25 = .ok (.aaload, 1) := by decide +kernel
theorem dX11_tallyAt_26 : decode cX11_tallyAt 26 = .ok (.goto 4, 3) := by decide +kernel
theorem dX11_tallyAt_29 : decode cX11_tallyAt 29 = .ok (.aconst_null, 1) := by decide +kernel
theorem dX11_tallyAt_30 : decode cX11_tallyAt 30 = .ok (.areturn, 1) := by decide +kernel
theorem dX11_farOf_0 : decode cX11_farOf 0 = .ok (.iload_n 0, 1) := by decide +kernel
theorem dX11_farOf_1 : decode cX11_farOf 1 = .ok (.iload_n 1, 1) := by decide +kernel
theorem dX11_farOf_2 : decode cX11_farOf 2 = .ok (.isub, 1) := by decide +kernel
theorem dX11_farOf_3 : decode cX11_farOf 3 = .ok (.bipush 7, 2) := by decide +kernel
theorem dX11_farOf_5 : decode cX11_farOf 5 = .ok (.iand, 1) := by decide +kernel
theorem dX11_farOf_6 : decode cX11_farOf 6 = .ok (.istore_n 2, 1) := by decide +kernel
theorem dX11_farOf_7 : decode cX11_farOf 7 = .ok (.iload_n 2, 1) := by decide +kernel
theorem dX11_farOf_8 : decode cX11_farOf 8 = .ok (.bipush 8, 2) := by decide +kernel
theorem dX11_farOf_10 : decode cX11_farOf 10 = .ok (.iload_n 2, 1) := by decide +kernel
theorem dX11_farOf_11 : decode cX11_farOf 11 = .ok (.isub, 1) := by decide +kernel
theorem dX11_farOf_12 : decode cX11_farOf 12 = .ok (.invokestatic 371, 3) := by decide +kernel
theorem dX11_farOf_15 : decode cX11_farOf 15 = .ok (.ireturn, 1) := by decide +kernel
theorem dX11_stepsBetween_0 : decode cX11_stepsBetween 0 = .ok (.iload_n 0, 1) := by decide +kernel
theorem dX11_stepsBetween_1 : decode cX11_stepsBetween 1 = .ok (.iconst 5, 1) := by decide +kernel
theorem dX11_stepsBetween_2 : decode cX11_stepsBetween 2 = .ok (.idiv, 1) := by decide +kernel
theorem dX11_stepsBetween_3 : decode cX11_stepsBetween 3 = .ok (.iload_n 1, 1) := by decide +kernel
theorem dX11_stepsBetween_4 : decode cX11_stepsBetween 4 = .ok (.iconst 5, 1) := by decide +kernel
theorem dX11_stepsBetween_5 : decode cX11_stepsBetween 5 = .ok (.idiv, 1) := by decide +kernel
theorem dX11_stepsBetween_6 : decode cX11_stepsBetween 6 = .ok (.isub, 1) := by decide +kernel
theorem dX11_stepsBetween_7 : decode cX11_stepsBetween 7 = .ok (.invokestatic 376, 3) := by decide +kernel
theorem dX11_stepsBetween_10 : decode cX11_stepsBetween 10 = .ok (.istore_n 2, 1) := by decide +kernel
theorem dX11_stepsBetween_11 : decode cX11_stepsBetween 11 = .ok (.iload_n 0, 1) := by decide +kernel
theorem dX11_stepsBetween_12 : decode cX11_stepsBetween 12 = .ok (.iconst 5, 1) := by decide +kernel
theorem dX11_stepsBetween_13 : decode cX11_stepsBetween 13 = .ok (.irem, 1) := by decide +kernel
theorem dX11_stepsBetween_14 : decode cX11_stepsBetween 14 = .ok (.iload_n 1, 1) := by decide +kernel
theorem dX11_stepsBetween_15 : decode cX11_stepsBetween 15 = .ok (.iconst 5, 1) := by decide +kernel
theorem dX11_stepsBetween_16 : decode cX11_stepsBetween 16 = .ok (.irem, 1) := by decide +kernel
theorem dX11_stepsBetween_17 : decode cX11_stepsBetween 17 = .ok (.isub, 1) := by decide +kernel
theorem dX11_stepsBetween_18 : decode cX11_stepsBetween 18 = .ok (.invokestatic 376, 3) := by decide +kernel
theorem dX11_stepsBetween_21 : decode cX11_stepsBetween 21 = .ok (.istore_n 3, 1) := by decide +kernel
theorem dX11_stepsBetween_22 : decode cX11_stepsBetween 22 = .ok (.iload_n 2, 1) := by decide +kernel
theorem dX11_stepsBetween_23 : decode cX11_stepsBetween 23 = .ok (.iload_n 3, 1) := by decide +kernel
theorem dX11_stepsBetween_24 : decode cX11_stepsBetween 24 = .ok (.invokestatic 379, 3) := by decide +kernel
theorem dX11_stepsBetween_27 : decode cX11_stepsBetween 27 = .ok (.ireturn, 1) := by decide +kernel
theorem dX11_ringOf_0 : decode cX11_ringOf 0 = .ok (.iload_n 0, 1) := by decide +kernel
theorem dX11_ringOf_1 : decode cX11_ringOf 1 = .ok (.bipush 12, 2) := by decide +kernel
theorem dX11_ringOf_3 : decode cX11_ringOf 3 = .ok (.invokestatic 382, 3) := by decide +kernel
theorem dX11_ringOf_6 : decode cX11_ringOf 6 = .ok (.ireturn, 1) := by decide +kernel
theorem dX11_sideOf_0 : decode cX11_sideOf 0 = .ok (.iload_n 0, 1) := by decide +kernel
theorem dX11_sideOf_1 : decode cX11_sideOf 1 = .ok (.bipush 12, 2) := by decide +kernel
theorem dX11_sideOf_3 : decode cX11_sideOf 3 = .ok (.if_icmp .ne 5, 3) := by decide +kernel
theorem dX11_sideOf_6 : decode cX11_sideOf 6 = .ok (.iconst (-1), 1) := by decide +kernel
theorem dX11_sideOf_7 : decode cX11_sideOf 7 = .ok (.ireturn, 1) := by decide +kernel
theorem dX11_sideOf_8 : decode cX11_sideOf 8 = .ok (.iload_n 0, 1) := by decide +kernel
theorem dX11_sideOf_9 : decode cX11_sideOf 9 = .ok (.iconst 5, 1) := by decide +kernel
theorem dX11_sideOf_10 : decode cX11_sideOf 10 = .ok (.idiv, 1) := by decide +kernel
theorem dX11_sideOf_11 : decode cX11_sideOf 11 = .ok (.iconst 2, 1) := by decide +kernel
theorem dX11_sideOf_12 : decode cX11_sideOf 12 = .ok (.isub, 1) := by decide +kernel
theorem dX11_sideOf_13 : decode cX11_sideOf 13 = .ok (.istore_n 1, 1) := by decide +kernel
theorem dX11_sideOf_14 : decode cX11_sideOf 14 = .ok (.iload_n 0, 1) := by decide +kernel
theorem dX11_sideOf_15 : decode cX11_sideOf 15 = .ok (.iconst 5, 1) := by decide +kernel
theorem dX11_sideOf_16 : decode cX11_sideOf 16 = .ok (.irem, 1) := by decide +kernel
theorem dX11_sideOf_17 : decode cX11_sideOf 17 = .ok (.iconst 2, 1) := by decide +kernel
theorem dX11_sideOf_18 : decode cX11_sideOf 18 = .ok (.isub, 1) := by decide +kernel
theorem dX11_sideOf_19 : decode cX11_sideOf 19 = .ok (.istore_n 2, 1) := by decide +kernel
theorem dX11_sideOf_20 : decode cX11_sideOf 20 = .ok (.iload_n 1, 1) := by decide +kernel
theorem dX11_sideOf_21 : decode cX11_sideOf 21 = .ok (.invokestatic 376, 3) := by decide +kernel
theorem dX11_sideOf_24 : decode cX11_sideOf 24 = .ok (.iconst 2, 1) := by decide +kernel
theorem dX11_sideOf_25 : decode cX11_sideOf 25 = .ok (.iload_n 2, 1) := by decide +kernel
theorem dX11_sideOf_26 : decode cX11_sideOf 26 = .ok (.invokestatic 376, 3) := by decide +kernel
theorem dX11_sideOf_29 : decode cX11_sideOf 29 = .ok (.imul, 1) := by decide +kernel
theorem dX11_sideOf_30 : decode cX11_sideOf 30 = .ok (.if_icmp .lt 13, 3) := by decide +kernel
theorem dX11_sideOf_33 : decode cX11_sideOf 33 = .ok (.iload_n 1, 1) := by decide +kernel
theorem dX11_sideOf_34 : decode cX11_sideOf 34 = .ok (.ifCond .ge 7, 3) := by decide +kernel
theorem dX11_sideOf_37 : decode cX11_sideOf 37 = .ok (.iconst 0, 1) := by decide +kernel
theorem dX11_sideOf_38 : decode cX11_sideOf 38 = .ok (.goto 4, 3) := by decide +kernel
theorem dX11_sideOf_41 : decode cX11_sideOf 41 = .ok (.iconst 4, 1) := by decide +kernel
theorem dX11_sideOf_42 : decode cX11_sideOf 42 = .ok (.ireturn, 1) := by decide +kernel
theorem dX11_sideOf_43 : decode cX11_sideOf 43 = .ok (.iload_n 2, 1) := by decide +kernel
theorem dX11_sideOf_44 : decode cX11_sideOf 44 = .ok (.invokestatic 376, 3) := by decide +kernel
theorem dX11_sideOf_47 : decode cX11_sideOf 47 = .ok (.iconst 2, 1) := by decide +kernel
theorem dX11_sideOf_48 : decode cX11_sideOf 48 = .ok (.iload_n 1, 1) := by decide +kernel
theorem dX11_sideOf_49 : decode cX11_sideOf 49 = .ok (.invokestatic 376, 3) := by decide +kernel
theorem dX11_sideOf_52 : decode cX11_sideOf 52 = .ok (.imul, 1) := by decide +kernel
theorem dX11_sideOf_53 : decode cX11_sideOf 53 = .ok (.if_icmp .lt 14, 3) := by decide +kernel
theorem dX11_sideOf_56 : decode cX11_sideOf 56 = .ok (.iload_n 2, 1) := by decide +kernel
theorem dX11_sideOf_57 : decode cX11_sideOf 57 = .ok (.ifCond .le 7, 3) := by decide +kernel
theorem dX11_sideOf_60 : decode cX11_sideOf 60 = .ok (.iconst 2, 1) := by decide +kernel
theorem dX11_sideOf_61 : decode cX11_sideOf 61 = .ok (.goto 5, 3) := by decide +kernel
theorem dX11_sideOf_64 : decode cX11_sideOf 64 = .ok (.bipush 6, 2) := by decide +kernel
theorem dX11_sideOf_66 : decode cX11_sideOf 66 = .ok (.ireturn, 1) := by decide +kernel
theorem dX11_sideOf_67 : decode cX11_sideOf 67 = .ok (.iload_n 2, 1) := by decide +kernel
theorem dX11_sideOf_68 : decode cX11_sideOf 68 = .ok (.ifCond .le 13, 3) := by decide +kernel
theorem dX11_sideOf_71 : decode cX11_sideOf 71 = .ok (.iload_n 1, 1) := by decide +kernel
theorem dX11_sideOf_72 : decode cX11_sideOf 72 = .ok (.ifCond .ge 7, 3) := by decide +kernel
theorem dX11_sideOf_75 : decode cX11_sideOf 75 = .ok (.iconst 1, 1) := by decide +kernel
theorem dX11_sideOf_76 : decode cX11_sideOf 76 = .ok (.goto 4, 3) := by decide +kernel
theorem dX11_sideOf_79 : decode cX11_sideOf 79 = .ok (.iconst 3, 1) := by decide +kernel
theorem dX11_sideOf_80 : decode cX11_sideOf 80 = .ok (.ireturn, 1) := by decide +kernel
theorem dX11_sideOf_81 : decode cX11_sideOf 81 = .ok (.iload_n 1, 1) := by decide +kernel
theorem dX11_sideOf_82 : decode cX11_sideOf 82 = .ok (.ifCond .le 7, 3) := by decide +kernel
theorem dX11_sideOf_85 : decode cX11_sideOf 85 = .ok (.iconst 5, 1) := by decide +kernel
theorem dX11_sideOf_86 : decode cX11_sideOf 86 = .ok (.goto 5, 3) := by decide +kernel
theorem dX11_sideOf_89 : decode cX11_sideOf 89 = .ok (.bipush 7, 2) := by decide +kernel
theorem dX11_sideOf_91 : decode cX11_sideOf 91 = .ok (.ireturn, 1) := by decide +kernel
theorem dX11_fraction_0 : decode cX11_fraction 0 = .ok (.lload_n 0, 1) := by decide +kernel
theorem dX11_fraction_1 : decode cX11_fraction 1 = .ok (.lconst 0, 1) := by decide +kernel
theorem dX11_fraction_2 : decode cX11_fraction 2 = .ok (.lcmp, 1) := by decide +kernel
theorem dX11_fraction_3 : decode cX11_fraction 3 = .ok (.ifCond .le 9, 3) := by decide +kernel
theorem dX11_fraction_6 : decode cX11_fraction 6 = .ok (.lload_n 2, 1) := by decide +kernel
theorem dX11_fraction_7 : decode cX11_fraction 7 = .ok (.lconst 0, 1) := by decide +kernel
theorem dX11_fraction_8 : decode cX11_fraction 8 = .ok (.lcmp, 1) := by decide +kernel
theorem dX11_fraction_9 : decode cX11_fraction 9 = .ok (.ifCond .gt 14, 3) := by decide +kernel
theorem dX11_fraction_12 : decode cX11_fraction 12 = .ok (.iload 4, 2) := by decide +kernel
theorem dX11_fraction_14 : decode cX11_fraction 14 = .ok (.ifCond .eq 7, 3) := by decide +kernel
theorem dX11_fraction_17 : decode cX11_fraction 17 = .ok (.lconst 1, 1) := by decide +kernel
theorem dX11_fraction_18 : decode cX11_fraction 18 = .ok (.goto 4, 3) := by decide +kernel
theorem dX11_fraction_21 : decode cX11_fraction 21 = .ok (.lconst 0, 1) := by decide +kernel
theorem dX11_fraction_22 : decode cX11_fraction 22 = .ok (.lreturn, 1) := by decide +kernel
theorem dX11_fraction_23 : decode cX11_fraction 23 = .ok (.lload_n 0, 1) := by decide +kernel
theorem dX11_fraction_24 : decode cX11_fraction 24 = .ok (.lload_n 2, 1) := by decide +kernel
theorem dX11_fraction_25 : decode cX11_fraction 25 = .ok (.invokestatic 385, 3) := by decide +kernel
theorem dX11_fraction_28 : decode cX11_fraction 28 = .ok (.lstore 5, 2) := by decide +kernel
theorem dX11_fraction_30 : decode cX11_fraction 30 = .ok (.lload 5, 2) := by decide +kernel
theorem dX11_fraction_32 : decode cX11_fraction 32 = .ok (.lconst 0, 1) := by decide +kernel
theorem dX11_fraction_33 : decode cX11_fraction 33 = .ok (.lcmp, 1) := by decide +kernel
theorem dX11_fraction_34 : decode cX11_fraction 34 = .ok (.ifCond .gt 14, 3) := by decide +kernel
theorem dX11_fraction_37 : decode cX11_fraction 37 = .ok (.iload 4, 2) := by decide +kernel
theorem dX11_fraction_39 : decode cX11_fraction 39 = .ok (.ifCond .eq 7, 3) := by decide +kernel
theorem dX11_fraction_42 : decode cX11_fraction 42 = .ok (.lconst 1, 1) := by decide +kernel
theorem dX11_fraction_43 : decode cX11_fraction 43 = .ok (.goto 4, 3) := by decide +kernel
theorem dX11_fraction_46 : decode cX11_fraction 46 = .ok (.lconst 0, 1) := by decide +kernel
theorem dX11_fraction_47 : decode cX11_fraction 47 = .ok (.lreturn, 1) := by decide +kernel
theorem dX11_fraction_48 : decode cX11_fraction 48 = .ok (.iload 4, 2) := by decide +kernel
theorem dX11_fraction_50 : decode cX11_fraction 50 = .ok (.ifCond .eq 10, 3) := by decide +kernel
theorem dX11_fraction_53 : decode cX11_fraction 53 = .ok (.lload_n 2, 1) := by decide +kernel
theorem dX11_fraction_54 : decode cX11_fraction 54 = .ok (.lload 5, 2) := by decide +kernel
theorem dX11_fraction_56 : decode cX11_fraction 56 = .ok (.ldiv, 1) := by decide +kernel
theorem dX11_fraction_57 : decode cX11_fraction 57 = .ok (.goto 7, 3) := by decide +kernel
theorem dX11_fraction_60 : decode cX11_fraction 60 = .ok (.lload_n 0, 1) := by decide +kernel
theorem dX11_fraction_61 : decode cX11_fraction 61 = .ok (.lload 5, 2) := by decide +kernel
theorem dX11_fraction_63 : decode cX11_fraction 63 = .ok (.ldiv, 1) := by decide +kernel
theorem dX11_fraction_64 : decode cX11_fraction 64 = .ok (.lreturn, 1) := by decide +kernel
theorem dX11_commonOf_0 : decode cX11_commonOf 0 = .ok (.lload_n 0, 1) := by decide +kernel
theorem dX11_commonOf_1 : decode cX11_commonOf 1 = .ok (.lstore 4, 2) := by decide +kernel
theorem dX11_commonOf_3 : decode cX11_commonOf 3 = .ok (.lload_n 2, 1) := by decide +kernel
theorem dX11_commonOf_4 : decode cX11_commonOf 4 = .ok (.lstore 6, 2) := by decide +kernel
theorem dX11_commonOf_6 : decode cX11_commonOf 6 = .ok (.iconst 0, 1) := by decide +kernel
theorem dX11_commonOf_7 : decode cX11_commonOf 7 = .ok (.istore 8, 2) := by decide +kernel
theorem dX11_commonOf_9 : decode cX11_commonOf 9 = .ok (.iload 8, 2) := by decide +kernel
theorem dX11_commonOf_11 : decode cX11_commonOf 11 = .ok (.bipush 100, 2) := by decide +kernel
theorem dX11_commonOf_13 : decode cX11_commonOf 13 = .ok (.if_icmp .ge 31, 3) := by decide +kernel
theorem dX11_commonOf_16 : decode cX11_commonOf 16 = .ok (.lload 6, 2) := by decide +kernel
theorem dX11_commonOf_18 : decode cX11_commonOf 18 = .ok (.lconst 0, 1) := by decide +kernel
theorem dX11_commonOf_19 : decode cX11_commonOf 19 = .ok (.lcmp, 1) := by decide +kernel
theorem dX11_commonOf_20 : decode cX11_commonOf 20 = .ok (.ifCond .eq 24, 3) := by decide +kernel
theorem dX11_commonOf_23 : decode cX11_commonOf 23 = .ok (.lload 4, 2) := by decide +kernel
theorem dX11_commonOf_25 : decode cX11_commonOf 25 = .ok (.lload 6, 2) := by decide +kernel
theorem dX11_commonOf_27 : decode cX11_commonOf 27 = .ok (.lrem, 1) := by decide +kernel
theorem dX11_commonOf_28 : decode cX11_commonOf 28 = .ok (.lstore 9, 2) := by decide +kernel
theorem dX11_commonOf_30 : decode cX11_commonOf 30 = .ok (.lload 6, 2) := by decide +kernel
theorem dX11_commonOf_32 : decode cX11_commonOf 32 = .ok (.lstore 4, 2) := by decide +kernel
theorem dX11_commonOf_34 : decode cX11_commonOf 34 = .ok (.lload 9, 2) := by decide +kernel
theorem dX11_commonOf_36 : decode cX11_commonOf 36 = .ok (.lstore 6, 2) := by decide +kernel
theorem dX11_commonOf_38 : decode cX11_commonOf 38 = .ok (.iinc 8 1, 3) := by decide +kernel
theorem dX11_commonOf_41 : decode cX11_commonOf 41 = .ok (.goto (-32), 3) := by decide +kernel
theorem dX11_commonOf_44 : decode cX11_commonOf 44 = .ok (.lload 4, 2) := by decide +kernel
theorem dX11_commonOf_46 : decode cX11_commonOf 46 = .ok (.lreturn, 1) := by decide +kernel
theorem dX11_power_0 : decode cX11_power 0 = .ok (.lconst 1, 1) := by decide +kernel
theorem dX11_power_1 : decode cX11_power 1 = .ok (.lstore_n 2, 1) := by decide +kernel
theorem dX11_power_2 : decode cX11_power 2 = .ok (.iconst 0, 1) := by decide +kernel
theorem dX11_power_3 : decode cX11_power 3 = .ok (.istore 4, 2) := by decide +kernel
theorem dX11_power_5 : decode cX11_power 5 = .ok (.iload 4, 2) := by decide +kernel
theorem dX11_power_7 : decode cX11_power 7 = .ok (.iload_n 1, 1) := by decide +kernel
theorem dX11_power_8 : decode cX11_power 8 = .ok (.if_icmp .ge 21, 3) := by decide +kernel
theorem dX11_power_11 : decode cX11_power 11 = .ok (.iload 4, 2) := by decide +kernel
theorem dX11_power_13 : decode cX11_power 13 = .ok (.bipush 15, 2) := by decide +kernel
theorem dX11_power_15 : decode cX11_power 15 = .ok (.if_icmp .ge 14, 3) := by decide +kernel
theorem dX11_power_18 : decode cX11_power 18 = .ok (.lload_n 2, 1) := by decide +kernel
theorem dX11_power_19 : decode cX11_power 19 = .ok (.iload_n 0, 1) := by decide +kernel
theorem dX11_power_20 : decode cX11_power 20 = .ok (.i2l, 1) := by decide +kernel
theorem dX11_power_21 : decode cX11_power 21 = .ok (.lmul, 1) := by decide +kernel
theorem dX11_power_22 : decode cX11_power 22 = .ok (.lstore_n 2, 1) := by decide +kernel
theorem dX11_power_23 : decode cX11_power 23 = .ok (.iinc 4 1, 3) := by decide +kernel
theorem dX11_power_26 : decode cX11_power 26 = .ok (.goto (-21), 3) := by decide +kernel
theorem dX11_power_29 : decode cX11_power 29 = .ok (.lload_n 2, 1) := by decide +kernel
theorem dX11_power_30 : decode cX11_power 30 = .ok (.lreturn, 1) := by decide +kernel
theorem dX11_wordOf_0 : decode cX11_wordOf 0 = .ok (.iload_n 0, 1) := by decide +kernel
theorem dX11_wordOf_1 : decode cX11_wordOf 1 = .ok (.tableswitch 231 0 26 #[123, 127, 131, 135, 139, 143, 147, 151, 155, 159, 163, 167, 171, 175, 179, 183, 187, 191, 195, 199, 203, 207, 211, 215, 219, 223, 227], 123) := by decide +kernel
theorem dX11_wordOf_124 : decode cX11_wordOf 124 = .ok (.ldc_w 389, 3) := by decide +kernel
theorem dX11_wordOf_127 : decode cX11_wordOf 127 = .ok (.areturn, 1) := by decide +kernel
theorem dX11_wordOf_128 : decode cX11_wordOf 128 = .ok (.ldc_w 391, 3) := by decide +kernel
theorem dX11_wordOf_131 : decode cX11_wordOf 131 = .ok (.areturn, 1) := by decide +kernel
theorem dX11_wordOf_132 : decode cX11_wordOf 132 = .ok (.ldc_w 393, 3) := by decide +kernel
theorem dX11_wordOf_135 : decode cX11_wordOf 135 = .ok (.areturn, 1) := by decide +kernel
theorem dX11_wordOf_136 : decode cX11_wordOf 136 = .ok (.ldc_w 395, 3) := by decide +kernel
theorem dX11_wordOf_139 : decode cX11_wordOf 139 = .ok (.areturn, 1) := by decide +kernel
theorem dX11_wordOf_140 : decode cX11_wordOf 140 = .ok (.ldc_w 397, 3) := by decide +kernel
theorem dX11_wordOf_143 : decode cX11_wordOf 143 = .ok (.areturn, 1) := by decide +kernel
theorem dX11_wordOf_144 : decode cX11_wordOf 144 = .ok (.ldc_w 399, 3) := by decide +kernel
theorem dX11_wordOf_147 : decode cX11_wordOf 147 = .ok (.areturn, 1) := by decide +kernel
theorem dX11_wordOf_148 : decode cX11_wordOf 148 = .ok (.ldc_w 401, 3) := by decide +kernel
theorem dX11_wordOf_151 : decode cX11_wordOf 151 = .ok (.areturn, 1) := by decide +kernel
theorem dX11_wordOf_152 : decode cX11_wordOf 152 = .ok (.ldc_w 403, 3) := by decide +kernel
theorem dX11_wordOf_155 : decode cX11_wordOf 155 = .ok (.areturn, 1) := by decide +kernel
theorem dX11_wordOf_156 : decode cX11_wordOf 156 = .ok (.ldc_w 404, 3) := by decide +kernel
theorem dX11_wordOf_159 : decode cX11_wordOf 159 = .ok (.areturn, 1) := by decide +kernel
theorem dX11_wordOf_160 : decode cX11_wordOf 160 = .ok (.ldc_w 406, 3) := by decide +kernel
theorem dX11_wordOf_163 : decode cX11_wordOf 163 = .ok (.areturn, 1) := by decide +kernel
theorem dX11_wordOf_164 : decode cX11_wordOf 164 = .ok (.ldc_w 408, 3) := by decide +kernel
theorem dX11_wordOf_167 : decode cX11_wordOf 167 = .ok (.areturn, 1) := by decide +kernel
theorem dX11_wordOf_168 : decode cX11_wordOf 168 = .ok (.ldc_w 410, 3) := by decide +kernel
theorem dX11_wordOf_171 : decode cX11_wordOf 171 = .ok (.areturn, 1) := by decide +kernel
theorem dX11_wordOf_172 : decode cX11_wordOf 172 = .ok (.ldc_w 411, 3) := by decide +kernel
theorem dX11_wordOf_175 : decode cX11_wordOf 175 = .ok (.areturn, 1) := by decide +kernel
theorem dX11_wordOf_176 : decode cX11_wordOf 176 = .ok (.ldc_w 413, 3) := by decide +kernel
theorem dX11_wordOf_179 : decode cX11_wordOf 179 = .ok (.areturn, 1) := by decide +kernel
theorem dX11_wordOf_180 : decode cX11_wordOf 180 = .ok (.ldc_w 415, 3) := by decide +kernel
theorem dX11_wordOf_183 : decode cX11_wordOf 183 = .ok (.areturn, 1) := by decide +kernel
theorem dX11_wordOf_184 : decode cX11_wordOf 184 = .ok (.ldc_w 417, 3) := by decide +kernel
theorem dX11_wordOf_187 : decode cX11_wordOf 187 = .ok (.areturn, 1) := by decide +kernel
theorem dX11_wordOf_188 : decode cX11_wordOf 188 = .ok (.ldc_w 419, 3) := by decide +kernel
theorem dX11_wordOf_191 : decode cX11_wordOf 191 = .ok (.areturn, 1) := by decide +kernel
theorem dX11_wordOf_192 : decode cX11_wordOf 192 = .ok (.ldc_w 421, 3) := by decide +kernel
theorem dX11_wordOf_195 : decode cX11_wordOf 195 = .ok (.areturn, 1) := by decide +kernel
theorem dX11_wordOf_196 : decode cX11_wordOf 196 = .ok (.ldc_w 423, 3) := by decide +kernel
theorem dX11_wordOf_199 : decode cX11_wordOf 199 = .ok (.areturn, 1) := by decide +kernel
theorem dX11_wordOf_200 : decode cX11_wordOf 200 = .ok (.ldc_w 425, 3) := by decide +kernel
theorem dX11_wordOf_203 : decode cX11_wordOf 203 = .ok (.areturn, 1) := by decide +kernel
theorem dX11_wordOf_204 : decode cX11_wordOf 204 = .ok (.ldc_w 427, 3) := by decide +kernel
theorem dX11_wordOf_207 : decode cX11_wordOf 207 = .ok (.areturn, 1) := by decide +kernel
theorem dX11_wordOf_208 : decode cX11_wordOf 208 = .ok (.ldc_w 429, 3) := by decide +kernel
theorem dX11_wordOf_211 : decode cX11_wordOf 211 = .ok (.areturn, 1) := by decide +kernel
theorem dX11_wordOf_212 : decode cX11_wordOf 212 = .ok (.ldc_w 431, 3) := by decide +kernel
theorem dX11_wordOf_215 : decode cX11_wordOf 215 = .ok (.areturn, 1) := by decide +kernel
theorem dX11_wordOf_216 : decode cX11_wordOf 216 = .ok (.ldc_w 432, 3) := by decide +kernel
theorem dX11_wordOf_219 : decode cX11_wordOf 219 = .ok (.areturn, 1) := by decide +kernel
theorem dX11_wordOf_220 : decode cX11_wordOf 220 = .ok (.ldc_w 434, 3) := by decide +kernel
theorem dX11_wordOf_223 : decode cX11_wordOf 223 = .ok (.areturn, 1) := by decide +kernel
theorem dX11_wordOf_224 : decode cX11_wordOf 224 = .ok (.ldc_w 436, 3) := by decide +kernel
theorem dX11_wordOf_227 : decode cX11_wordOf 227 = .ok (.areturn, 1) := by decide +kernel
theorem dX11_wordOf_228 : decode cX11_wordOf 228 = .ok (.ldc_w 438, 3) := by decide +kernel
theorem dX11_wordOf_231 : decode cX11_wordOf 231 = .ok (.areturn, 1) := by decide +kernel
theorem dX11_wordOf_232 : decode cX11_wordOf 232 = .ok (.ldc_w 440, 3) := by decide +kernel
theorem dX11_wordOf_235 : decode cX11_wordOf 235 = .ok (.areturn, 1) := by decide +kernel
theorem dX12_init_0 : decode cX12_init 0 = .ok (.aload_n 0, 1) := by decide +kernel
theorem dX12_init_1 : decode cX12_init 1 = .ok (.invokespecial 1, 3) := by decide +kernel
theorem dX12_init_4 : decode cX12_init 4 = .ok (.aload_n 0, 1) := by decide +kernel
theorem dX12_init_5 : decode cX12_init 5 = .ok (.sipush 2400, 3) := by decide +kernel
theorem dX12_init_8 : decode cX12_init 8 = .ok (.newarray .byte, 2) := by decide +kernel
theorem dX12_init_10 : decode cX12_init 10 = .ok (.putfield 7, 3) := by decide +kernel
theorem dX12_init_13 : decode cX12_init 13 = .ok (.aload_n 0, 1) := by decide +kernel
theorem dX12_init_14 : decode cX12_init 14 = .ok (.iconst 4, 1) := by decide +kernel
theorem dX12_init_15 : decode cX12_init 15 = .ok (.newarray .int, 2) := by decide +kernel
theorem dX12_init_17 : decode cX12_init 17 = .ok (.putfield 13, 3) := by decide +kernel
theorem dX12_init_20 : decode cX12_init 20 = .ok (.aload_n 0, 1) := by decide +kernel
theorem dX12_init_21 : decode cX12_init 21 = .ok (.iconst 4, 1) := by decide +kernel
theorem dX12_init_22 : decode cX12_init 22 = .ok (.newarray .int, 2) := by decide +kernel
theorem dX12_init_24 : decode cX12_init 24 = .ok (.putfield 17, 3) := by decide +kernel
theorem dX12_init_27 : decode cX12_init 27 = .ok (.aload_n 0, 1) := by decide +kernel
theorem dX12_init_28 : decode cX12_init 28 = .ok (.iconst 4, 1) := by decide +kernel
theorem dX12_init_29 : decode cX12_init 29 = .ok (.newarray .int, 2) := by decide +kernel
theorem dX12_init_31 : decode cX12_init 31 = .ok (.putfield 20, 3) := by decide +kernel
theorem dX12_init_34 : decode cX12_init 34 = .ok (.aload_n 0, 1) := by decide +kernel
theorem dX12_init_35 : decode cX12_init 35 = .ok (.bipush 20, 2) := by decide +kernel
theorem dX12_init_37 : decode cX12_init 37 = .ok (.newarray .int, 2) := by decide +kernel
theorem dX12_init_39 : decode cX12_init 39 = .ok (.putfield 23, 3) := by decide +kernel
theorem dX12_init_42 : decode cX12_init 42 = .ok (.aload_n 0, 1) := by decide +kernel
theorem dX12_init_43 : decode cX12_init 43 = .ok (.sipush 1056, 3) := by decide +kernel
theorem dX12_init_46 : decode cX12_init 46 = .ok (.newarray .int, 2) := by decide +kernel
theorem dX12_init_48 : decode cX12_init 48 = .ok (.putfield 26, 3) := by decide +kernel
theorem dX12_init_51 : decode cX12_init 51 = .ok (.aload_n 0, 1) := by decide +kernel
theorem dX12_init_52 : decode cX12_init 52 = .ok (.sipush 968, 3) := by decide +kernel
theorem dX12_init_55 : decode cX12_init 55 = .ok (.newarray .int, 2) := by decide +kernel
theorem dX12_init_57 : decode cX12_init 57 = .ok (.putfield 29, 3) := by decide +kernel
theorem dX12_init_60 : decode cX12_init 60 = .ok (.aload_n 0, 1) := by decide +kernel
theorem dX12_init_61 : decode cX12_init 61 = .ok (.sipush 264, 3) := by decide +kernel
theorem dX12_init_64 : decode cX12_init 64 = .ok (.newarray .int, 2) := by decide +kernel
theorem dX12_init_66 : decode cX12_init 66 = .ok (.putfield 32, 3) := by decide +kernel
theorem dX12_init_69 : decode cX12_init 69 = .ok (.aload_n 0, 1) := by decide +kernel
theorem dX12_init_70 : decode cX12_init 70 = .ok (.sipush 408, 3) := by decide +kernel
theorem dX12_init_73 : decode cX12_init 73 = .ok (.newarray .int, 2) := by decide +kernel
theorem dX12_init_75 : decode cX12_init 75 = .ok (.putfield 35, 3) := by decide +kernel
theorem dX12_init_78 : decode cX12_init 78 = .ok (.aload_n 0, 1) := by decide +kernel
theorem dX12_init_79 : decode cX12_init 79 = .ok (.sipush 776, 3) := by decide +kernel
theorem dX12_init_82 : decode cX12_init 82 = .ok (.newarray .int, 2) := by decide +kernel
theorem dX12_init_84 : decode cX12_init 84 = .ok (.putfield 38, 3) := by decide +kernel
theorem dX12_init_87 : decode cX12_init 87 = .ok (.aload_n 0, 1) := by decide +kernel
theorem dX12_init_88 : decode cX12_init 88 = .ok (.sipush 132, 3) := by decide +kernel
theorem dX12_init_91 : decode cX12_init 91 = .ok (.newarray .int, 2) := by decide +kernel
theorem dX12_init_93 : decode cX12_init 93 = .ok (.putfield 41, 3) := by decide +kernel
theorem dX12_init_96 : decode cX12_init 96 = .ok (.aload_n 0, 1) := by decide +kernel
theorem dX12_init_97 : decode cX12_init 97 = .ok (.iconst 4, 1) := by decide +kernel
theorem dX12_init_98 : decode cX12_init 98 = .ok (.newarray .int, 2) := by decide +kernel
theorem dX12_init_100 : decode cX12_init 100 = .ok (.putfield 44, 3) := by decide +kernel
theorem dX12_init_103 : decode cX12_init 103 = .ok (.aload_n 0, 1) := by decide +kernel
theorem dX12_init_104 : decode cX12_init 104 = .ok (.iconst 5, 1) := by decide +kernel
theorem dX12_init_105 : decode cX12_init 105 = .ok (.newarray .int, 2) := by decide +kernel
theorem dX12_init_107 : decode cX12_init 107 = .ok (.putfield 47, 3) := by decide +kernel
theorem dX12_init_110 : decode cX12_init 110 = .ok (.aload_n 0, 1) := by decide +kernel
theorem dX12_init_111 : decode cX12_init 111 = .ok (.bipush 32, 2) := by decide +kernel
theorem dX12_init_113 : decode cX12_init 113 = .ok (.newarray .int, 2) := by decide +kernel
theorem dX12_init_115 : decode cX12_init 115 = .ok (.putfield 50, 3) := by decide +kernel
theorem dX12_init_118 : decode cX12_init 118 = .ok (.aload_n 0, 1) := by decide +kernel
theorem dX12_init_119 : decode cX12_init 119 = .ok (.bipush 40, 2) := by decide +kernel
theorem dX12_init_121 : decode cX12_init 121 = .ok (.newarray .int, 2) := by decide +kernel
theorem dX12_init_123 : decode cX12_init 123 = .ok (.putfield 53, 3) := by decide +kernel
theorem dX12_init_126 : decode cX12_init 126 = .ok (.aload_n 0, 1) := by decide +kernel
theorem dX12_init_127 : decode cX12_init 127 = .ok (.bipush 40, 2) := by decide +kernel
theorem dX12_init_129 : decode cX12_init 129 = .ok (.newarray .int, 2) := by decide +kernel
theorem dX12_init_131 : decode cX12_init 131 = .ok (.putfield 56, 3) := by decide +kernel
theorem dX12_init_134 : decode cX12_init 134 = .ok (.aload_n 0, 1) := by decide +kernel
theorem dX12_init_135 : decode cX12_init 135 = .ok (.bipush 40, 2) := by decide +kernel
theorem dX12_init_137 : decode cX12_init 137 = .ok (.newarray .int, 2) := by decide +kernel
theorem dX12_init_139 : decode cX12_init 139 = .ok (.putfield 59, 3) := by decide +kernel
theorem dX12_init_142 : decode cX12_init 142 = .ok (.aload_n 0, 1) := by decide +kernel
theorem dX12_init_143 : decode cX12_init 143 = .ok (.bipush 40, 2) := by decide +kernel
theorem dX12_init_145 : decode cX12_init 145 = .ok (.newarray .int, 2) := by decide +kernel
theorem dX12_init_147 : decode cX12_init 147 = .ok (.putfield 62, 3) := by decide +kernel
theorem dX12_init_150 : decode cX12_init 150 = .ok (.aload_n 0, 1) := by decide +kernel
theorem dX12_init_151 : decode cX12_init 151 = .ok (.bipush 8, 2) := by decide +kernel
theorem dX12_init_153 : decode cX12_init 153 = .ok (.newarray .long, 2) := by decide +kernel
theorem dX12_init_155 : decode cX12_init 155 = .ok (.putfield 65, 3) := by decide +kernel
theorem dX12_init_158 : decode cX12_init 158 = .ok (.aload_n 0, 1) := by decide +kernel
theorem dX12_init_159 : decode cX12_init 159 = .ok (.sipush 542, 3) := by decide +kernel
theorem dX12_init_162 : decode cX12_init 162 = .ok (.newarray .long, 2) := by decide +kernel
theorem dX12_init_164 : decode cX12_init 164 = .ok (.putfield 69, 3) := by decide +kernel
theorem dX12_init_167 : decode cX12_init 167 = .ok (.aload_n 0, 1) := by decide +kernel
theorem dX12_init_168 : decode cX12_init 168 = .ok (.sipush 542, 3) := by decide +kernel
theorem dX12_init_171 : decode cX12_init 171 = .ok (.newarray .long, 2) := by decide +kernel
theorem dX12_init_173 : decode cX12_init 173 = .ok (.putfield 72, 3) := by decide +kernel
theorem dX12_init_176 : decode cX12_init 176 = .ok (.aload_n 0, 1) := by decide +kernel
theorem dX12_init_177 : decode cX12_init 177 = .ok (.bipush 8, 2) := by decide +kernel
theorem dX12_init_179 : decode cX12_init 179 = .ok (.newarray .long, 2) := by decide +kernel
theorem dX12_init_181 : decode cX12_init 181 = .ok (.putfield 75, 3) := by decide +kernel
theorem dX12_init_184 : decode cX12_init 184 = .ok (.aload_n 0, 1) := by decide +kernel
theorem dX12_init_185 : decode cX12_init 185 = .ok (.bipush 8, 2) := by decide +kernel
theorem dX12_init_187 : decode cX12_init 187 = .ok (.newarray .int, 2) := by decide +kernel
theorem dX12_init_189 : decode cX12_init 189 = .ok (.putfield 78, 3) := by decide +kernel
theorem dX12_init_192 : decode cX12_init 192 = .ok (.aload_n 0, 1) := by decide +kernel
theorem dX12_init_193 : decode cX12_init 193 = .ok (.sipush 496, 3) := by decide +kernel
theorem dX12_init_196 : decode cX12_init 196 = .ok (.newarray .long, 2) := by decide +kernel
theorem dX12_init_198 : decode cX12_init 198 = .ok (.putfield 81, 3) := by decide +kernel
theorem dX12_init_201 : decode cX12_init 201 = .ok (.aload_n 0, 1) := by decide +kernel
theorem dX12_init_202 : decode cX12_init 202 = .ok (.bipush 8, 2) := by decide +kernel
theorem dX12_init_204 : decode cX12_init 204 = .ok (.newarray .int, 2) := by decide +kernel
theorem dX12_init_206 : decode cX12_init 206 = .ok (.putfield 84, 3) := by decide +kernel
theorem dX12_init_209 : decode cX12_init 209 = .ok (.aload_n 0, 1) := by decide +kernel
theorem dX12_init_210 : decode cX12_init 210 = .ok (.bipush 8, 2) := by decide +kernel
theorem dX12_init_212 : decode cX12_init 212 = .ok (.newarray .int, 2) := by decide +kernel
theorem dX12_init_214 : decode cX12_init 214 = .ok (.putfield 87, 3) := by decide +kernel
theorem dX12_init_217 : decode cX12_init 217 = .ok (.aload_n 0, 1) := by decide +kernel
theorem dX12_init_218 : decode cX12_init 218 = .ok (.bipush 8, 2) := by decide +kernel
theorem dX12_init_220 : decode cX12_init 220 = .ok (.newarray .int, 2) := by decide +kernel
theorem dX12_init_222 : decode cX12_init 222 = .ok (.putfield 90, 3) := by decide +kernel
theorem dX12_init_225 : decode cX12_init 225 = .ok (.aload_n 0, 1) := by decide +kernel
theorem dX12_init_226 : decode cX12_init 226 = .ok (.iconst 3, 1) := by decide +kernel
theorem dX12_init_227 : decode cX12_init 227 = .ok (.newarray .boolean, 2) := by decide +kernel
theorem dX12_init_229 : decode cX12_init 229 = .ok (.putfield 93, 3) := by decide +kernel
theorem dX12_init_232 : decode cX12_init 232 = .ok (.aload_n 0, 1) := by decide +kernel
theorem dX12_init_233 : decode cX12_init 233 = .ok (.getfield 20, 3) := by decide +kernel
theorem dX12_init_236 : decode cX12_init 236 = .ok (.iconst 0, 1) := by decide +kernel
theorem dX12_init_237 : decode cX12_init 237 = .ok (.iconst (-1), 1) := by decide +kernel
theorem dX12_init_238 : decode cX12_init 238 = .ok (.iastore, 1) := by decide +kernel
theorem dX12_init_239 : decode cX12_init 239 = .ok (.return_, 1) := by decide +kernel
theorem dX12_in_0 : decode cX12_in 0 = .ok (.iload_n 0, 1) := by decide +kernel
theorem dX12_in_1 : decode cX12_in 1 = .ok (.iload_n 1, 1) := by decide +kernel
theorem dX12_in_2 : decode cX12_in 2 = .ok (.if_icmp .lt 12, 3) := by decide +kernel
theorem dX12_in_5 : decode cX12_in 5 = .ok (.iload_n 0, 1) := by decide +kernel
theorem dX12_in_6 : decode cX12_in 6 = .ok (.iload_n 2, 1) := by decide +kernel
theorem dX12_in_7 : decode cX12_in 7 = .ok (.if_icmp .gt 7, 3) := by decide +kernel
theorem dX12_in_10 : decode cX12_in 10 = .ok (.iconst 1, 1) := by decide +kernel
theorem dX12_in_11 : decode cX12_in 11 = .ok (.goto 4, 3) := by decide +kernel
theorem dX12_in_14 : decode cX12_in 14 = .ok (.iconst 0, 1) := by decide +kernel
theorem dX12_in_15 : decode cX12_in 15 = .ok (.ireturn, 1) := by decide +kernel
theorem dX12_has_0 : decode cX12_has 0 = .ok (.iload_n 0, 1) := by decide +kernel
theorem dX12_has_1 : decode cX12_has 1 = .ok (.iload_n 1, 1) := by decide +kernel
theorem dX12_has_2 : decode cX12_has 2 = .ok (.ishr, 1) := by decide +kernel
theorem dX12_has_3 : decode cX12_has 3 = .ok (.iconst 1, 1) := by decide +kernel
theorem dX12_has_4 : decode cX12_has 4 = .ok (.iand, 1) := by decide +kernel
theorem dX12_has_5 : decode cX12_has 5 = .ok (.iconst 1, 1) := by decide +kernel
theorem dX12_has_6 : decode cX12_has 6 = .ok (.if_icmp .ne 7, 3) := by decide +kernel
theorem dX12_has_9 : decode cX12_has 9 = .ok (.iconst 1, 1) := by decide +kernel
theorem dX12_has_10 : decode cX12_has 10 = .ok (.goto 4, 3) := by decide +kernel
theorem dX12_has_13 : decode cX12_has 13 = .ok (.iconst 0, 1) := by decide +kernel
theorem dX12_has_14 : decode cX12_has 14 = .ok (.ireturn, 1) := by decide +kernel
theorem dX12_greater_0 : decode cX12_greater 0 = .ok (.iload_n 0, 1) := by decide +kernel
theorem dX12_greater_1 : decode cX12_greater 1 = .ok (.iload_n 1, 1) := by decide +kernel
theorem dX12_greater_2 : decode cX12_greater 2 = .ok (.if_icmp .le 7, 3) := by decide +kernel
theorem dX12_greater_5 : decode cX12_greater 5 = .ok (.iload_n 0, 1) := by decide +kernel
theorem dX12_greater_6 : decode cX12_greater 6 = .ok (.goto 4, 3) := by decide +kernel
theorem dX12_greater_9 : decode cX12_greater 9 = .ok (.iload_n 1, 1) := by decide +kernel
theorem dX12_greater_10 : decode cX12_greater 10 = .ok (.ireturn, 1) := by decide +kernel
theorem dX12_lesser_0 : decode cX12_lesser 0 = .ok (.iload_n 0, 1) := by decide +kernel
theorem dX12_lesser_1 : decode cX12_lesser 1 = .ok (.iload_n 1, 1) := by decide +kernel
theorem dX12_lesser_2 : decode cX12_lesser 2 = .ok (.if_icmp .ge 7, 3) := by decide +kernel
theorem dX12_lesser_5 : decode cX12_lesser 5 = .ok (.iload_n 0, 1) := by decide +kernel
theorem dX12_lesser_6 : decode cX12_lesser 6 = .ok (.goto 4, 3) := by decide +kernel
theorem dX12_lesser_9 : decode cX12_lesser 9 = .ok (.iload_n 1, 1) := by decide +kernel
theorem dX12_lesser_10 : decode cX12_lesser 10 = .ok (.ireturn, 1) := by decide +kernel
theorem dX12_size_0 : decode cX12_size 0 = .ok (.iload_n 0, 1) := by decide +kernel
theorem dX12_size_1 : decode cX12_size 1 = .ok (.ifCond .ge 8, 3) := by decide +kernel
theorem dX12_size_4 : decode cX12_size 4 = .ok (.iload_n 0, 1) := by decide +kernel
theorem dX12_size_5 : decode cX12_size 5 = .ok (.ineg, 1) := by decide +kernel
theorem dX12_size_6 : decode cX12_size 6 = .ok (.goto 4, 3) := by decide +kernel
theorem dX12_size_9 : decode cX12_size 9 = .ok (.iload_n 0, 1) := by decide +kernel
theorem dX12_size_10 : decode cX12_size 10 = .ok (.ireturn, 1) := by decide +kernel
theorem dX12_copyRow_0 : decode cX12_copyRow 0 = .ok (.iconst 0, 1) := by decide +kernel
theorem dX12_copyRow_1 : decode cX12_copyRow 1 = .ok (.istore 4, 2) := by decide +kernel
theorem dX12_copyRow_3 : decode cX12_copyRow 3 = .ok (.iload 4, 2) := by decide +kernel
theorem dX12_copyRow_5 : decode cX12_copyRow 5 = .ok (.iload_n 1, 1) := by decide +kernel
theorem dX12_copyRow_6 : decode cX12_copyRow 6 = .ok (.if_icmp .ge 25, 3) := by decide +kernel
theorem dX12_copyRow_9 : decode cX12_copyRow 9 = .ok (.aload_n 0, 1) := by decide +kernel
theorem dX12_copyRow_10 : decode cX12_copyRow 10 = .ok (.iload_n 1, 1) := by decide +kernel
theorem dX12_copyRow_11 : decode cX12_copyRow 11 = .ok (.iload_n 3, 1) := by decide +kernel
theorem dX12_copyRow_12 : decode cX12_copyRow 12 = .ok (.imul, 1) := by decide +kernel
theorem dX12_copyRow_13 : decode cX12_copyRow 13 = .ok (.iload 4, 2) := by decide +kernel
theorem dX12_copyRow_15 : decode cX12_copyRow 15 = .ok (.iadd, 1) := by decide +kernel
theorem dX12_copyRow_16 : decode cX12_copyRow 16 = .ok (.aload_n 0, 1) := by decide +kernel
theorem dX12_copyRow_17 : decode cX12_copyRow 17 = .ok (.iload_n 1, 1) := by decide +kernel
theorem dX12_copyRow_18 : decode cX12_copyRow 18 = .ok (.iload_n 2, 1) := by decide +kernel
theorem dX12_copyRow_19 : decode cX12_copyRow 19 = .ok (.imul, 1) := by decide +kernel
theorem dX12_copyRow_20 : decode cX12_copyRow 20 = .ok (.iload 4, 2) := by decide +kernel
theorem dX12_copyRow_22 : decode cX12_copyRow 22 = .ok (.iadd, 1) := by decide +kernel
theorem dX12_copyRow_23 : decode cX12_copyRow 23 = .ok (.iaload, 1) := by decide +kernel
theorem dX12_copyRow_24 : decode cX12_copyRow 24 = .ok (.iastore, 1) := by decide +kernel
theorem dX12_copyRow_25 : decode cX12_copyRow 25 = .ok (.iinc 4 1, 3) := by decide +kernel
theorem dX12_copyRow_28 : decode cX12_copyRow 28 = .ok (.goto (-25), 3) := by decide +kernel
theorem dX12_copyRow_31 : decode cX12_copyRow 31 = .ok (.return_, 1) := by decide +kernel
theorem dX12_copyAll_0 : decode cX12_copyAll 0 = .ok (.iconst 0, 1) := by decide +kernel
theorem dX12_copyAll_1 : decode cX12_copyAll 1 = .ok (.istore_n 3, 1) := by decide +kernel
theorem dX12_copyAll_2 : decode cX12_copyAll 2 = .ok (.iload_n 3, 1) := by decide +kernel
theorem dX12_copyAll_3 : decode cX12_copyAll 3 = .ok (.sipush 600, 3) := by decide +kernel
theorem dX12_copyAll_6 : decode cX12_copyAll 6 = .ok (.if_icmp .ge 33, 3) := by decide +kernel
theorem dX12_copyAll_9 : decode cX12_copyAll 9 = .ok (.aload_n 0, 1) := by decide +kernel
theorem dX12_copyAll_10 : decode cX12_copyAll 10 = .ok (.getfield 7, 3) := by decide +kernel
theorem dX12_copyAll_13 : decode cX12_copyAll 13 = .ok (.sipush 600, 3) := by decide +kernel
theorem dX12_copyAll_16 : decode cX12_copyAll 16 = .ok (.iload_n 2, 1) := by decide +kernel
theorem dX12_copyAll_17 : decode cX12_copyAll 17 = .ok (.imul, 1) := by decide +kernel
theorem dX12_copyAll_18 : decode cX12_copyAll 18 = .ok (.iload_n 3, 1) := by decide +kernel
theorem dX12_copyAll_19 : decode cX12_copyAll 19 = .ok (.iadd, 1) := by decide +kernel
theorem dX12_copyAll_20 : decode cX12_copyAll 20 = .ok (.aload_n 0, 1) := by decide +kernel
theorem dX12_copyAll_21 : decode cX12_copyAll 21 = .ok (.getfield 7, 3) := by decide +kernel
theorem dX12_copyAll_24 : decode cX12_copyAll 24 = .ok (.sipush 600, 3) := by decide +kernel
theorem dX12_copyAll_27 : decode cX12_copyAll 27 = .ok (.iload_n 1, 1) := by decide +kernel
theorem dX12_copyAll_28 : decode cX12_copyAll 28 = .ok (.imul, 1) := by decide +kernel
theorem dX12_copyAll_29 : decode cX12_copyAll 29 = .ok (.iload_n 3, 1) := by decide +kernel
theorem dX12_copyAll_30 : decode cX12_copyAll 30 = .ok (.iadd, 1) := by decide +kernel
theorem dX12_copyAll_31 : decode cX12_copyAll 31 = .ok (.baload, 1) := by decide +kernel
theorem dX12_copyAll_32 : decode cX12_copyAll 32 = .ok (.bastore, 1) := by decide +kernel
theorem dX12_copyAll_33 : decode cX12_copyAll 33 = .ok (.iinc 3 1, 3) := by decide +kernel
theorem dX12_copyAll_36 : decode cX12_copyAll 36 = .ok (.goto (-34), 3) := by decide +kernel
theorem dX12_copyAll_39 : decode cX12_copyAll 39 = .ok (.aload_n 0, 1) := by decide +kernel
theorem dX12_copyAll_40 : decode cX12_copyAll 40 = .ok (.getfield 13, 3) := by decide +kernel
theorem dX12_copyAll_43 : decode cX12_copyAll 43 = .ok (.iconst 1, 1) := by decide +kernel
theorem dX12_copyAll_44 : decode cX12_copyAll 44 = .ok (.iload_n 1, 1) := by decide +kernel
theorem dX12_copyAll_45 : decode cX12_copyAll 45 = .ok (.iload_n 2, 1) := by decide +kernel
theorem dX12_copyAll_46 : decode cX12_copyAll 46 = .ok (.invokestatic 101, 3) := by decide +kernel
theorem dX12_copyAll_49 : decode cX12_copyAll 49 = .ok (.aload_n 0, 1) := by decide +kernel
theorem dX12_copyAll_50 : decode cX12_copyAll 50 = .ok (.getfield 17, 3) := by decide +kernel
theorem dX12_copyAll_53 : decode cX12_copyAll 53 = .ok (.iconst 1, 1) := by decide +kernel
theorem dX12_copyAll_54 : decode cX12_copyAll 54 = .ok (.iload_n 1, 1) := by decide +kernel
theorem dX12_copyAll_55 : decode cX12_copyAll 55 = .ok (.iload_n 2, 1) := by decide +kernel
theorem dX12_copyAll_56 : decode cX12_copyAll 56 = .ok (.invokestatic 101, 3) := by decide +kernel
theorem dX12_copyAll_59 : decode cX12_copyAll 59 = .ok (.aload_n 0, 1) := by decide +kernel
theorem dX12_copyAll_60 : decode cX12_copyAll 60 = .ok (.getfield 20, 3) := by decide +kernel
theorem dX12_copyAll_63 : decode cX12_copyAll 63 = .ok (.iconst 1, 1) := by decide +kernel
theorem dX12_copyAll_64 : decode cX12_copyAll 64 = .ok (.iload_n 1, 1) := by decide +kernel
theorem dX12_copyAll_65 : decode cX12_copyAll 65 = .ok (.iload_n 2, 1) := by decide +kernel
theorem dX12_copyAll_66 : decode cX12_copyAll 66 = .ok (.invokestatic 101, 3) := by decide +kernel
theorem dX12_copyAll_69 : decode cX12_copyAll 69 = .ok (.aload_n 0, 1) := by decide +kernel
theorem dX12_copyAll_70 : decode cX12_copyAll 70 = .ok (.getfield 23, 3) := by decide +kernel
theorem dX12_copyAll_73 : decode cX12_copyAll 73 = .ok (.iconst 5, 1) := by decide +kernel
theorem dX12_copyAll_74 : decode cX12_copyAll 74 = .ok (.iload_n 1, 1) := by decide +kernel
theorem dX12_copyAll_75 : decode cX12_copyAll 75 = .ok (.iload_n 2, 1) := by decide +kernel
theorem dX12_copyAll_76 : decode cX12_copyAll 76 = .ok (.invokestatic 101, 3) := by decide +kernel
theorem dX12_copyAll_79 : decode cX12_copyAll 79 = .ok (.aload_n 0, 1) := by decide +kernel
theorem dX12_copyAll_80 : decode cX12_copyAll 80 = .ok (.getfield 26, 3) := by decide +kernel
theorem dX12_copyAll_83 : decode cX12_copyAll 83 = .ok (.sipush 264, 3) := by decide +kernel
theorem dX12_copyAll_86 : decode cX12_copyAll 86 = .ok (.iload_n 1, 1) := by decide +kernel
theorem dX12_copyAll_87 : decode cX12_copyAll 87 = .ok (.iload_n 2, 1) := by decide +kernel
theorem dX12_copyAll_88 : decode cX12_copyAll 88 = .ok (.invokestatic 101, 3) := by decide +kernel
theorem dX12_copyAll_91 : decode cX12_copyAll 91 = .ok (.aload_n 0, 1) := by decide +kernel
theorem dX12_copyAll_92 : decode cX12_copyAll 92 = .ok (.getfield 29, 3) := by decide +kernel
theorem dX12_copyAll_95 : decode cX12_copyAll 95 = .ok (.sipush 242, 3) := by decide +kernel
theorem dX12_copyAll_98 : decode cX12_copyAll 98 = .ok (.iload_n 1, 1) := by decide +kernel
theorem dX12_copyAll_99 : decode cX12_copyAll 99 = .ok (.iload_n 2, 1) := by decide +kernel
theorem dX12_copyAll_100 : decode cX12_copyAll 100 = .ok (.invokestatic 101, 3) := by decide +kernel
theorem dX12_copyAll_103 : decode cX12_copyAll 103 = .ok (.aload_n 0, 1) := by decide +kernel
theorem dX12_copyAll_104 : decode cX12_copyAll 104 = .ok (.getfield 32, 3) := by decide +kernel
theorem dX12_copyAll_107 : decode cX12_copyAll 107 = .ok (.bipush 66, 2) := by decide +kernel
theorem dX12_copyAll_109 : decode cX12_copyAll 109 = .ok (.iload_n 1, 1) := by decide +kernel
theorem dX12_copyAll_110 : decode cX12_copyAll 110 = .ok (.iload_n 2, 1) := by decide +kernel
theorem dX12_copyAll_111 : decode cX12_copyAll 111 = .ok (.invokestatic 101, 3) := by decide +kernel
theorem dX12_copyAll_114 : decode cX12_copyAll 114 = .ok (.aload_n 0, 1) := by decide +kernel
theorem dX12_copyAll_115 : decode cX12_copyAll 115 = .ok (.getfield 35, 3) := by decide +kernel
theorem dX12_copyAll_118 : decode cX12_copyAll 118 = .ok (.bipush 102, 2) := by decide +kernel
theorem dX12_copyAll_120 : decode cX12_copyAll 120 = .ok (.iload_n 1, 1) := by decide +kernel
theorem dX12_copyAll_121 : decode cX12_copyAll 121 = .ok (.iload_n 2, 1) := by decide +kernel
theorem dX12_copyAll_122 : decode cX12_copyAll 122 = .ok (.invokestatic 101, 3) := by decide +kernel
theorem dX12_copyAll_125 : decode cX12_copyAll 125 = .ok (.aload_n 0, 1) := by decide +kernel
theorem dX12_copyAll_126 : decode cX12_copyAll 126 = .ok (.getfield 38, 3) := by decide +kernel
theorem dX12_copyAll_129 : decode cX12_copyAll 129 = .ok (.sipush 194, 3) := by decide +kernel
theorem dX12_copyAll_132 : decode cX12_copyAll 132 = .ok (.iload_n 1, 1) := by decide +kernel
theorem dX12_copyAll_133 : decode cX12_copyAll 133 = .ok (.iload_n 2, 1) := by decide +kernel
theorem dX12_copyAll_134 : decode cX12_copyAll 134 = .ok (.invokestatic 101, 3) := by decide +kernel
theorem dX12_copyAll_137 : decode cX12_copyAll 137 = .ok (.return_, 1) := by decide +kernel
theorem dX12_is_0 : decode cX12_is 0 = .ok (.iload_n 2, 1) := by decide +kernel
theorem dX12_is_1 : decode cX12_is 1 = .ok (.iconst 0, 1) := by decide +kernel
theorem dX12_is_2 : decode cX12_is 2 = .ok (.aload_n 0, 1) := by decide +kernel
theorem dX12_is_3 : decode cX12_is 3 = .ok (.getfield 23, 3) := by decide +kernel
theorem dX12_is_6 : decode cX12_is 6 = .ok (.iload_n 1, 1) := by decide +kernel
theorem dX12_is_7 : decode cX12_is 7 = .ok (.iaload, 1) := by decide +kernel
theorem dX12_is_8 : decode cX12_is 8 = .ok (.iconst 1, 1) := by decide +kernel
theorem dX12_is_9 : decode cX12_is 9 = .ok (.isub, 1) := by decide +kernel
theorem dX12_is_10 : decode cX12_is 10 = .ok (.invokestatic 105, 3) := by decide +kernel
theorem dX12_is_13 : decode cX12_is 13 = .ok (.ireturn, 1) := by decide +kernel
theorem dX12_feed_0 : decode cX12_feed 0 = .ok (.aload_n 0, 1) := by decide +kernel
theorem dX12_feed_1 : decode cX12_feed 1 = .ok (.iconst 0, 1) := by decide +kernel
theorem dX12_feed_2 : decode cX12_feed 2 = .ok (.putfield 97, 3) := by decide +kernel
theorem dX12_feed_5 : decode cX12_feed 5 = .ok (.aload_n 0, 1) := by decide +kernel
theorem dX12_feed_6 : decode cX12_feed 6 = .ok (.getfield 13, 3) := by decide +kernel
theorem dX12_feed_9 : decode cX12_feed 9 = .ok (.iconst 0, 1) := by decide +kernel
theorem dX12_feed_10 : decode cX12_feed 10 = .ok (.iaload, 1) := by decide +kernel
theorem dX12_feed_11 : decode cX12_feed 11 = .ok (.bipush 20, 2) := by decide +kernel
theorem dX12_feed_13 : decode cX12_feed 13 = .ok (.iadd, 1) := by decide +kernel
theorem dX12_feed_14 : decode cX12_feed 14 = .ok (.sipush 600, 3) := by decide +kernel
theorem dX12_feed_17 : decode cX12_feed 17 = .ok (.if_icmp .le 5, 3) := by decide +kernel
theorem dX12_feed_20 : decode cX12_feed 20 = .ok (.iconst (-1), 1) := by decide +kernel
theorem dX12_feed_21 : decode cX12_feed 21 = .ok (.ireturn, 1) := by decide +kernel
theorem dX12_feed_22 : decode cX12_feed 22 = .ok (.aload_n 0, 1) := by decide +kernel
theorem dX12_feed_23 : decode cX12_feed 23 = .ok (.iload_n 1, 1) := by decide +kernel
theorem dX12_feed_24 : decode cX12_feed 24 = .ok (.invokevirtual 109, 3) := by decide +kernel
theorem dX12_feed_27 : decode cX12_feed 27 = .ok (.aload_n 0, 1) := by decide +kernel
theorem dX12_feed_28 : decode cX12_feed 28 = .ok (.iload_n 2, 1) := by decide +kernel
theorem dX12_feed_29 : decode cX12_feed 29 = .ok (.invokevirtual 109, 3) := by decide +kernel
theorem dX12_feed_32 : decode cX12_feed 32 = .ok (.aload_n 0, 1) := by decide +kernel
theorem dX12_feed_33 : decode cX12_feed 33 = .ok (.iload_n 3, 1) := by decide +kernel
theorem dX12_feed_34 : decode cX12_feed 34 = .ok (.invokevirtual 109, 3) := by decide +kernel
theorem dX12_feed_37 : decode cX12_feed 37 = .ok (.aload_n 0, 1) := by decide +kernel
theorem dX12_feed_38 : decode cX12_feed 38 = .ok (.iload 4, 2) := by decide +kernel
theorem dX12_feed_40 : decode cX12_feed 40 = .ok (.invokevirtual 109, 3) := by decide +kernel
theorem dX12_feed_43 : decode cX12_feed 43 = .ok (.aload_n 0, 1) := by decide +kernel
theorem dX12_feed_44 : decode cX12_feed 44 = .ok (.iload 5, 2) := by decide +kernel
theorem dX12_feed_46 : decode cX12_feed 46 = .ok (.invokevirtual 109, 3) := by decide +kernel
theorem dX12_feed_49 : decode cX12_feed 49 = .ok (.aload_n 0, 1) := by decide +kernel
theorem dX12_feed_50 : decode cX12_feed 50 = .ok (.getfield 13, 3) := by decide +kernel
theorem dX12_feed_53 : decode cX12_feed 53 = .ok (.iconst 0, 1) := by decide +kernel
theorem dX12_feed_54 : decode cX12_feed 54 = .ok (.iaload, 1) := by decide +kernel
theorem dX12_feed_55 : decode cX12_feed 55 = .ok (.ireturn, 1) := by decide +kernel
theorem dX12_four_0 : decode cX12_four 0 = .ok (.bipush 24, 2) := by decide +kernel
theorem dX12_four_2 : decode cX12_four 2 = .ok (.istore_n 2, 1) := by decide +kernel
theorem dX12_four_3 : decode cX12_four 3 = .ok (.iload_n 2, 1) := by decide +kernel
theorem dX12_four_4 : decode cX12_four 4 = .ok (.ifCond .lt 34, 3) := by decide +kernel
theorem dX12_four_7 : decode cX12_four 7 = .ok (.aload_n 0, 1) := by decide +kernel
theorem dX12_four_8 : decode cX12_four 8 = .ok (.getfield 7, 3) := by decide +kernel
theorem dX12_four_11 : decode cX12_four 11 = .ok (.aload_n 0, 1) := by decide +kernel
theorem dX12_four_12 : decode cX12_four 12 = .ok (.getfield 13, 3) := by decide +kernel
theorem dX12_four_15 : decode cX12_four 15 = .ok (.iconst 0, 1) := by decide +kernel
theorem dX12_four_16 : decode cX12_four 16 = .ok (.iaload, 1) := by decide +kernel
theorem dX12_four_17 : decode cX12_four 17 = .ok (.iload_n 1, 1) := by decide +kernel
theorem dX12_four_18 : decode cX12_four 18 = .ok (.iload_n 2, 1) := by decide +kernel
theorem dX12_four_19 : decode cX12_four 19 = .ok (.ishr, 1) := by decide +kernel
theorem dX12_four_20 : decode cX12_four 20 = .ok (.i2b, 1) := by decide +kernel
theorem dX12_four_21 : decode cX12_four 21 = .ok (.bastore, 1) := by decide +kernel
theorem dX12_four_22 : decode cX12_four 22 = .ok (.aload_n 0, 1) := by decide +kernel
theorem dX12_four_23 : decode cX12_four 23 = .ok (.getfield 13, 3) := by decide +kernel
theorem dX12_four_26 : decode cX12_four 26 = .ok (.iconst 0, 1) := by decide +kernel
theorem dX12_four_27 : decode cX12_four 27 = .ok (.dup2, 1) := by decide +kernel
theorem dX12_four_28 : decode cX12_four 28 = .ok (.iaload, 1) := by decide +kernel
theorem dX12_four_29 : decode cX12_four 29 = .ok (.iconst 1, 1) := by decide +kernel
theorem dX12_four_30 : decode cX12_four 30 = .ok (.iadd, 1) := by decide +kernel
theorem dX12_four_31 : decode cX12_four 31 = .ok (.iastore, 1) := by decide +kernel
theorem dX12_four_32 : decode cX12_four 32 = .ok (.iinc 2 (-8), 3) := by decide +kernel
theorem dX12_four_35 : decode cX12_four 35 = .ok (.goto (-32), 3) := by decide +kernel
theorem dX12_four_38 : decode cX12_four 38 = .ok (.return_, 1) := by decide +kernel
theorem dX12_end_0 : decode cX12_end 0 = .ok (.aload_n 0, 1) := by decide +kernel
theorem dX12_end_1 : decode cX12_end 1 = .ok (.iconst 0, 1) := by decide +kernel
theorem dX12_end_2 : decode cX12_end 2 = .ok (.putfield 97, 3) := by decide +kernel
theorem dX12_end_5 : decode cX12_end 5 = .ok (.iload_n 1, 1) := by decide +kernel
theorem dX12_end_6 : decode cX12_end 6 = .ok (.iconst 0, 1) := by decide +kernel
theorem dX12_end_7 : decode cX12_end 7 = .ok (.aload_n 0, 1) := by decide +kernel
theorem dX12_end_8 : decode cX12_end 8 = .ok (.getfield 13, 3) := by decide +kernel
theorem dX12_end_11 : decode cX12_end 11 = .ok (.iconst 0, 1) := by decide +kernel
theorem dX12_end_12 : decode cX12_end 12 = .ok (.iaload, 1) := by decide +kernel
theorem dX12_end_13 : decode cX12_end 13 = .ok (.invokestatic 105, 3) := by decide +kernel
theorem dX12_end_16 : decode cX12_end 16 = .ok (.ifCond .ne 5, 3) := by decide +kernel
theorem dX12_end_19 : decode cX12_end 19 = .ok (.iconst (-1), 1) := by decide +kernel
theorem dX12_end_20 : decode cX12_end 20 = .ok (.ireturn, 1) := by decide +kernel
theorem dX12_end_21 : decode cX12_end 21 = .ok (.aload_n 0, 1) := by decide +kernel
theorem dX12_end_22 : decode cX12_end 22 = .ok (.getfield 13, 3) := by decide +kernel
theorem dX12_end_25 : decode cX12_end 25 = .ok (.iconst 0, 1) := by decide +kernel
theorem dX12_end_26 : decode cX12_end 26 = .ok (.iload_n 1, 1) := by decide +kernel
theorem dX12_end_27 : decode cX12_end 27 = .ok (.iastore, 1) := by decide +kernel
theorem dX12_end_28 : decode cX12_end 28 = .ok (.iload_n 1, 1) := by decide +kernel
theorem dX12_end_29 : decode cX12_end 29 = .ok (.ireturn, 1) := by decide +kernel
theorem dX12_see_0 : decode cX12_see 0 = .ok (.aload_n 0, 1) := by decide +kernel
theorem dX12_see_1 : decode cX12_see 1 = .ok (.getfield 113, 3) := by decide +kernel
theorem dX12_see_4 : decode cX12_see 4 = .ok (.aload_n 0, 1) := by decide +kernel
theorem dX12_see_5 : decode cX12_see 5 = .ok (.getfield 116, 3) := by decide +kernel
theorem dX12_see_8 : decode cX12_see 8 = .ok (.if_icmp .ge 19, 3) := by decide +kernel
theorem dX12_see_11 : decode cX12_see 11 = .ok (.aload_n 0, 1) := by decide +kernel
theorem dX12_see_12 : decode cX12_see 12 = .ok (.getfield 7, 3) := by decide +kernel
theorem dX12_see_15 : decode cX12_see 15 = .ok (.aload_n 0, 1) := by decide +kernel
theorem dX12_see_16 : decode cX12_see 16 = .ok (.getfield 113, 3) := by decide +kernel
theorem dX12_see_19 : decode cX12_see 19 = .ok (.baload, 1) := by decide +kernel
theorem dX12_see_20 : decode cX12_see 20 = .ok (.sipush 255, 3) := by decide +kernel
theorem dX12_see_23 : decode cX12_see 23 = .ok (.iand, 1) := by decide +kernel
theorem dX12_see_24 : decode cX12_see 24 = .ok (.goto 4, 3) := by decide +kernel
theorem dX12_see_27 : decode cX12_see 27 = .ok (.iconst (-1), 1) := by decide +kernel
theorem dX12_see_28 : decode cX12_see 28 = .ok (.ireturn, 1) := by decide +kernel
theorem dX12_token_0 : decode cX12_token 0 = .ok (.aload_n 0, 1) := by decide +kernel
theorem dX12_token_1 : decode cX12_token 1 = .ok (.invokevirtual 119, 3) := by decide +kernel
theorem dX12_token_4 : decode cX12_token 4 = .ok (.bipush 10, 2) := by decide +kernel
theorem dX12_token_6 : decode cX12_token 6 = .ok (.if_icmp .eq 12, 3) := by decide +kernel
theorem dX12_token_9 : decode cX12_token 9 = .ok (.aload_n 0, 1) := by decide +kernel
theorem dX12_token_10 : decode cX12_token 10 = .ok (.invokevirtual 119, 3) := by decide +kernel
theorem dX12_token_13 : decode cX12_token 13 = .ok (.bipush 32, 2) := by decide +kernel
theorem dX12_token_15 : decode cX12_token 15 = .ok (.if_icmp .ne 16, 3) := by decide +kernel
theorem dX12_token_18 : decode cX12_token 18 = .ok (.aload_n 0, 1) := by decide +kernel
theorem dX12_token_19 : decode cX12_token 19 = .ok (.dup, 1) := by decide +kernel
theorem dX12_token_20 : decode cX12_token 20 = .ok (.getfield 113, 3) := by decide +kernel
theorem dX12_token_23 : decode cX12_token 23 = .ok (.iconst 1, 1) := by decide +kernel
theorem dX12_token_24 : decode cX12_token 24 = .ok (.iadd, 1) := by decide +kernel
theorem dX12_token_25 : decode cX12_token 25 = .ok (.putfield 113, 3) := by decide +kernel
theorem dX12_token_28 : decode cX12_token 28 = .ok (.goto (-28), 3) := by decide +kernel
theorem dX12_token_31 : decode cX12_token 31 = .ok (.aload_n 0, 1) := by decide +kernel
theorem dX12_token_32 : decode cX12_token 32 = .ok (.aload_n 0, 1) := by decide +kernel
theorem dX12_token_33 : decode cX12_token 33 = .ok (.getfield 113, 3) := by decide +kernel
theorem dX12_token_36 : decode cX12_token 36 = .ok (.putfield 123, 3) := by decide +kernel
theorem dX12_token_39 : decode cX12_token 39 = .ok (.aload_n 0, 1) := by decide +kernel
theorem dX12_token_40 : decode cX12_token 40 = .ok (.invokevirtual 119, 3) := by decide +kernel
theorem dX12_token_43 : decode cX12_token 43 = .ok (.istore_n 1, 1) := by decide +kernel
theorem dX12_token_44 : decode cX12_token 44 = .ok (.aload_n 0, 1) := by decide +kernel
theorem dX12_token_45 : decode cX12_token 45 = .ok (.lconst 0, 1) := by decide +kernel
theorem dX12_token_46 : decode cX12_token 46 = .ok (.putfield 126, 3) := by decide +kernel
theorem dX12_token_49 : decode cX12_token 49 = .ok (.iconst 0, 1) := by decide +kernel
theorem dX12_token_50 : decode cX12_token 50 = .ok (.istore_n 2, 1) := by decide +kernel
theorem dX12_token_51 : decode cX12_token 51 = .ok (.iload_n 1, 1) := by decide +kernel
theorem dX12_token_52 : decode cX12_token 52 = .ok (.ifCond .ge 11, 3) := by decide +kernel
theorem dX12_token_55 : decode cX12_token 55 = .ok (.aload_n 0, 1) := by decide +kernel
theorem dX12_token_56 : decode cX12_token 56 = .ok (.iconst 0, 1) := by decide +kernel
theorem dX12_token_57 : decode cX12_token 57 = .ok (.putfield 130, 3) := by decide +kernel
theorem dX12_token_60 : decode cX12_token 60 = .ok (.goto 206, 3) := by decide +kernel
theorem dX12_token_63 : decode cX12_token 63 = .ok (.iload_n 1, 1) := by decide +kernel
theorem dX12_token_64 : decode cX12_token 64 = .ok (.bipush 97, 2) := by decide +kernel
theorem dX12_token_66 : decode cX12_token 66 = .ok (.bipush 122, 2) := by decide +kernel
theorem dX12_token_68 : decode cX12_token 68 = .ok (.invokestatic 105, 3) := by decide +kernel
theorem dX12_token_71 : decode cX12_token 71 = .ok (.ifCond .eq 76, 3) := by decide +kernel
theorem dX12_token_74 : decode cX12_token 74 = .ok (.aload_n 0, 1) := by decide +kernel
theorem dX12_token_75 : decode cX12_token 75 = .ok (.invokevirtual 119, 3) := by decide +kernel
theorem dX12_token_78 : decode cX12_token 78 = .ok (.bipush 97, 2) := by decide +kernel
theorem dX12_token_80 : decode cX12_token 80 = .ok (.bipush 122, 2) := by decide +kernel
theorem dX12_token_82 : decode cX12_token 82 = .ok (.invokestatic 105, 3) := by decide +kernel
theorem dX12_token_85 : decode cX12_token 85 = .ok (.ifCond .eq 36, 3) := by decide +kernel
theorem dX12_token_88 : decode cX12_token 88 = .ok (.aload_n 0, 1) := by decide +kernel
theorem dX12_token_89 : decode cX12_token 89 = .ok (.aload_n 0, 1) := by decide +kernel
theorem dX12_token_90 : decode cX12_token 90 = .ok (.getfield 126, 3) := by decide +kernel
theorem dX12_token_93 : decode cX12_token 93 = .ok (.bipush 8, 2) := by decide +kernel
theorem dX12_token_95 : decode cX12_token 95 = .ok (.lshl, 1) := by decide +kernel
theorem dX12_token_96 : decode cX12_token 96 = .ok (.aload_n 0, 1) := by decide +kernel
theorem dX12_token_97 : decode cX12_token 97 = .ok (.invokevirtual 119, 3) := by decide +kernel
theorem dX12_token_100 : decode cX12_token 100 = .ok (.i2l, 1) := by decide +kernel
theorem dX12_token_101 : decode cX12_token 101 = .ok (.lor, 1) := by decide +kernel
theorem dX12_token_102 : decode cX12_token 102 = .ok (.putfield 126, 3) := by decide +kernel
theorem dX12_token_105 : decode cX12_token 105 = .ok (.aload_n 0, 1) := by decide +kernel
theorem dX12_token_106 : decode cX12_token 106 = .ok (.dup, 1) := by decide +kernel
theorem dX12_token_107 : decode cX12_token 107 = .ok (.getfield 113, 3) := by decide +kernel
theorem dX12_token_110 : decode cX12_token 110 = .ok (.iconst 1, 1) := by decide +kernel
theorem dX12_token_111 : decode cX12_token 111 = .ok (.iadd, 1) := by decide +kernel
theorem dX12_token_112 : decode cX12_token 112 = .ok (.putfield 113, 3) := by decide +kernel
theorem dX12_token_115 : decode cX12_token 115 = .ok (.iinc 2 1, 3) := by decide +kernel
theorem dX12_token_118 : decode cX12_token 118 = .ok (.goto (-44), 3) := by decide +kernel
theorem dX12_token_121 : decode cX12_token 121 = .ok (.aload_n 0, 1) := by decide +kernel
theorem dX12_token_122 : decode cX12_token 122 = .ok (.iload_n 2, 1) := by decide +kernel
theorem dX12_token_123 : decode cX12_token 123 = .ok (.bipush 8, 2) := by decide +kernel
theorem dX12_token_125 : decode cX12_token 125 = .ok (.if_icmp .le 7, 3) := by decide +kernel
theorem dX12_token_128 : decode cX12_token 128 = .ok (.lconst 0, 1) := by decide +kernel
theorem dX12_token_129 : decode cX12_token 129 = .ok (.goto 7, 3) := by decide +kernel
theorem dX12_token_132 : decode cX12_token 132 = .ok (.aload_n 0, 1) := by decide +kernel
theorem dX12_token_133 : decode cX12_token 133 = .ok (.getfield 126, 3) := by decide +kernel
theorem dX12_token_136 : decode cX12_token 136 = .ok (.putfield 126, 3) := by decide +kernel
theorem dX12_token_139 : decode cX12_token 139 = .ok (.aload_n 0, 1) := by decide +kernel
theorem dX12_token_140 : decode cX12_token 140 = .ok (.iconst 2, 1) := by decide +kernel
theorem dX12_token_141 : decode cX12_token 141 = .ok (.putfield 130, 3) := by decide +kernel
theorem dX12_token_144 : decode cX12_token 144 = .ok (.goto 122, 3) := by decide +kernel
theorem dX12_token_147 : decode cX12_token 147 = .ok (.iload_n 1, 1) := by decide +kernel
theorem dX12_token_148 : decode cX12_token 148 = .ok (.bipush 48, 2) := by decide +kernel
theorem dX12_token_150 : decode cX12_token 150 = .ok (.bipush 57, 2) := by decide +kernel
theorem dX12_token_152 : decode cX12_token 152 = .ok (.invokestatic 105, 3) := by decide +kernel
theorem dX12_token_155 : decode cX12_token 155 = .ok (.ifCond .eq 86, 3) := by decide +kernel
theorem dX12_token_158 : decode cX12_token 158 = .ok (.aload_n 0, 1) := by decide +kernel
theorem dX12_token_159 : decode cX12_token 159 = .ok (.iconst 0, 1) := by decide +kernel
theorem dX12_token_160 : decode cX12_token 160 = .ok (.putfield 133, 3) := by decide +kernel
theorem dX12_token_163 : decode cX12_token 163 = .ok (.aload_n 0, 1) := by decide +kernel
theorem dX12_token_164 : decode cX12_token 164 = .ok (.invokevirtual 119, 3) := by decide +kernel
theorem dX12_token_167 : decode cX12_token 167 = .ok (.bipush 48, 2) := by decide +kernel
theorem dX12_token_169 : decode cX12_token 169 = .ok (.bipush 57, 2) := by decide +kernel
theorem dX12_token_171 : decode cX12_token 171 = .ok (.invokestatic 105, 3) := by decide +kernel
theorem dX12_token_174 : decode cX12_token 174 = .ok (.ifCond .eq 50, 3) := by decide +kernel
theorem dX12_token_177 : decode cX12_token 177 = .ok (.aload_n 0, 1) := by decide +kernel
theorem dX12_token_178 : decode cX12_token 178 = .ok (.iload_n 2, 1) := by decide +kernel
theorem dX12_token_179 : decode cX12_token 179 = .ok (.iconst 2, 1) := by decide +kernel
theorem dX12_token_180 : decode cX12_token 180 = .ok (.if_icmp .ge 21, 3) := by decide +kernel
theorem dX12_token_183 : decode cX12_token 183 = .ok (.bipush 10, 2) := by decide +kernel
theorem dX12_token_185 : decode cX12_token 185 = .ok (.aload_n 0, 1) := by decide +kernel
theorem dX12_token_186 : decode cX12_token 186 = .ok (.getfield 133, 3) := by decide +kernel
theorem dX12_token_189 : decode cX12_token 189 = .ok (.imul, 1) := by decide +kernel
theorem dX12_token_190 : decode cX12_token 190 = .ok (.aload_n 0, 1) := by decide +kernel
theorem dX12_token_191 : decode cX12_token 191 = .ok (.invokevirtual 119, 3) := by decide +kernel
theorem dX12_token_194 : decode cX12_token 194 = .ok (.iadd, 1) := by decide +kernel
theorem dX12_token_195 : decode cX12_token 195 = .ok (.bipush 48, 2) := by decide +kernel
theorem dX12_token_197 : decode cX12_token 197 = .ok (.isub, 1) := by decide +kernel
theorem dX12_token_198 : decode cX12_token 198 = .ok (.goto 7, 3) := by decide +kernel
theorem dX12_token_201 : decode cX12_token 201 = .ok (.aload_n 0, 1) := by decide +kernel
theorem dX12_token_202 : decode cX12_token 202 = .ok (.getfield 133, 3) := by decide +kernel
theorem dX12_token_205 : decode cX12_token 205 = .ok (.putfield 133, 3) := by decide +kernel
theorem dX12_token_208 : decode cX12_token 208 = .ok (.aload_n 0, 1) := by decide +kernel
theorem dX12_token_209 : decode cX12_token 209 = .ok (.dup, 1) := by decide +kernel
theorem dX12_token_210 : decode cX12_token 210 = .ok (.getfield 113, 3) := by decide +kernel
theorem dX12_token_213 : decode cX12_token 213 = .ok (.iconst 1, 1) := by decide +kernel
theorem dX12_token_214 : decode cX12_token 214 = .ok (.iadd, 1) := by decide +kernel
theorem dX12_token_215 : decode cX12_token 215 = .ok (.putfield 113, 3) := by decide +kernel
theorem dX12_token_218 : decode cX12_token 218 = .ok (.iinc 2 1, 3) := by decide +kernel
theorem dX12_token_221 : decode cX12_token 221 = .ok (.goto (-58), 3) := by decide +kernel
theorem dX12_token_224 : decode cX12_token 224 = .ok (.aload_n 0, 1) := by decide +kernel
theorem dX12_token_225 : decode cX12_token 225 = .ok (.iload_n 2, 1) := by decide +kernel
theorem dX12_token_226 : decode cX12_token 226 = .ok (.iconst 2, 1) := by decide +kernel
theorem dX12_token_227 : decode cX12_token 227 = .ok (.if_icmp .le 7, 3) := by decide +kernel
theorem dX12_token_230 : decode cX12_token 230 = .ok (.iconst 1, 1) := by decide +kernel
theorem dX12_token_231 : decode cX12_token 231 = .ok (.goto 4, 3) := by decide +kernel
theorem dX12_token_234 : decode cX12_token 234 = .ok (.iconst 3, 1) := by decide +kernel
theorem dX12_token_235 : decode cX12_token 235 = .ok (.putfield 130, 3) := by decide +kernel
theorem dX12_token_238 : decode cX12_token 238 = .ok (.goto 28, 3) := by decide +kernel
theorem dX12_token_241 : decode cX12_token 241 = .ok (.aload_n 0, 1) := by decide +kernel
theorem dX12_token_242 : decode cX12_token 242 = .ok (.dup, 1) := by decide +kernel
theorem dX12_token_243 : decode cX12_token 243 = .ok (.getfield 113, 3) := by decide +kernel
theorem dX12_token_246 : decode cX12_token 246 = .ok (.iconst 1, 1) := by decide +kernel
theorem dX12_token_247 : decode cX12_token 247 = .ok (.iadd, 1) := by decide +kernel
theorem dX12_token_248 : decode cX12_token 248 = .ok (.putfield 113, 3) := by decide +kernel
theorem dX12_token_251 : decode cX12_token 251 = .ok (.aload_n 0, 1) := by decide +kernel
theorem dX12_token_252 : decode cX12_token 252 = .ok (.iload_n 1, 1) := by decide +kernel
theorem dX12_token_253 : decode cX12_token 253 = .ok (.bipush 59, 2) := by decide +kernel
theorem dX12_token_255 : decode cX12_token 255 = .ok (.if_icmp .ne 7, 3) := by decide +kernel
theorem dX12_token_258 : decode cX12_token 258 = .ok (.iconst 4, 1) := by decide +kernel
theorem dX12_token_259 : decode cX12_token 259 = .ok (.goto 4, 3) := by decide +kernel
theorem dX12_token_262 : decode cX12_token 262 = .ok (.iconst 1, 1) := by decide +kernel
theorem dX12_token_263 : decode cX12_token 263 = .ok (.putfield 130, 3) := by decide +kernel
theorem dX12_token_266 : decode cX12_token 266 = .ok (.return_, 1) := by decide +kernel
theorem dX12_fails_0 : decode cX12_fails 0 = .ok (.aload_n 0, 1) := by decide +kernel
theorem dX12_fails_1 : decode cX12_fails 1 = .ok (.aload_n 0, 1) := by decide +kernel
theorem dX12_fails_2 : decode cX12_fails 2 = .ok (.getfield 123, 3) := by decide +kernel
theorem dX12_fails_5 : decode cX12_fails 5 = .ok (.putfield 136, 3) := by decide +kernel
theorem dX12_fails_8 : decode cX12_fails 8 = .ok (.iconst 0, 1) := by decide +kernel
theorem dX12_fails_9 : decode cX12_fails 9 = .ok (.ireturn, 1) := by decide +kernel
theorem dX12_later_0 : decode cX12_later 0 = .ok (.aload_n 0, 1) := by decide +kernel
theorem dX12_later_1 : decode cX12_later 1 = .ok (.getfield 139, 3) := by decide +kernel
theorem dX12_later_4 : decode cX12_later 4 = .ok (.ifCond .eq 27, 3) := by decide +kernel
theorem dX12_later_7 : decode cX12_later 7 = .ok (.iload_n 2, 1) := by decide +kernel
theorem dX12_later_8 : decode cX12_later 8 = .ok (.aload_n 0, 1) := by decide +kernel
theorem dX12_later_9 : decode cX12_later 9 = .ok (.getfield 142, 3) := by decide +kernel
theorem dX12_later_12 : decode cX12_later 12 = .ok (.if_icmp .lt 19, 3) := by decide +kernel
theorem dX12_later_15 : decode cX12_later 15 = .ok (.iload_n 2, 1) := by decide +kernel
theorem dX12_later_16 : decode cX12_later 16 = .ok (.aload_n 0, 1) := by decide +kernel
theorem dX12_later_17 : decode cX12_later 17 = .ok (.getfield 142, 3) := by decide +kernel
theorem dX12_later_20 : decode cX12_later 20 = .ok (.if_icmp .ne 21, 3) := by decide +kernel
theorem dX12_later_23 : decode cX12_later 23 = .ok (.iload_n 1, 1) := by decide +kernel
theorem dX12_later_24 : decode cX12_later 24 = .ok (.aload_n 0, 1) := by decide +kernel
theorem dX12_later_25 : decode cX12_later 25 = .ok (.getfield 139, 3) := by decide +kernel
theorem dX12_later_28 : decode cX12_later 28 = .ok (.if_icmp .ge 13, 3) := by decide +kernel
theorem dX12_later_31 : decode cX12_later 31 = .ok (.aload_n 0, 1) := by decide +kernel
theorem dX12_later_32 : decode cX12_later 32 = .ok (.iload_n 1, 1) := by decide +kernel
theorem dX12_later_33 : decode cX12_later 33 = .ok (.putfield 139, 3) := by decide +kernel
theorem dX12_later_36 : decode cX12_later 36 = .ok (.aload_n 0, 1) := by decide +kernel
theorem dX12_later_37 : decode cX12_later 37 = .ok (.iload_n 2, 1) := by decide +kernel
theorem dX12_later_38 : decode cX12_later 38 = .ok (.putfield 142, 3) := by decide +kernel
theorem dX12_later_41 : decode cX12_later 41 = .ok (.return_, 1) := by decide +kernel
theorem dX12_takeBut_0 : decode cX12_takeBut 0 = .ok (.aload_n 0, 1) := by decide +kernel

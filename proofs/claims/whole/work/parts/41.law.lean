theorem dL_law_0 : decode cL_law 0 = .ok (.new 7, 3) := by decide +kernel
theorem dL_law_3 : decode cL_law 3 = .ok (.dup, 1) := by decide +kernel
theorem dL_law_4 : decode cL_law 4 = .ok (.invokespecial 9, 3) := by decide +kernel
theorem dL_law_7 : decode cL_law 7 = .ok (.astore_n 1, 1) := by decide +kernel
theorem dL_law_8 : decode cL_law 8 = .ok (.new 10, 3) := by decide +kernel
theorem dL_law_11 : decode cL_law 11 = .ok (.dup, 1) := by decide +kernel
theorem dL_law_12 : decode cL_law 12 = .ok (.invokespecial 12, 3) := by decide +kernel
theorem dL_law_15 : decode cL_law 15 = .ok (.astore_n 2, 1) := by decide +kernel
theorem dL_law_16 : decode cL_law 16 = .ok (.iconst 0, 1) := by decide +kernel
theorem dL_law_17 : decode cL_law 17 = .ok (.istore_n 3, 1) := by decide +kernel
theorem dL_law_18 : decode cL_law 18 = .ok (.iload_n 3, 1) := by decide +kernel
theorem dL_law_19 : decode cL_law 19 = .ok (.aload_n 0, 1) := by decide +kernel
theorem dL_law_20 : decode cL_law 20 = .ok (.arraylength, 1) := by decide +kernel
theorem dL_law_21 : decode cL_law 21 = .ok (.bipush 7, 2) := by decide +kernel
theorem dL_law_23 : decode cL_law 23 = .ok (.isub, 1) := by decide +kernel
theorem dL_law_24 : decode cL_law 24 = .ok (.if_icmp .gt 633, 3) := by decide +kernel
theorem dL_law_27 : decode cL_law 27 = .ok (.aload_n 0, 1) := by decide +kernel
theorem dL_law_28 : decode cL_law 28 = .ok (.iload_n 3, 1) := by decide +kernel
theorem dL_law_29 : decode cL_law 29 = .ok (.iaload, 1) := by decide +kernel
theorem dL_law_30 : decode cL_law 30 = .ok (.bipush 15, 2) := by decide +kernel
theorem dL_law_32 : decode cL_law 32 = .ok (.iand, 1) := by decide +kernel
theorem dL_law_33 : decode cL_law 33 = .ok (.tableswitch 618 0 14 #[75, 138, 151, 184, 207, 230, 263, 306, 339, 372, 405, 444, 507, 582, 595], 75) := by decide +kernel
theorem dL_law_108 : decode cL_law 108 = .ok (.aload_n 1, 1) := by decide +kernel
theorem dL_law_109 : decode cL_law 109 = .ok (.aload_n 0, 1) := by decide +kernel
theorem dL_law_110 : decode cL_law 110 = .ok (.iload_n 3, 1) := by decide +kernel
theorem dL_law_111 : decode cL_law 111 = .ok (.iconst 1, 1) := by decide +kernel
theorem dL_law_112 : decode cL_law 112 = .ok (.iadd, 1) := by decide +kernel
theorem dL_law_113 : decode cL_law 113 = .ok (.iaload, 1) := by decide +kernel
theorem dL_law_114 : decode cL_law 114 = .ok (.i2l, 1) := by decide +kernel
theorem dL_law_115 : decode cL_law 115 = .ok (.bipush 32, 2) := by decide +kernel
theorem dL_law_117 : decode cL_law 117 = .ok (.lshl, 1) := by decide +kernel
theorem dL_law_118 : decode cL_law 118 = .ok (.aload_n 0, 1) := by decide +kernel
theorem dL_law_119 : decode cL_law 119 = .ok (.iload_n 3, 1) := by decide +kernel
theorem dL_law_120 : decode cL_law 120 = .ok (.iconst 2, 1) := by decide +kernel
theorem dL_law_121 : decode cL_law 121 = .ok (.iadd, 1) := by decide +kernel
theorem dL_law_122 : decode cL_law 122 = .ok (.iaload, 1) := by decide +kernel
theorem dL_law_123 : decode cL_law 123 = .ok (.i2l, 1) := by decide +kernel
theorem dL_law_124 : decode cL_law 124 = .ok (.ldc2_w 13, 3) := by decide +kernel
theorem dL_law_127 : decode cL_law 127 = .ok (.land, 1) := by decide +kernel
theorem dL_law_128 : decode cL_law 128 = .ok (.lor, 1) := by decide +kernel
theorem dL_law_129 : decode cL_law 129 = .ok (.aload_n 0, 1) := by decide +kernel
theorem dL_law_130 : decode cL_law 130 = .ok (.iload_n 3, 1) := by decide +kernel
theorem dL_law_131 : decode cL_law 131 = .ok (.iconst 3, 1) := by decide +kernel
theorem dL_law_132 : decode cL_law 132 = .ok (.iadd, 1) := by decide +kernel
theorem dL_law_133 : decode cL_law 133 = .ok (.iaload, 1) := by decide +kernel
theorem dL_law_134 : decode cL_law 134 = .ok (.invokevirtual 15, 3) := by decide +kernel
theorem dL_law_137 : decode cL_law 137 = .ok (.aload_n 2, 1) := by decide +kernel
theorem dL_law_138 : decode cL_law 138 = .ok (.aload_n 0, 1) := by decide +kernel
theorem dL_law_139 : decode cL_law 139 = .ok (.iload_n 3, 1) := by decide +kernel
theorem dL_law_140 : decode cL_law 140 = .ok (.iconst 1, 1) := by decide +kernel
theorem dL_law_141 : decode cL_law 141 = .ok (.iadd, 1) := by decide +kernel
theorem dL_law_142 : decode cL_law 142 = .ok (.iaload, 1) := by decide +kernel
theorem dL_law_143 : decode cL_law 143 = .ok (.i2l, 1) := by decide +kernel
theorem dL_law_144 : decode cL_law 144 = .ok (.bipush 32, 2) := by decide +kernel
theorem dL_law_146 : decode cL_law 146 = .ok (.lshl, 1) := by decide +kernel
theorem dL_law_147 : decode cL_law 147 = .ok (.aload_n 0, 1) := by decide +kernel
theorem dL_law_148 : decode cL_law 148 = .ok (.iload_n 3, 1) := by decide +kernel
theorem dL_law_149 : decode cL_law 149 = .ok (.iconst 2, 1) := by decide +kernel
theorem dL_law_150 : decode cL_law 150 = .ok (.iadd, 1) := by decide +kernel
theorem dL_law_151 : decode cL_law 151 = .ok (.iaload, 1) := by decide +kernel
theorem dL_law_152 : decode cL_law 152 = .ok (.i2l, 1) := by decide +kernel
theorem dL_law_153 : decode cL_law 153 = .ok (.ldc2_w 13, 3) := by decide +kernel
theorem dL_law_156 : decode cL_law 156 = .ok (.land, 1) := by decide +kernel
theorem dL_law_157 : decode cL_law 157 = .ok (.lor, 1) := by decide +kernel
theorem dL_law_158 : decode cL_law 158 = .ok (.aload_n 0, 1) := by decide +kernel
theorem dL_law_159 : decode cL_law 159 = .ok (.iload_n 3, 1) := by decide +kernel
theorem dL_law_160 : decode cL_law 160 = .ok (.iconst 3, 1) := by decide +kernel
theorem dL_law_161 : decode cL_law 161 = .ok (.iadd, 1) := by decide +kernel
theorem dL_law_162 : decode cL_law 162 = .ok (.iaload, 1) := by decide +kernel
theorem dL_law_163 : decode cL_law 163 = .ok (.invokevirtual 19, 3) := by decide +kernel
theorem dL_law_166 : decode cL_law 166 = .ok (.if_icmp .eq 485, 3) := by decide +kernel
theorem dL_law_169 : decode cL_law 169 = .ok (.iconst 0, 1) := by decide +kernel
theorem dL_law_170 : decode cL_law 170 = .ok (.ireturn, 1) := by decide +kernel
theorem dL_law_171 : decode cL_law 171 = .ok (.aload_n 1, 1) := by decide +kernel
theorem dL_law_172 : decode cL_law 172 = .ok (.invokevirtual 20, 3) := by decide +kernel
theorem dL_law_175 : decode cL_law 175 = .ok (.aload_n 2, 1) := by decide +kernel
theorem dL_law_176 : decode cL_law 176 = .ok (.invokevirtual 24, 3) := by decide +kernel
theorem dL_law_179 : decode cL_law 179 = .ok (.if_icmp .eq 472, 3) := by decide +kernel
theorem dL_law_182 : decode cL_law 182 = .ok (.iconst 0, 1) := by decide +kernel
theorem dL_law_183 : decode cL_law 183 = .ok (.ireturn, 1) := by decide +kernel
theorem dL_law_184 : decode cL_law 184 = .ok (.aload_n 1, 1) := by decide +kernel
theorem dL_law_185 : decode cL_law 185 = .ok (.aload_n 0, 1) := by decide +kernel
theorem dL_law_186 : decode cL_law 186 = .ok (.iload_n 3, 1) := by decide +kernel
theorem dL_law_187 : decode cL_law 187 = .ok (.iconst 1, 1) := by decide +kernel
theorem dL_law_188 : decode cL_law 188 = .ok (.iadd, 1) := by decide +kernel
theorem dL_law_189 : decode cL_law 189 = .ok (.iaload, 1) := by decide +kernel
theorem dL_law_190 : decode cL_law 190 = .ok (.aload_n 0, 1) := by decide +kernel
theorem dL_law_191 : decode cL_law 191 = .ok (.iload_n 3, 1) := by decide +kernel
theorem dL_law_192 : decode cL_law 192 = .ok (.iconst 2, 1) := by decide +kernel
theorem dL_law_193 : decode cL_law 193 = .ok (.iadd, 1) := by decide +kernel
theorem dL_law_194 : decode cL_law 194 = .ok (.iaload, 1) := by decide +kernel
theorem dL_law_195 : decode cL_law 195 = .ok (.invokevirtual 25, 3) := by decide +kernel
theorem dL_law_198 : decode cL_law 198 = .ok (.aload_n 2, 1) := by decide +kernel
theorem dL_law_199 : decode cL_law 199 = .ok (.aload_n 0, 1) := by decide +kernel
theorem dL_law_200 : decode cL_law 200 = .ok (.iload_n 3, 1) := by decide +kernel
theorem dL_law_201 : decode cL_law 201 = .ok (.iconst 1, 1) := by decide +kernel
theorem dL_law_202 : decode cL_law 202 = .ok (.iadd, 1) := by decide +kernel
theorem dL_law_203 : decode cL_law 203 = .ok (.iaload, 1) := by decide +kernel
theorem dL_law_204 : decode cL_law 204 = .ok (.aload_n 0, 1) := by decide +kernel
theorem dL_law_205 : decode cL_law 205 = .ok (.iload_n 3, 1) := by decide +kernel
theorem dL_law_206 : decode cL_law 206 = .ok (.iconst 2, 1) := by decide +kernel
theorem dL_law_207 : decode cL_law 207 = .ok (.iadd, 1) := by decide +kernel
theorem dL_law_208 : decode cL_law 208 = .ok (.iaload, 1) := by decide +kernel
theorem dL_law_209 : decode cL_law 209 = .ok (.invokevirtual 29, 3) := by decide +kernel
theorem dL_law_212 : decode cL_law 212 = .ok (.if_icmp .eq 439, 3) := by decide +kernel
theorem dL_law_215 : decode cL_law 215 = .ok (.iconst 0, 1) := by decide +kernel
theorem dL_law_216 : decode cL_law 216 = .ok (.ireturn, 1) := by decide +kernel
theorem dL_law_217 : decode cL_law 217 = .ok (.aload_n 1, 1) := by decide +kernel
theorem dL_law_218 : decode cL_law 218 = .ok (.aload_n 0, 1) := by decide +kernel
theorem dL_law_219 : decode cL_law 219 = .ok (.iload_n 3, 1) := by decide +kernel
theorem dL_law_220 : decode cL_law 220 = .ok (.iconst 1, 1) := by decide +kernel
theorem dL_law_221 : decode cL_law 221 = .ok (.iadd, 1) := by decide +kernel
theorem dL_law_222 : decode cL_law 222 = .ok (.iaload, 1) := by decide +kernel
theorem dL_law_223 : decode cL_law 223 = .ok (.invokevirtual 30, 3) := by decide +kernel
theorem dL_law_226 : decode cL_law 226 = .ok (.aload_n 2, 1) := by decide +kernel
theorem dL_law_227 : decode cL_law 227 = .ok (.aload_n 0, 1) := by decide +kernel
theorem dL_law_228 : decode cL_law 228 = .ok (.iload_n 3, 1) := by decide +kernel
theorem dL_law_229 : decode cL_law 229 = .ok (.iconst 1, 1) := by decide +kernel
theorem dL_law_230 : decode cL_law 230 = .ok (.iadd, 1) := by decide +kernel
theorem dL_law_231 : decode cL_law 231 = .ok (.iaload, 1) := by decide +kernel
theorem dL_law_232 : decode cL_law 232 = .ok (.invokevirtual 34, 3) := by decide +kernel
theorem dL_law_235 : decode cL_law 235 = .ok (.if_icmp .eq 416, 3) := by decide +kernel
theorem dL_law_238 : decode cL_law 238 = .ok (.iconst 0, 1) := by decide +kernel
theorem dL_law_239 : decode cL_law 239 = .ok (.ireturn, 1) := by decide +kernel
theorem dL_law_240 : decode cL_law 240 = .ok (.aload_n 1, 1) := by decide +kernel
theorem dL_law_241 : decode cL_law 241 = .ok (.aload_n 0, 1) := by decide +kernel
theorem dL_law_242 : decode cL_law 242 = .ok (.iload_n 3, 1) := by decide +kernel
theorem dL_law_243 : decode cL_law 243 = .ok (.iconst 1, 1) := by decide +kernel
theorem dL_law_244 : decode cL_law 244 = .ok (.iadd, 1) := by decide +kernel
theorem dL_law_245 : decode cL_law 245 = .ok (.iaload, 1) := by decide +kernel
theorem dL_law_246 : decode cL_law 246 = .ok (.invokevirtual 35, 3) := by decide +kernel
theorem dL_law_249 : decode cL_law 249 = .ok (.aload_n 2, 1) := by decide +kernel
theorem dL_law_250 : decode cL_law 250 = .ok (.aload_n 0, 1) := by decide +kernel
theorem dL_law_251 : decode cL_law 251 = .ok (.iload_n 3, 1) := by decide +kernel
theorem dL_law_252 : decode cL_law 252 = .ok (.iconst 1, 1) := by decide +kernel
theorem dL_law_253 : decode cL_law 253 = .ok (.iadd, 1) := by decide +kernel
theorem dL_law_254 : decode cL_law 254 = .ok (.iaload, 1) := by decide +kernel
theorem dL_law_255 : decode cL_law 255 = .ok (.invokevirtual 38, 3) := by decide +kernel
theorem dL_law_258 : decode cL_law 258 = .ok (.if_icmp .eq 393, 3) := by decide +kernel
theorem dL_law_261 : decode cL_law 261 = .ok (.iconst 0, 1) := by decide +kernel
theorem dL_law_262 : decode cL_law 262 = .ok (.ireturn, 1) := by decide +kernel
theorem dL_law_263 : decode cL_law 263 = .ok (.aload_n 1, 1) := by decide +kernel
theorem dL_law_264 : decode cL_law 264 = .ok (.aload_n 0, 1) := by decide +kernel
theorem dL_law_265 : decode cL_law 265 = .ok (.iload_n 3, 1) := by decide +kernel
theorem dL_law_266 : decode cL_law 266 = .ok (.iconst 1, 1) := by decide +kernel
theorem dL_law_267 : decode cL_law 267 = .ok (.iadd, 1) := by decide +kernel
theorem dL_law_268 : decode cL_law 268 = .ok (.iaload, 1) := by decide +kernel
theorem dL_law_269 : decode cL_law 269 = .ok (.aload_n 0, 1) := by decide +kernel
theorem dL_law_270 : decode cL_law 270 = .ok (.iload_n 3, 1) := by decide +kernel
theorem dL_law_271 : decode cL_law 271 = .ok (.iconst 2, 1) := by decide +kernel
theorem dL_law_272 : decode cL_law 272 = .ok (.iadd, 1) := by decide +kernel
theorem dL_law_273 : decode cL_law 273 = .ok (.iaload, 1) := by decide +kernel
theorem dL_law_274 : decode cL_law 274 = .ok (.invokevirtual 39, 3) := by decide +kernel
theorem dL_law_277 : decode cL_law 277 = .ok (.aload_n 2, 1) := by decide +kernel
theorem dL_law_278 : decode cL_law 278 = .ok (.aload_n 0, 1) := by decide +kernel
theorem dL_law_279 : decode cL_law 279 = .ok (.iload_n 3, 1) := by decide +kernel
theorem dL_law_280 : decode cL_law 280 = .ok (.iconst 1, 1) := by decide +kernel
theorem dL_law_281 : decode cL_law 281 = .ok (.iadd, 1) := by decide +kernel
theorem dL_law_282 : decode cL_law 282 = .ok (.iaload, 1) := by decide +kernel
theorem dL_law_283 : decode cL_law 283 = .ok (.aload_n 0, 1) := by decide +kernel
theorem dL_law_284 : decode cL_law 284 = .ok (.iload_n 3, 1) := by decide +kernel
theorem dL_law_285 : decode cL_law 285 = .ok (.iconst 2, 1) := by decide +kernel
theorem dL_law_286 : decode cL_law 286 = .ok (.iadd, 1) := by decide +kernel
theorem dL_law_287 : decode cL_law 287 = .ok (.iaload, 1) := by decide +kernel
theorem dL_law_288 : decode cL_law 288 = .ok (.invokevirtual 42, 3) := by decide +kernel
theorem dL_law_291 : decode cL_law 291 = .ok (.if_icmp .eq 360, 3) := by decide +kernel
theorem dL_law_294 : decode cL_law 294 = .ok (.iconst 0, 1) := by decide +kernel
theorem dL_law_295 : decode cL_law 295 = .ok (.ireturn, 1) := by decide +kernel
theorem dL_law_296 : decode cL_law 296 = .ok (.aload_n 1, 1) := by decide +kernel
theorem dL_law_297 : decode cL_law 297 = .ok (.aload_n 0, 1) := by decide +kernel
theorem dL_law_298 : decode cL_law 298 = .ok (.iload_n 3, 1) := by decide +kernel
theorem dL_law_299 : decode cL_law 299 = .ok (.iconst 1, 1) := by decide +kernel
theorem dL_law_300 : decode cL_law 300 = .ok (.iadd, 1) := by decide +kernel
theorem dL_law_301 : decode cL_law 301 = .ok (.iaload, 1) := by decide +kernel
theorem dL_law_302 : decode cL_law 302 = .ok (.aload_n 0, 1) := by decide +kernel
theorem dL_law_303 : decode cL_law 303 = .ok (.iload_n 3, 1) := by decide +kernel
theorem dL_law_304 : decode cL_law 304 = .ok (.iconst 2, 1) := by decide +kernel
theorem dL_law_305 : decode cL_law 305 = .ok (.iadd, 1) := by decide +kernel
theorem dL_law_306 : decode cL_law 306 = .ok (.iaload, 1) := by decide +kernel
theorem dL_law_307 : decode cL_law 307 = .ok (.aload_n 0, 1) := by decide +kernel
theorem dL_law_308 : decode cL_law 308 = .ok (.iload_n 3, 1) := by decide +kernel
theorem dL_law_309 : decode cL_law 309 = .ok (.iconst 3, 1) := by decide +kernel
theorem dL_law_310 : decode cL_law 310 = .ok (.iadd, 1) := by decide +kernel
theorem dL_law_311 : decode cL_law 311 = .ok (.iaload, 1) := by decide +kernel
theorem dL_law_312 : decode cL_law 312 = .ok (.invokevirtual 43, 3) := by decide +kernel
theorem dL_law_315 : decode cL_law 315 = .ok (.aload_n 2, 1) := by decide +kernel
theorem dL_law_316 : decode cL_law 316 = .ok (.aload_n 0, 1) := by decide +kernel
theorem dL_law_317 : decode cL_law 317 = .ok (.iload_n 3, 1) := by decide +kernel
theorem dL_law_318 : decode cL_law 318 = .ok (.iconst 1, 1) := by decide +kernel
theorem dL_law_319 : decode cL_law 319 = .ok (.iadd, 1) := by decide +kernel
theorem dL_law_320 : decode cL_law 320 = .ok (.iaload, 1) := by decide +kernel
theorem dL_law_321 : decode cL_law 321 = .ok (.aload_n 0, 1) := by decide +kernel
theorem dL_law_322 : decode cL_law 322 = .ok (.iload_n 3, 1) := by decide +kernel
theorem dL_law_323 : decode cL_law 323 = .ok (.iconst 2, 1) := by decide +kernel
theorem dL_law_324 : decode cL_law 324 = .ok (.iadd, 1) := by decide +kernel
theorem dL_law_325 : decode cL_law 325 = .ok (.iaload, 1) := by decide +kernel
theorem dL_law_326 : decode cL_law 326 = .ok (.aload_n 0, 1) := by decide +kernel
theorem dL_law_327 : decode cL_law 327 = .ok (.iload_n 3, 1) := by decide +kernel
theorem dL_law_328 : decode cL_law 328 = .ok (.iconst 3, 1) := by decide +kernel
theorem dL_law_329 : decode cL_law 329 = .ok (.iadd, 1) := by decide +kernel
theorem dL_law_330 : decode cL_law 330 = .ok (.iaload, 1) := by decide +kernel
theorem dL_law_331 : decode cL_law 331 = .ok (.invokevirtual 47, 3) := by decide +kernel
theorem dL_law_334 : decode cL_law 334 = .ok (.if_icmp .eq 317, 3) := by decide +kernel
theorem dL_law_337 : decode cL_law 337 = .ok (.iconst 0, 1) := by decide +kernel
theorem dL_law_338 : decode cL_law 338 = .ok (.ireturn, 1) := by decide +kernel
theorem dL_law_339 : decode cL_law 339 = .ok (.aload_n 1, 1) := by decide +kernel
theorem dL_law_340 : decode cL_law 340 = .ok (.aload_n 0, 1) := by decide +kernel
theorem dL_law_341 : decode cL_law 341 = .ok (.iload_n 3, 1) := by decide +kernel
theorem dL_law_342 : decode cL_law 342 = .ok (.iconst 1, 1) := by decide +kernel
theorem dL_law_343 : decode cL_law 343 = .ok (.iadd, 1) := by decide +kernel
theorem dL_law_344 : decode cL_law 344 = .ok (.iaload, 1) := by decide +kernel
theorem dL_law_345 : decode cL_law 345 = .ok (.aload_n 0, 1) := by decide +kernel
theorem dL_law_346 : decode cL_law 346 = .ok (.iload_n 3, 1) := by decide +kernel
theorem dL_law_347 : decode cL_law 347 = .ok (.iconst 2, 1) := by decide +kernel
theorem dL_law_348 : decode cL_law 348 = .ok (.iadd, 1) := by decide +kernel
theorem dL_law_349 : decode cL_law 349 = .ok (.iaload, 1) := by decide +kernel
theorem dL_law_350 : decode cL_law 350 = .ok (.invokevirtual 48, 3) := by decide +kernel
theorem dL_law_353 : decode cL_law 353 = .ok (.aload_n 2, 1) := by decide +kernel
theorem dL_law_354 : decode cL_law 354 = .ok (.aload_n 0, 1) := by decide +kernel
theorem dL_law_355 : decode cL_law 355 = .ok (.iload_n 3, 1) := by decide +kernel
theorem dL_law_356 : decode cL_law 356 = .ok (.iconst 1, 1) := by decide +kernel
theorem dL_law_357 : decode cL_law 357 = .ok (.iadd, 1) := by decide +kernel
theorem dL_law_358 : decode cL_law 358 = .ok (.iaload, 1) := by decide +kernel
theorem dL_law_359 : decode cL_law 359 = .ok (.aload_n 0, 1) := by decide +kernel
theorem dL_law_360 : decode cL_law 360 = .ok (.iload_n 3, 1) := by decide +kernel
theorem dL_law_361 : decode cL_law 361 = .ok (.iconst 2, 1) := by decide +kernel
theorem dL_law_362 : decode cL_law 362 = .ok (.iadd, 1) := by decide +kernel
theorem dL_law_363 : decode cL_law 363 = .ok (.iaload, 1) := by decide +kernel
theorem dL_law_364 : decode cL_law 364 = .ok (.invokevirtual 51, 3) := by decide +kernel
theorem dL_law_367 : decode cL_law 367 = .ok (.if_icmp .eq 284, 3) := by decide +kernel
theorem dL_law_370 : decode cL_law 370 = .ok (.iconst 0, 1) := by decide +kernel
theorem dL_law_371 : decode cL_law 371 = .ok (.ireturn, 1) := by decide +kernel
theorem dL_law_372 : decode cL_law 372 = .ok (.aload_n 1, 1) := by decide +kernel
theorem dL_law_373 : decode cL_law 373 = .ok (.aload_n 0, 1) := by decide +kernel
theorem dL_law_374 : decode cL_law 374 = .ok (.iload_n 3, 1) := by decide +kernel
theorem dL_law_375 : decode cL_law 375 = .ok (.iconst 1, 1) := by decide +kernel
theorem dL_law_376 : decode cL_law 376 = .ok (.iadd, 1) := by decide +kernel
theorem dL_law_377 : decode cL_law 377 = .ok (.iaload, 1) := by decide +kernel
theorem dL_law_378 : decode cL_law 378 = .ok (.aload_n 0, 1) := by decide +kernel
theorem dL_law_379 : decode cL_law 379 = .ok (.iload_n 3, 1) := by decide +kernel
theorem dL_law_380 : decode cL_law 380 = .ok (.iconst 2, 1) := by decide +kernel
theorem dL_law_381 : decode cL_law 381 = .ok (.iadd, 1) := by decide +kernel
theorem dL_law_382 : decode cL_law 382 = .ok (.iaload, 1) := by decide +kernel
theorem dL_law_383 : decode cL_law 383 = .ok (.invokevirtual 52, 3) := by decide +kernel
theorem dL_law_386 : decode cL_law 386 = .ok (.aload_n 2, 1) := by decide +kernel
theorem dL_law_387 : decode cL_law 387 = .ok (.aload_n 0, 1) := by decide +kernel
theorem dL_law_388 : decode cL_law 388 = .ok (.iload_n 3, 1) := by decide +kernel
theorem dL_law_389 : decode cL_law 389 = .ok (.iconst 1, 1) := by decide +kernel
theorem dL_law_390 : decode cL_law 390 = .ok (.iadd, 1) := by decide +kernel
theorem dL_law_391 : decode cL_law 391 = .ok (.iaload, 1) := by decide +kernel
theorem dL_law_392 : decode cL_law 392 = .ok (.aload_n 0, 1) := by decide +kernel
theorem dL_law_393 : decode cL_law 393 = .ok (.iload_n 3, 1) := by decide +kernel
theorem dL_law_394 : decode cL_law 394 = .ok (.iconst 2, 1) := by decide +kernel
theorem dL_law_395 : decode cL_law 395 = .ok (.iadd, 1) := by decide +kernel
theorem dL_law_396 : decode cL_law 396 = .ok (.iaload, 1) := by decide +kernel
theorem dL_law_397 : decode cL_law 397 = .ok (.invokevirtual 55, 3) := by decide +kernel
theorem dL_law_400 : decode cL_law 400 = .ok (.if_icmp .eq 251, 3) := by decide +kernel
theorem dL_law_403 : decode cL_law 403 = .ok (.iconst 0, 1) := by decide +kernel
theorem dL_law_404 : decode cL_law 404 = .ok (.ireturn, 1) := by decide +kernel
theorem dL_law_405 : decode cL_law 405 = .ok (.aload_n 1, 1) := by decide +kernel
theorem dL_law_406 : decode cL_law 406 = .ok (.aload_n 0, 1) := by decide +kernel
theorem dL_law_407 : decode cL_law 407 = .ok (.iload_n 3, 1) := by decide +kernel
theorem dL_law_408 : decode cL_law 408 = .ok (.iconst 1, 1) := by decide +kernel
theorem dL_law_409 : decode cL_law 409 = .ok (.iadd, 1) := by decide +kernel
theorem dL_law_410 : decode cL_law 410 = .ok (.iaload, 1) := by decide +kernel
theorem dL_law_411 : decode cL_law 411 = .ok (.aload_n 0, 1) := by decide +kernel
theorem dL_law_412 : decode cL_law 412 = .ok (.iload_n 3, 1) := by decide +kernel
theorem dL_law_413 : decode cL_law 413 = .ok (.iconst 2, 1) := by decide +kernel
theorem dL_law_414 : decode cL_law 414 = .ok (.iadd, 1) := by decide +kernel
theorem dL_law_415 : decode cL_law 415 = .ok (.iaload, 1) := by decide +kernel
theorem dL_law_416 : decode cL_law 416 = .ok (.invokevirtual 56, 3) := by decide +kernel
theorem dL_law_419 : decode cL_law 419 = .ok (.aload_n 2, 1) := by decide +kernel
theorem dL_law_420 : decode cL_law 420 = .ok (.aload_n 0, 1) := by decide +kernel
theorem dL_law_421 : decode cL_law 421 = .ok (.iload_n 3, 1) := by decide +kernel
theorem dL_law_422 : decode cL_law 422 = .ok (.iconst 1, 1) := by decide +kernel
theorem dL_law_423 : decode cL_law 423 = .ok (.iadd, 1) := by decide +kernel
theorem dL_law_424 : decode cL_law 424 = .ok (.iaload, 1) := by decide +kernel
theorem dL_law_425 : decode cL_law 425 = .ok (.aload_n 0, 1) := by decide +kernel
theorem dL_law_426 : decode cL_law 426 = .ok (.iload_n 3, 1) := by decide +kernel
theorem dL_law_427 : decode cL_law 427 = .ok (.iconst 2, 1) := by decide +kernel
theorem dL_law_428 : decode cL_law 428 = .ok (.iadd, 1) := by decide +kernel
theorem dL_law_429 : decode cL_law 429 = .ok (.iaload, 1) := by decide +kernel
theorem dL_law_430 : decode cL_law 430 = .ok (.invokevirtual 59, 3) := by decide +kernel
theorem dL_law_433 : decode cL_law 433 = .ok (.if_icmp .eq 218, 3) := by decide +kernel
theorem dL_law_436 : decode cL_law 436 = .ok (.iconst 0, 1) := by decide +kernel
theorem dL_law_437 : decode cL_law 437 = .ok (.ireturn, 1) := by decide +kernel
theorem dL_law_438 : decode cL_law 438 = .ok (.aload_n 1, 1) := by decide +kernel
theorem dL_law_439 : decode cL_law 439 = .ok (.aload_n 0, 1) := by decide +kernel
theorem dL_law_440 : decode cL_law 440 = .ok (.iload_n 3, 1) := by decide +kernel
theorem dL_law_441 : decode cL_law 441 = .ok (.iconst 1, 1) := by decide +kernel
theorem dL_law_442 : decode cL_law 442 = .ok (.iadd, 1) := by decide +kernel
theorem dL_law_443 : decode cL_law 443 = .ok (.iaload, 1) := by decide +kernel
theorem dL_law_444 : decode cL_law 444 = .ok (.ifCond .eq 7, 3) := by decide +kernel
theorem dL_law_447 : decode cL_law 447 = .ok (.iconst 1, 1) := by decide +kernel
theorem dL_law_448 : decode cL_law 448 = .ok (.goto 4, 3) := by decide +kernel
theorem dL_law_451 : decode cL_law 451 = .ok (.iconst 0, 1) := by decide +kernel
theorem dL_law_452 : decode cL_law 452 = .ok (.invokevirtual 60, 3) := by decide +kernel
theorem dL_law_455 : decode cL_law 455 = .ok (.aload_n 2, 1) := by decide +kernel
theorem dL_law_456 : decode cL_law 456 = .ok (.aload_n 0, 1) := by decide +kernel
theorem dL_law_457 : decode cL_law 457 = .ok (.iload_n 3, 1) := by decide +kernel
theorem dL_law_458 : decode cL_law 458 = .ok (.iconst 1, 1) := by decide +kernel
theorem dL_law_459 : decode cL_law 459 = .ok (.iadd, 1) := by decide +kernel
theorem dL_law_460 : decode cL_law 460 = .ok (.iaload, 1) := by decide +kernel
theorem dL_law_461 : decode cL_law 461 = .ok (.ifCond .eq 7, 3) := by decide +kernel
theorem dL_law_464 : decode cL_law 464 = .ok (.iconst 1, 1) := by decide +kernel
theorem dL_law_465 : decode cL_law 465 = .ok (.goto 4, 3) := by decide +kernel
theorem dL_law_468 : decode cL_law 468 = .ok (.iconst 0, 1) := by decide +kernel
theorem dL_law_469 : decode cL_law 469 = .ok (.invokevirtual 64, 3) := by decide +kernel
theorem dL_law_472 : decode cL_law 472 = .ok (.if_icmp .eq 179, 3) := by decide +kernel
theorem dL_law_475 : decode cL_law 475 = .ok (.iconst 0, 1) := by decide +kernel
theorem dL_law_476 : decode cL_law 476 = .ok (.ireturn, 1) := by decide +kernel
theorem dL_law_477 : decode cL_law 477 = .ok (.aload_n 1, 1) := by decide +kernel
theorem dL_law_478 : decode cL_law 478 = .ok (.aload_n 0, 1) := by decide +kernel
theorem dL_law_479 : decode cL_law 479 = .ok (.iload_n 3, 1) := by decide +kernel
theorem dL_law_480 : decode cL_law 480 = .ok (.iconst 1, 1) := by decide +kernel
theorem dL_law_481 : decode cL_law 481 = .ok (.iadd, 1) := by decide +kernel
theorem dL_law_482 : decode cL_law 482 = .ok (.iaload, 1) := by decide +kernel
theorem dL_law_483 : decode cL_law 483 = .ok (.aload_n 0, 1) := by decide +kernel
theorem dL_law_484 : decode cL_law 484 = .ok (.iload_n 3, 1) := by decide +kernel
theorem dL_law_485 : decode cL_law 485 = .ok (.iconst 2, 1) := by decide +kernel
theorem dL_law_486 : decode cL_law 486 = .ok (.iadd, 1) := by decide +kernel
theorem dL_law_487 : decode cL_law 487 = .ok (.iaload, 1) := by decide +kernel
theorem dL_law_488 : decode cL_law 488 = .ok (.aload_n 0, 1) := by decide +kernel
theorem dL_law_489 : decode cL_law 489 = .ok (.iload_n 3, 1) := by decide +kernel
theorem dL_law_490 : decode cL_law 490 = .ok (.iconst 3, 1) := by decide +kernel
theorem dL_law_491 : decode cL_law 491 = .ok (.iadd, 1) := by decide +kernel
theorem dL_law_492 : decode cL_law 492 = .ok (.iaload, 1) := by decide +kernel
theorem dL_law_493 : decode cL_law 493 = .ok (.aload_n 0, 1) := by decide +kernel
theorem dL_law_494 : decode cL_law 494 = .ok (.iload_n 3, 1) := by decide +kernel
theorem dL_law_495 : decode cL_law 495 = .ok (.iconst 4, 1) := by decide +kernel
theorem dL_law_496 : decode cL_law 496 = .ok (.iadd, 1) := by decide +kernel
theorem dL_law_497 : decode cL_law 497 = .ok (.iaload, 1) := by decide +kernel
theorem dL_law_498 : decode cL_law 498 = .ok (.aload_n 0, 1) := by decide +kernel
theorem dL_law_499 : decode cL_law 499 = .ok (.iload_n 3, 1) := by decide +kernel
theorem dL_law_500 : decode cL_law 500 = .ok (.iconst 5, 1) := by decide +kernel
theorem dL_law_501 : decode cL_law 501 = .ok (.iadd, 1) := by decide +kernel
theorem dL_law_502 : decode cL_law 502 = .ok (.iaload, 1) := by decide +kernel
theorem dL_law_503 : decode cL_law 503 = .ok (.invokevirtual 65, 3) := by decide +kernel
theorem dL_law_506 : decode cL_law 506 = .ok (.aload_n 2, 1) := by decide +kernel
theorem dL_law_507 : decode cL_law 507 = .ok (.aload_n 0, 1) := by decide +kernel
theorem dL_law_508 : decode cL_law 508 = .ok (.iload_n 3, 1) := by decide +kernel
theorem dL_law_509 : decode cL_law 509 = .ok (.iconst 1, 1) := by decide +kernel
theorem dL_law_510 : decode cL_law 510 = .ok (.iadd, 1) := by decide +kernel
theorem dL_law_511 : decode cL_law 511 = .ok (.iaload, 1) := by decide +kernel
theorem dL_law_512 : decode cL_law 512 = .ok (.aload_n 0, 1) := by decide +kernel
theorem dL_law_513 : decode cL_law 513 = .ok (.iload_n 3, 1) := by decide +kernel
theorem dL_law_514 : decode cL_law 514 = .ok (.iconst 2, 1) := by decide +kernel
theorem dL_law_515 : decode cL_law 515 = .ok (.iadd, 1) := by decide +kernel
theorem dL_law_516 : decode cL_law 516 = .ok (.iaload, 1) := by decide +kernel
theorem dL_law_517 : decode cL_law 517 = .ok (.aload_n 0, 1) := by decide +kernel
theorem dL_law_518 : decode cL_law 518 = .ok (.iload_n 3, 1) := by decide +kernel
theorem dL_law_519 : decode cL_law 519 = .ok (.iconst 3, 1) := by decide +kernel
theorem dL_law_520 : decode cL_law 520 = .ok (.iadd, 1) := by decide +kernel
theorem dL_law_521 : decode cL_law 521 = .ok (.iaload, 1) := by decide +kernel
theorem dL_law_522 : decode cL_law 522 = .ok (.aload_n 0, 1) := by decide +kernel
theorem dL_law_523 : decode cL_law 523 = .ok (.iload_n 3, 1) := by decide +kernel
theorem dL_law_524 : decode cL_law 524 = .ok (.iconst 4, 1) := by decide +kernel
theorem dL_law_525 : decode cL_law 525 = .ok (.iadd, 1) := by decide +kernel
theorem dL_law_526 : decode cL_law 526 = .ok (.iaload, 1) := by decide +kernel
theorem dL_law_527 : decode cL_law 527 = .ok (.aload_n 0, 1) := by decide +kernel
theorem dL_law_528 : decode cL_law 528 = .ok (.iload_n 3, 1) := by decide +kernel
theorem dL_law_529 : decode cL_law 529 = .ok (.iconst 5, 1) := by decide +kernel
theorem dL_law_530 : decode cL_law 530 = .ok (.iadd, 1) := by decide +kernel
theorem dL_law_531 : decode cL_law 531 = .ok (.iaload, 1) := by decide +kernel
theorem dL_law_532 : decode cL_law 532 = .ok (.invokevirtual 69, 3) := by decide +kernel
theorem dL_law_535 : decode cL_law 535 = .ok (.if_icmp .eq 116, 3) := by decide +kernel
theorem dL_law_538 : decode cL_law 538 = .ok (.iconst 0, 1) := by decide +kernel
theorem dL_law_539 : decode cL_law 539 = .ok (.ireturn, 1) := by decide +kernel
theorem dL_law_540 : decode cL_law 540 = .ok (.aload_n 1, 1) := by decide +kernel
theorem dL_law_541 : decode cL_law 541 = .ok (.aload_n 0, 1) := by decide +kernel
theorem dL_law_542 : decode cL_law 542 = .ok (.iload_n 3, 1) := by decide +kernel
theorem dL_law_543 : decode cL_law 543 = .ok (.iconst 1, 1) := by decide +kernel
theorem dL_law_544 : decode cL_law 544 = .ok (.iadd, 1) := by decide +kernel
theorem dL_law_545 : decode cL_law 545 = .ok (.iaload, 1) := by decide +kernel
theorem dL_law_546 : decode cL_law 546 = .ok (.aload_n 0, 1) := by decide +kernel
theorem dL_law_547 : decode cL_law 547 = .ok (.iload_n 3, 1) := by decide +kernel
theorem dL_law_548 : decode cL_law 548 = .ok (.iconst 2, 1) := by decide +kernel
theorem dL_law_549 : decode cL_law 549 = .ok (.iadd, 1) := by decide +kernel
theorem dL_law_550 : decode cL_law 550 = .ok (.iaload, 1) := by decide +kernel
theorem dL_law_551 : decode cL_law 551 = .ok (.aload_n 0, 1) := by decide +kernel
theorem dL_law_552 : decode cL_law 552 = .ok (.iload_n 3, 1) := by decide +kernel
theorem dL_law_553 : decode cL_law 553 = .ok (.iconst 3, 1) := by decide +kernel
theorem dL_law_554 : decode cL_law 554 = .ok (.iadd, 1) := by decide +kernel
theorem dL_law_555 : decode cL_law 555 = .ok (.iaload, 1) := by decide +kernel
theorem dL_law_556 : decode cL_law 556 = .ok (.aload_n 0, 1) := by decide +kernel
theorem dL_law_557 : decode cL_law 557 = .ok (.iload_n 3, 1) := by decide +kernel
theorem dL_law_558 : decode cL_law 558 = .ok (.iconst 4, 1) := by decide +kernel
theorem dL_law_559 : decode cL_law 559 = .ok (.iadd, 1) := by decide +kernel
theorem dL_law_560 : decode cL_law 560 = .ok (.iaload, 1) := by decide +kernel
theorem dL_law_561 : decode cL_law 561 = .ok (.aload_n 0, 1) := by decide +kernel
theorem dL_law_562 : decode cL_law 562 = .ok (.iload_n 3, 1) := by decide +kernel
theorem dL_law_563 : decode cL_law 563 = .ok (.iconst 5, 1) := by decide +kernel
theorem dL_law_564 : decode cL_law 564 = .ok (.iadd, 1) := by decide +kernel
theorem dL_law_565 : decode cL_law 565 = .ok (.iaload, 1) := by decide +kernel
theorem dL_law_566 : decode cL_law 566 = .ok (.aload_n 0, 1) := by decide +kernel
theorem dL_law_567 : decode cL_law 567 = .ok (.iload_n 3, 1) := by decide +kernel
theorem dL_law_568 : decode cL_law 568 = .ok (.bipush 6, 2) := by decide +kernel
theorem dL_law_570 : decode cL_law 570 = .ok (.iadd, 1) := by decide +kernel
theorem dL_law_571 : decode cL_law 571 = .ok (.iaload, 1) := by decide +kernel
theorem dL_law_572 : decode cL_law 572 = .ok (.invokevirtual 70, 3) := by decide +kernel
theorem dL_law_575 : decode cL_law 575 = .ok (.aload_n 2, 1) := by decide +kernel
theorem dL_law_576 : decode cL_law 576 = .ok (.aload_n 0, 1) := by decide +kernel
theorem dL_law_577 : decode cL_law 577 = .ok (.iload_n 3, 1) := by decide +kernel
theorem dL_law_578 : decode cL_law 578 = .ok (.iconst 1, 1) := by decide +kernel
theorem dL_law_579 : decode cL_law 579 = .ok (.iadd, 1) := by decide +kernel
theorem dL_law_580 : decode cL_law 580 = .ok (.iaload, 1) := by decide +kernel
theorem dL_law_581 : decode cL_law 581 = .ok (.aload_n 0, 1) := by decide +kernel
theorem dL_law_582 : decode cL_law 582 = .ok (.iload_n 3, 1) := by decide +kernel
theorem dL_law_583 : decode cL_law 583 = .ok (.iconst 2, 1) := by decide +kernel
theorem dL_law_584 : decode cL_law 584 = .ok (.iadd, 1) := by decide +kernel
theorem dL_law_585 : decode cL_law 585 = .ok (.iaload, 1) := by decide +kernel
theorem dL_law_586 : decode cL_law 586 = .ok (.aload_n 0, 1) := by decide +kernel
theorem dL_law_587 : decode cL_law 587 = .ok (.iload_n 3, 1) := by decide +kernel
theorem dL_law_588 : decode cL_law 588 = .ok (.iconst 3, 1) := by decide +kernel
theorem dL_law_589 : decode cL_law 589 = .ok (.iadd, 1) := by decide +kernel
theorem dL_law_590 : decode cL_law 590 = .ok (.iaload, 1) := by decide +kernel
theorem dL_law_591 : decode cL_law 591 = .ok (.aload_n 0, 1) := by decide +kernel
theorem dL_law_592 : decode cL_law 592 = .ok (.iload_n 3, 1) := by decide +kernel
theorem dL_law_593 : decode cL_law 593 = .ok (.iconst 4, 1) := by decide +kernel
theorem dL_law_594 : decode cL_law 594 = .ok (.iadd, 1) := by decide +kernel
theorem dL_law_595 : decode cL_law 595 = .ok (.iaload, 1) := by decide +kernel
theorem dL_law_596 : decode cL_law 596 = .ok (.aload_n 0, 1) := by decide +kernel
theorem dL_law_597 : decode cL_law 597 = .ok (.iload_n 3, 1) := by decide +kernel
theorem dL_law_598 : decode cL_law 598 = .ok (.iconst 5, 1) := by decide +kernel
theorem dL_law_599 : decode cL_law 599 = .ok (.iadd, 1) := by decide +kernel
theorem dL_law_600 : decode cL_law 600 = .ok (.iaload, 1) := by decide +kernel
theorem dL_law_601 : decode cL_law 601 = .ok (.aload_n 0, 1) := by decide +kernel
theorem dL_law_602 : decode cL_law 602 = .ok (.iload_n 3, 1) := by decide +kernel
theorem dL_law_603 : decode cL_law 603 = .ok (.bipush 6, 2) := by decide +kernel
theorem dL_law_605 : decode cL_law 605 = .ok (.iadd, 1) := by decide +kernel
theorem dL_law_606 : decode cL_law 606 = .ok (.iaload, 1) := by decide +kernel
theorem dL_law_607 : decode cL_law 607 = .ok (.invokevirtual 74, 3) := by decide +kernel
theorem dL_law_610 : decode cL_law 610 = .ok (.if_icmp .eq 41, 3) := by decide +kernel
theorem dL_law_613 : decode cL_law 613 = .ok (.iconst 0, 1) := by decide +kernel
theorem dL_law_614 : decode cL_law 614 = .ok (.ireturn, 1) := by decide +kernel
theorem dL_law_615 : decode cL_law 615 = .ok (.aload_n 1, 1) := by decide +kernel
theorem dL_law_616 : decode cL_law 616 = .ok (.invokevirtual 75, 3) := by decide +kernel
theorem dL_law_619 : decode cL_law 619 = .ok (.aload_n 2, 1) := by decide +kernel
theorem dL_law_620 : decode cL_law 620 = .ok (.invokevirtual 78, 3) := by decide +kernel
theorem dL_law_623 : decode cL_law 623 = .ok (.if_icmp .eq 28, 3) := by decide +kernel
theorem dL_law_626 : decode cL_law 626 = .ok (.iconst 0, 1) := by decide +kernel
theorem dL_law_627 : decode cL_law 627 = .ok (.ireturn, 1) := by decide +kernel
theorem dL_law_628 : decode cL_law 628 = .ok (.aload_n 1, 1) := by decide +kernel
theorem dL_law_629 : decode cL_law 629 = .ok (.aload_n 0, 1) := by decide +kernel
theorem dL_law_630 : decode cL_law 630 = .ok (.iload_n 3, 1) := by decide +kernel
theorem dL_law_631 : decode cL_law 631 = .ok (.iconst 1, 1) := by decide +kernel
theorem dL_law_632 : decode cL_law 632 = .ok (.iadd, 1) := by decide +kernel
theorem dL_law_633 : decode cL_law 633 = .ok (.iaload, 1) := by decide +kernel
theorem dL_law_634 : decode cL_law 634 = .ok (.invokevirtual 79, 3) := by decide +kernel
theorem dL_law_637 : decode cL_law 637 = .ok (.aload_n 2, 1) := by decide +kernel
theorem dL_law_638 : decode cL_law 638 = .ok (.aload_n 0, 1) := by decide +kernel
theorem dL_law_639 : decode cL_law 639 = .ok (.iload_n 3, 1) := by decide +kernel
theorem dL_law_640 : decode cL_law 640 = .ok (.iconst 1, 1) := by decide +kernel
theorem dL_law_641 : decode cL_law 641 = .ok (.iadd, 1) := by decide +kernel
theorem dL_law_642 : decode cL_law 642 = .ok (.iaload, 1) := by decide +kernel
theorem dL_law_643 : decode cL_law 643 = .ok (.invokevirtual 82, 3) := by decide +kernel
theorem dL_law_646 : decode cL_law 646 = .ok (.if_icmp .eq 5, 3) := by decide +kernel
theorem dL_law_649 : decode cL_law 649 = .ok (.iconst 0, 1) := by decide +kernel
theorem dL_law_650 : decode cL_law 650 = .ok (.ireturn, 1) := by decide +kernel
theorem dL_law_651 : decode cL_law 651 = .ok (.iinc 3 7, 3) := by decide +kernel
theorem dL_law_654 : decode cL_law 654 = .ok (.goto (-636), 3) := by decide +kernel
theorem dL_law_657 : decode cL_law 657 = .ok (.iconst 1, 1) := by decide +kernel
theorem dL_law_658 : decode cL_law 658 = .ok (.ireturn, 1) := by decide +kernel
def f_L_law_469 (L : Nat) (xs : Nat → Int32) (rec18 : Option Nat → Option Nat → Int32 → gM Int32) (x1 : Option Nat) (x2 : Option Nat) (x3 : Int32) (s0 : Int32) (s1 : Option Nat) (s2 : Int32) : gM Int32 := gb (nn 8 s1) fun _ => gb (f_X9_list s1 s2) fun v1 => if s0 = v1 then (rec18 x1 x2 (x3 + 7)) else (gp 0)
def f_L_law_452 (L : Nat) (xs : Nat → Int32) (rec18 : Option Nat → Option Nat → Int32 → gM Int32) (x1 : Option Nat) (x2 : Option Nat) (x3 : Int32) (s0 : Option Nat) (s1 : Int32) : gM Int32 := gb (nn 7 s0) fun _ => gb (f_X8_list s0 s1) fun v1 => gb (scr L xs (x3 + 1)) fun v2 => if v2 = 0 then (f_L_law_469 L xs rec18 x1 x2 x3 v1 x2 0) else (f_L_law_469 L xs rec18 x1 x2 x3 v1 x2 1)
def f_L_law_18 (L : Nat) (xs : Nat → Int32) (rec18 : Option Nat → Option Nat → Int32 → gM Int32) (x1 : Option Nat) (x2 : Option Nat) (x3 : Int32) : gM Int32 := if ((Int32.ofNat L) - 7) < x3 then (gp 1) else (gb (scr L xs x3) fun v1 => if v1 &&& 15 = 0 then (gb (scr L xs (x3 + 1)) fun v2 => gb (scr L xs (x3 + 2)) fun v3 => gb (scr L xs (x3 + 3)) fun v4 => gb (nn 7 x1) fun _ => gb (f_X8_type x1 ((v2.toInt64 <<< ((32 : Int32).toInt64 &&& 63)) ||| (v3.toInt64 &&& 4294967295)) v4) fun v5 => gb (scr L xs (x3 + 1)) fun v6 => gb (scr L xs (x3 + 2)) fun v7 => gb (scr L xs (x3 + 3)) fun v8 => gb (nn 8 x2) fun _ => gb (f_X9_type x2 ((v6.toInt64 <<< ((32 : Int32).toInt64 &&& 63)) ||| (v7.toInt64 &&& 4294967295)) v8) fun v9 => if v5 = v9 then (rec18 x1 x2 (x3 + 7)) else (gp 0)) else if v1 &&& 15 = 1 then (gb (nn 7 x1) fun _ => gb (f_X8_erase x1) fun v10 => gb (nn 8 x2) fun _ => gb (f_X9_erase x2) fun v11 => if v10 = v11 then (rec18 x1 x2 (x3 + 7)) else (gp 0)) else if v1 &&& 15 = 2 then (gb (scr L xs (x3 + 1)) fun v12 => gb (scr L xs (x3 + 2)) fun v13 => gb (nn 7 x1) fun _ => gb (f_X8_read x1 v12 v13) fun v14 => gb (scr L xs (x3 + 1)) fun v15 => gb (scr L xs (x3 + 2)) fun v16 => gb (nn 8 x2) fun _ => gb (f_X9_read x2 v15 v16) fun v17 => if v14 = v17 then (rec18 x1 x2 (x3 + 7)) else (gp 0)) else if v1 &&& 15 = 3 then (gb (scr L xs (x3 + 1)) fun v18 => gb (nn 7 x1) fun _ => gb (f_X8_write x1 v18) fun v19 => gb (scr L xs (x3 + 1)) fun v20 => gb (nn 8 x2) fun _ => gb (f_X9_write x2 v20) fun v21 => if v19 = v21 then (rec18 x1 x2 (x3 + 7)) else (gp 0)) else if v1 &&& 15 = 4 then (gb (scr L xs (x3 + 1)) fun v22 => gb (nn 7 x1) fun _ => gb (f_X8_at x1 v22) fun v23 => gb (scr L xs (x3 + 1)) fun v24 => gb (nn 8 x2) fun _ => gb (f_X9_at x2 v24) fun v25 => if v23 = v25 then (rec18 x1 x2 (x3 + 7)) else (gp 0)) else if v1 &&& 15 = 5 then (gb (scr L xs (x3 + 1)) fun v26 => gb (scr L xs (x3 + 2)) fun v27 => gb (nn 7 x1) fun _ => gb (f_X8_size x1 v26 v27) fun v28 => gb (scr L xs (x3 + 1)) fun v29 => gb (scr L xs (x3 + 2)) fun v30 => gb (nn 8 x2) fun _ => gb (f_X9_size x2 v29 v30) fun v31 => if v28 = v31 then (rec18 x1 x2 (x3 + 7)) else (gp 0)) else if v1 &&& 15 = 6 then (gb (scr L xs (x3 + 1)) fun v32 => gb (scr L xs (x3 + 2)) fun v33 => gb (scr L xs (x3 + 3)) fun v34 => gb (nn 7 x1) fun _ => gb (f_X8_part x1 v32 v33 v34) fun v35 => gb (scr L xs (x3 + 1)) fun v36 => gb (scr L xs (x3 + 2)) fun v37 => gb (scr L xs (x3 + 3)) fun v38 => gb (nn 8 x2) fun _ => gb (f_X9_part x2 v36 v37 v38) fun v39 => if v35 = v39 then (rec18 x1 x2 (x3 + 7)) else (gp 0)) else if v1 &&& 15 = 7 then (gb (scr L xs (x3 + 1)) fun v40 => gb (scr L xs (x3 + 2)) fun v41 => gb (nn 7 x1) fun _ => gb (f_X8_told x1 v40 v41) fun v42 => gb (scr L xs (x3 + 1)) fun v43 => gb (scr L xs (x3 + 2)) fun v44 => gb (nn 8 x2) fun _ => gb (f_X9_told x2 v43 v44) fun v45 => if v42 = v45 then (rec18 x1 x2 (x3 + 7)) else (gp 0)) else if v1 &&& 15 = 8 then (gb (scr L xs (x3 + 1)) fun v46 => gb (scr L xs (x3 + 2)) fun v47 => gb (nn 7 x1) fun _ => gb (f_X8_number x1 v46 v47) fun v48 => gb (scr L xs (x3 + 1)) fun v49 => gb (scr L xs (x3 + 2)) fun v50 => gb (nn 8 x2) fun _ => gb (f_X9_number x2 v49 v50) fun v51 => if v48 = v51 then (rec18 x1 x2 (x3 + 7)) else (gp 0)) else if v1 &&& 15 = 9 then (gb (scr L xs (x3 + 1)) fun v52 => gb (scr L xs (x3 + 2)) fun v53 => gb (nn 7 x1) fun _ => gb (f_X8_same x1 v52 v53) fun v54 => gb (scr L xs (x3 + 1)) fun v55 => gb (scr L xs (x3 + 2)) fun v56 => gb (nn 8 x2) fun _ => gb (f_X9_same x2 v55 v56) fun v57 => if v54 = v57 then (rec18 x1 x2 (x3 + 7)) else (gp 0)) else if v1 &&& 15 = 10 then (gb (scr L xs (x3 + 1)) fun v58 => if v58 = 0 then (f_L_law_452 L xs rec18 x1 x2 x3 x1 0) else (f_L_law_452 L xs rec18 x1 x2 x3 x1 1)) else if v1 &&& 15 = 11 then (gb (scr L xs (x3 + 1)) fun v59 => gb (scr L xs (x3 + 2)) fun v60 => gb (scr L xs (x3 + 3)) fun v61 => gb (scr L xs (x3 + 4)) fun v62 => gb (scr L xs (x3 + 5)) fun v63 => gb (nn 7 x1) fun _ => gb (f_X8_resolve x1 v59 v60 v61 v62 v63) fun v64 => gb (scr L xs (x3 + 1)) fun v65 => gb (scr L xs (x3 + 2)) fun v66 => gb (scr L xs (x3 + 3)) fun v67 => gb (scr L xs (x3 + 4)) fun v68 => gb (scr L xs (x3 + 5)) fun v69 => gb (nn 8 x2) fun _ => gb (f_X9_resolve x2 v65 v66 v67 v68 v69) fun v70 => if v64 = v70 then (rec18 x1 x2 (x3 + 7)) else (gp 0)) else if v1 &&& 15 = 12 then (gb (scr L xs (x3 + 1)) fun v71 => gb (scr L xs (x3 + 2)) fun v72 => gb (scr L xs (x3 + 3)) fun v73 => gb (scr L xs (x3 + 4)) fun v74 => gb (scr L xs (x3 + 5)) fun v75 => gb (scr L xs (x3 + 6)) fun v76 => gb (nn 7 x1) fun _ => gb (f_X8_range x1 v71 v72 v73 v74 v75 v76) fun v77 => gb (scr L xs (x3 + 1)) fun v78 => gb (scr L xs (x3 + 2)) fun v79 => gb (scr L xs (x3 + 3)) fun v80 => gb (scr L xs (x3 + 4)) fun v81 => gb (scr L xs (x3 + 5)) fun v82 => gb (scr L xs (x3 + 6)) fun v83 => gb (nn 8 x2) fun _ => gb (f_X9_range x2 v78 v79 v80 v81 v82 v83) fun v84 => if v77 = v84 then (rec18 x1 x2 (x3 + 7)) else (gp 0)) else if v1 &&& 15 = 13 then (gb (nn 7 x1) fun _ => gb (f_X8_clear x1) fun v85 => gb (nn 8 x2) fun _ => gb (f_X9_clear x2) fun v86 => if v85 = v86 then (rec18 x1 x2 (x3 + 7)) else (gp 0)) else if v1 &&& 15 = 14 then (gb (scr L xs (x3 + 1)) fun v87 => gb (nn 7 x1) fun _ => gb (f_X8_pass x1 v87) fun v88 => gb (scr L xs (x3 + 1)) fun v89 => gb (nn 8 x2) fun _ => gb (f_X9_pass x2 v89) fun v90 => if v88 = v90 then (rec18 x1 x2 (x3 + 7)) else (gp 0)) else (rec18 x1 x2 (x3 + 7)))
def f_L_law_L18 (L : Nat) (xs : Nat → Int32)  : Nat → Option Nat → Option Nat → Int32 → gM Int32
  | 0, _, _, _ => gno
  | n + 1, x1, x2, x3 => f_L_law_18 L xs  (f_L_law_L18 L xs  n) x1 x2 x3
def f_L_law (L : Nat) (xs : Nat → Int32)   : gM Int32 := gb (nO 7) fun v1 => gb (nn 7 v1) fun _ => gb (f_X8_init v1) fun _ => gb (nO 8) fun v2 => gb (nn 8 v2) fun _ => gb (f_X9_init v2) fun _ => f_L_law_L18 L xs  gF v1 v2 0
section S_L_law
variable {G : gX} {p : Program} {l : Launch} {e : Env} {s : State} {m : MethodId} {b L : Nat} {xs : Nat → Int32} {below : List Frame} {meth : Method} {c : Code} {y : Int32 × gS}
set_option maxHeartbeats 4000000 in
set_option maxRecDepth 100000 in
theorem w_L_law_469 (C : gC G p s m #[Value.ref b] meth c cL_law 4 RL) (hr : meth.sig.returnType = ret) (hX : va_X b L xs s s.heap) (hbl : b < s.heap.size) (hbB : ¬ gA G b) (hB : gB G = s.heap.size) (hy : y.1 = 1) {rec18 : Option Nat → Option Nat → Int32 → gM Int32} (hrec18 : ∀ (x1 : Option Nat) (x2 : Option Nat) (x3 : Int32), gJL G p l e s m b below meth c y 18 [(0, va_rf (some b)), (1, va_rf x1), (2, va_rf x2), (3, .int x3)] [] (rec18 x1 x2 x3)) (x1 : Option Nat) (x2 : Option Nat) (x3 : Int32) (s0 : Int32) (s1 : Option Nat) (s2 : Int32) : gJL G p l e s m b below meth c y 469 [(0, va_rf (some b)), (1, va_rf x1), (2, va_rf x2), (3, .int x3)] [.int s2, va_rf s1, .int s0] (f_L_law_469 L xs rec18 x1 x2 x3 s0 s1 s2) := by
  have hx := C.1
  have hb := C.2.1
  intro σ H locs cells slots ls hf I hl
  unfold f_L_law_469 at hf
  refine gw_callV (rest := [.int s0]) C I hl.1 gcls_8 (m_X9_list G l s1 s2) gl_RL_64 gn_X9_list ⟨Nat.le_of_ble_eq_true rfl, Nat.le_of_ble_eq_true rfl⟩ rfl (gc4 (Nat.le_of_ble_eq_true rfl)) rfl dL_law_469 hf (fun v1 σ H locs cells slots I hf => ?_)
  refine W.eq (g2 := F0 m 472 ls [.int v1, .int s0]) rfl ?_
  refine lv_icmp_eq (tgt := 651) hx hb dL_law_472 (by decide) (fun hq => ?_) (fun hq => ?_)
  · have hf := gift hq hf
    refine lv_iinc (v := x3 + 7) (lv' := [(3, .int (x3 + 7)), (0, va_rf (some b)), (1, va_rf x1), (2, va_rf x2)]) hx hb dL_law_651 hl (k := 3) rfl rfl (by decide) (by cases x2 <;> rfl) (fun ls hl => ?_)
    refine lv_goto (tgt := 18) hx hb dL_law_654 (by decide) ?_
    exact hrec18 x1 x2 (x3 + 7) _ _ _ _ _ _ hf I (lv_sub hl [1, 2, 3, 0] rfl)
  · have hf := giff hq hf
    refine lv_iconst (v := 0) hx hb dL_law_475 kc_i_0 ?_
    exact gw_lawr C I hr hB hy dL_law_476 hf
set_option maxHeartbeats 4000000 in
set_option maxRecDepth 100000 in
theorem w_L_law_452 (C : gC G p s m #[Value.ref b] meth c cL_law 4 RL) (hr : meth.sig.returnType = ret) (hX : va_X b L xs s s.heap) (hbl : b < s.heap.size) (hbB : ¬ gA G b) (hB : gB G = s.heap.size) (hy : y.1 = 1) {rec18 : Option Nat → Option Nat → Int32 → gM Int32} (hrec18 : ∀ (x1 : Option Nat) (x2 : Option Nat) (x3 : Int32), gJL G p l e s m b below meth c y 18 [(0, va_rf (some b)), (1, va_rf x1), (2, va_rf x2), (3, .int x3)] [] (rec18 x1 x2 x3)) (x1 : Option Nat) (x2 : Option Nat) (x3 : Int32) (s0 : Option Nat) (s1 : Int32) : gJL G p l e s m b below meth c y 452 [(0, va_rf (some b)), (1, va_rf x1), (2, va_rf x2), (3, .int x3)] [.int s1, va_rf s0] (f_L_law_452 L xs rec18 x1 x2 x3 s0 s1) := by
  have hx := C.1
  have hb := C.2.1
  intro σ H locs cells slots ls hf I hl
  unfold f_L_law_452 at hf
  refine gw_callV (rest := []) C I hl.1 gcls_7 (m_X8_list G l s0 s1) gl_RL_60 gn_X8_list ⟨Nat.le_of_ble_eq_true rfl, Nat.le_of_ble_eq_true rfl⟩ rfl (gc4 (Nat.le_of_ble_eq_true rfl)) rfl dL_law_452 hf (fun v1 σ H locs cells slots I hf => ?_)
  refine W.eq (g2 := F0 m 455 ls [.int v1]) rfl ?_
  refine gw_aload_n hx hb dL_law_455 rfl (lv_at hl 2 rfl) ?_
  refine gw_aload_n hx hb dL_law_456 rfl (lv_at hl 0 rfl) ?_
  refine lv_iload_n hx hb dL_law_457 rfl (lv_at hl 3 rfl) ?_
  refine lv_iconst (v := 1) hx hb dL_law_458 kc_i_1 ?_
  refine lv_iadd hx hb dL_law_459 ?_
  refine gw_scr hX hbl hbB C I dL_law_460 hf (fun v2 hf => ?_)
  refine lv_if_eq (tgt := 468) hx hb dL_law_461 (by decide) (fun hq => ?_) (fun hq => ?_)
  · have hf := gift hq hf
    refine lv_iconst (v := 0) hx hb dL_law_468 kc_i_0 ?_
    exact w_L_law_469 C hr hX hbl hbB hB hy hrec18 x1 x2 x3 v1 x2 0 _ _ _ _ _ _ hf I (lv_sub hl [0, 1, 2, 3] rfl)
  · have hf := giff hq hf
    refine lv_iconst (v := 1) hx hb dL_law_464 kc_i_1 ?_
    refine lv_goto (tgt := 469) hx hb dL_law_465 (by decide) ?_
    exact w_L_law_469 C hr hX hbl hbB hB hy hrec18 x1 x2 x3 v1 x2 1 _ _ _ _ _ _ hf I (lv_sub hl [0, 1, 2, 3] rfl)
set_option maxHeartbeats 4000000 in
set_option maxRecDepth 100000 in
theorem w_L_law_18 (C : gC G p s m #[Value.ref b] meth c cL_law 4 RL) (hr : meth.sig.returnType = ret) (hX : va_X b L xs s s.heap) (hbl : b < s.heap.size) (hbB : ¬ gA G b) (hB : gB G = s.heap.size) (hy : y.1 = 1) {rec18 : Option Nat → Option Nat → Int32 → gM Int32} (hrec18 : ∀ (x1 : Option Nat) (x2 : Option Nat) (x3 : Int32), gJL G p l e s m b below meth c y 18 [(0, va_rf (some b)), (1, va_rf x1), (2, va_rf x2), (3, .int x3)] [] (rec18 x1 x2 x3)) (x1 : Option Nat) (x2 : Option Nat) (x3 : Int32) : gJL G p l e s m b below meth c y 18 [(0, va_rf (some b)), (1, va_rf x1), (2, va_rf x2), (3, .int x3)] [] (f_L_law_18 L xs rec18 x1 x2 x3) := by
  have hx := C.1
  have hb := C.2.1
  intro σ H locs cells slots ls hf I hl
  unfold f_L_law_18 at hf
  refine lv_iload_n hx hb dL_law_18 rfl (lv_at hl 3 rfl) ?_
  refine gw_aload_n hx hb dL_law_19 rfl (lv_at hl 0 rfl) ?_
  refine va_slen hx hb hX hbl hbB I.2.1 dL_law_20 ?_
  refine lv_bipush (v := 7) hx hb dL_law_21 kc_b_7 ?_
  refine lv_isub hx hb dL_law_23 ?_
  refine lv_icmp_gt (tgt := 657) hx hb dL_law_24 (by decide) (fun hq => ?_) (fun hq => ?_)
  · have hf := gift hq hf
    refine lv_iconst (v := 1) hx hb dL_law_657 kc_i_1 ?_
    exact gw_lawr C I hr hB hy dL_law_658 hf
  · have hf := giff hq hf
    refine gw_aload_n hx hb dL_law_27 rfl (lv_at hl 0 rfl) ?_
    refine lv_iload_n hx hb dL_law_28 rfl (lv_at hl 3 rfl) ?_
    refine gw_scr hX hbl hbB C I dL_law_29 hf (fun v1 hf => ?_)
    refine lv_bipush (v := 15) hx hb dL_law_30 kc_b_15 ?_
    refine lv_iand hx hb dL_law_32 ?_
    by_cases hq0 : v1 &&& 15 = 0
    · have hf := gift hq0 hf
      refine gw_sw (tgt := 108) hx hb dL_law_33 hq0 (by decide) (by decide) rfl (by decide) ?_
      refine gw_aload_n hx hb dL_law_108 rfl (lv_at hl 1 rfl) ?_
      refine gw_aload_n hx hb dL_law_109 rfl (lv_at hl 0 rfl) ?_
      refine lv_iload_n hx hb dL_law_110 rfl (lv_at hl 3 rfl) ?_
      refine lv_iconst (v := 1) hx hb dL_law_111 kc_i_1 ?_
      refine lv_iadd hx hb dL_law_112 ?_
      refine gw_scr hX hbl hbB C I dL_law_113 hf (fun v2 hf => ?_)
      refine lv_i2l hx hb dL_law_114 rfl ?_
      refine lv_bipush (v := 32) hx hb dL_law_115 kc_b_32 ?_
      refine lv_lshl hx hb dL_law_117 rfl ?_
      refine gw_aload_n hx hb dL_law_118 rfl (lv_at hl 0 rfl) ?_
      refine lv_iload_n hx hb dL_law_119 rfl (lv_at hl 3 rfl) ?_
      refine lv_iconst (v := 2) hx hb dL_law_120 kc_i_2 ?_
      refine lv_iadd hx hb dL_law_121 ?_
      refine gw_scr hX hbl hbB C I dL_law_122 hf (fun v3 hf => ?_)
      refine lv_i2l hx hb dL_law_123 rfl ?_
      refine gw_ldc2 C (v := 4294967295) kw_843 dL_law_124 ?_
      refine lv_land hx hb dL_law_127 ?_
      refine lv_lor hx hb dL_law_128 ?_
      refine gw_aload_n hx hb dL_law_129 rfl (lv_at hl 0 rfl) ?_
      refine lv_iload_n hx hb dL_law_130 rfl (lv_at hl 3 rfl) ?_
      refine lv_iconst (v := 3) hx hb dL_law_131 kc_i_3 ?_
      refine lv_iadd hx hb dL_law_132 ?_
      refine gw_scr hX hbl hbB C I dL_law_133 hf (fun v4 hf => ?_)
      refine gw_callV (rest := []) C I hl.1 gcls_7 (m_X8_type G l x1 ((v2.toInt64 <<< ((32 : Int32).toInt64 &&& 63)) ||| (v3.toInt64 &&& 4294967295)) v4) gl_RL_15 gn_X8_type ⟨Nat.le_of_ble_eq_true rfl, Nat.le_of_ble_eq_true rfl⟩ rfl (gc4 (Nat.le_of_ble_eq_true rfl)) rfl dL_law_134 hf (fun v5 σ H locs cells slots I hf => ?_)
      refine W.eq (g2 := F0 m 137 ls [.int v5]) rfl ?_
      refine gw_aload_n hx hb dL_law_137 rfl (lv_at hl 2 rfl) ?_
      refine gw_aload_n hx hb dL_law_138 rfl (lv_at hl 0 rfl) ?_
      refine lv_iload_n hx hb dL_law_139 rfl (lv_at hl 3 rfl) ?_
      refine lv_iconst (v := 1) hx hb dL_law_140 kc_i_1 ?_
      refine lv_iadd hx hb dL_law_141 ?_
      refine gw_scr hX hbl hbB C I dL_law_142 hf (fun v6 hf => ?_)
      refine lv_i2l hx hb dL_law_143 rfl ?_
      refine lv_bipush (v := 32) hx hb dL_law_144 kc_b_32 ?_
      refine lv_lshl hx hb dL_law_146 rfl ?_
      refine gw_aload_n hx hb dL_law_147 rfl (lv_at hl 0 rfl) ?_
      refine lv_iload_n hx hb dL_law_148 rfl (lv_at hl 3 rfl) ?_
      refine lv_iconst (v := 2) hx hb dL_law_149 kc_i_2 ?_
      refine lv_iadd hx hb dL_law_150 ?_
      refine gw_scr hX hbl hbB C I dL_law_151 hf (fun v7 hf => ?_)
      refine lv_i2l hx hb dL_law_152 rfl ?_
      refine gw_ldc2 C (v := 4294967295) kw_843 dL_law_153 ?_
      refine lv_land hx hb dL_law_156 ?_
      refine lv_lor hx hb dL_law_157 ?_
      refine gw_aload_n hx hb dL_law_158 rfl (lv_at hl 0 rfl) ?_
      refine lv_iload_n hx hb dL_law_159 rfl (lv_at hl 3 rfl) ?_
      refine lv_iconst (v := 3) hx hb dL_law_160 kc_i_3 ?_
      refine lv_iadd hx hb dL_law_161 ?_
      refine gw_scr hX hbl hbB C I dL_law_162 hf (fun v8 hf => ?_)
      refine gw_callV (rest := [.int v5]) C I hl.1 gcls_8 (m_X9_type G l x2 ((v6.toInt64 <<< ((32 : Int32).toInt64 &&& 63)) ||| (v7.toInt64 &&& 4294967295)) v8) gl_RL_19 gn_X9_type ⟨Nat.le_of_ble_eq_true rfl, Nat.le_of_ble_eq_true rfl⟩ rfl (gc4 (Nat.le_of_ble_eq_true rfl)) rfl dL_law_163 hf (fun v9 σ H locs cells slots I hf => ?_)
      refine W.eq (g2 := F0 m 166 ls [.int v9, .int v5]) rfl ?_
      refine lv_icmp_eq (tgt := 651) hx hb dL_law_166 (by decide) (fun hq => ?_) (fun hq => ?_)
      · have hf := gift hq hf
        refine lv_iinc (v := x3 + 7) (lv' := [(3, .int (x3 + 7)), (0, va_rf (some b)), (1, va_rf x1), (2, va_rf x2)]) hx hb dL_law_651 hl (k := 3) rfl rfl (by decide) (by cases x2 <;> rfl) (fun ls hl => ?_)
        refine lv_goto (tgt := 18) hx hb dL_law_654 (by decide) ?_
        exact hrec18 x1 x2 (x3 + 7) _ _ _ _ _ _ hf I (lv_sub hl [1, 2, 3, 0] rfl)
      · have hf := giff hq hf
        refine lv_iconst (v := 0) hx hb dL_law_169 kc_i_0 ?_
        exact gw_lawr C I hr hB hy dL_law_170 hf
    have hf := giff hq0 hf
    by_cases hq1 : v1 &&& 15 = 1
    · have hf := gift hq1 hf
      refine gw_sw (tgt := 171) hx hb dL_law_33 hq1 (by decide) (by decide) rfl (by decide) ?_
      refine gw_aload_n hx hb dL_law_171 rfl (lv_at hl 1 rfl) ?_
      refine gw_callV (rest := []) C I hl.1 gcls_7 (m_X8_erase G l x1) gl_RL_20 gn_X8_erase ⟨Nat.le_of_ble_eq_true rfl, Nat.le_of_ble_eq_true rfl⟩ rfl (gc4 (Nat.le_of_ble_eq_true rfl)) rfl dL_law_172 hf (fun v10 σ H locs cells slots I hf => ?_)
      refine W.eq (g2 := F0 m 175 ls [.int v10]) rfl ?_
      refine gw_aload_n hx hb dL_law_175 rfl (lv_at hl 2 rfl) ?_
      refine gw_callV (rest := [.int v10]) C I hl.1 gcls_8 (m_X9_erase G l x2) gl_RL_24 gn_X9_erase ⟨Nat.le_of_ble_eq_true rfl, Nat.le_of_ble_eq_true rfl⟩ rfl (gc4 (Nat.le_of_ble_eq_true rfl)) rfl dL_law_176 hf (fun v11 σ H locs cells slots I hf => ?_)
      refine W.eq (g2 := F0 m 179 ls [.int v11, .int v10]) rfl ?_
      refine lv_icmp_eq (tgt := 651) hx hb dL_law_179 (by decide) (fun hq => ?_) (fun hq => ?_)
      · have hf := gift hq hf
        refine lv_iinc (v := x3 + 7) (lv' := [(3, .int (x3 + 7)), (0, va_rf (some b)), (1, va_rf x1), (2, va_rf x2)]) hx hb dL_law_651 hl (k := 3) rfl rfl (by decide) (by cases x2 <;> rfl) (fun ls hl => ?_)
        refine lv_goto (tgt := 18) hx hb dL_law_654 (by decide) ?_
        exact hrec18 x1 x2 (x3 + 7) _ _ _ _ _ _ hf I (lv_sub hl [1, 2, 3, 0] rfl)
      · have hf := giff hq hf
        refine lv_iconst (v := 0) hx hb dL_law_182 kc_i_0 ?_
        exact gw_lawr C I hr hB hy dL_law_183 hf
    have hf := giff hq1 hf
    by_cases hq2 : v1 &&& 15 = 2
    · have hf := gift hq2 hf
      refine gw_sw (tgt := 184) hx hb dL_law_33 hq2 (by decide) (by decide) rfl (by decide) ?_
      refine gw_aload_n hx hb dL_law_184 rfl (lv_at hl 1 rfl) ?_
      refine gw_aload_n hx hb dL_law_185 rfl (lv_at hl 0 rfl) ?_
      refine lv_iload_n hx hb dL_law_186 rfl (lv_at hl 3 rfl) ?_
      refine lv_iconst (v := 1) hx hb dL_law_187 kc_i_1 ?_
      refine lv_iadd hx hb dL_law_188 ?_
      refine gw_scr hX hbl hbB C I dL_law_189 hf (fun v12 hf => ?_)
      refine gw_aload_n hx hb dL_law_190 rfl (lv_at hl 0 rfl) ?_
      refine lv_iload_n hx hb dL_law_191 rfl (lv_at hl 3 rfl) ?_
      refine lv_iconst (v := 2) hx hb dL_law_192 kc_i_2 ?_
      refine lv_iadd hx hb dL_law_193 ?_
      refine gw_scr hX hbl hbB C I dL_law_194 hf (fun v13 hf => ?_)
      refine gw_callV (rest := []) C I hl.1 gcls_7 (m_X8_read G l x1 v12 v13) gl_RL_25 gn_X8_read ⟨Nat.le_of_ble_eq_true rfl, Nat.le_of_ble_eq_true rfl⟩ rfl (gc4 (Nat.le_of_ble_eq_true rfl)) rfl dL_law_195 hf (fun v14 σ H locs cells slots I hf => ?_)
      refine W.eq (g2 := F0 m 198 ls [.int v14]) rfl ?_
      refine gw_aload_n hx hb dL_law_198 rfl (lv_at hl 2 rfl) ?_
      refine gw_aload_n hx hb dL_law_199 rfl (lv_at hl 0 rfl) ?_
      refine lv_iload_n hx hb dL_law_200 rfl (lv_at hl 3 rfl) ?_
      refine lv_iconst (v := 1) hx hb dL_law_201 kc_i_1 ?_
      refine lv_iadd hx hb dL_law_202 ?_
      refine gw_scr hX hbl hbB C I dL_law_203 hf (fun v15 hf => ?_)
      refine gw_aload_n hx hb dL_law_204 rfl (lv_at hl 0 rfl) ?_
      refine lv_iload_n hx hb dL_law_205 rfl (lv_at hl 3 rfl) ?_
      refine lv_iconst (v := 2) hx hb dL_law_206 kc_i_2 ?_
      refine lv_iadd hx hb dL_law_207 ?_
      refine gw_scr hX hbl hbB C I dL_law_208 hf (fun v16 hf => ?_)
      refine gw_callV (rest := [.int v14]) C I hl.1 gcls_8 (m_X9_read G l x2 v15 v16) gl_RL_29 gn_X9_read ⟨Nat.le_of_ble_eq_true rfl, Nat.le_of_ble_eq_true rfl⟩ rfl (gc4 (Nat.le_of_ble_eq_true rfl)) rfl dL_law_209 hf (fun v17 σ H locs cells slots I hf => ?_)
      refine W.eq (g2 := F0 m 212 ls [.int v17, .int v14]) rfl ?_
      refine lv_icmp_eq (tgt := 651) hx hb dL_law_212 (by decide) (fun hq => ?_) (fun hq => ?_)
      · have hf := gift hq hf
        refine lv_iinc (v := x3 + 7) (lv' := [(3, .int (x3 + 7)), (0, va_rf (some b)), (1, va_rf x1), (2, va_rf x2)]) hx hb dL_law_651 hl (k := 3) rfl rfl (by decide) (by cases x2 <;> rfl) (fun ls hl => ?_)
        refine lv_goto (tgt := 18) hx hb dL_law_654 (by decide) ?_
        exact hrec18 x1 x2 (x3 + 7) _ _ _ _ _ _ hf I (lv_sub hl [1, 2, 3, 0] rfl)
      · have hf := giff hq hf
        refine lv_iconst (v := 0) hx hb dL_law_215 kc_i_0 ?_
        exact gw_lawr C I hr hB hy dL_law_216 hf
    have hf := giff hq2 hf
    by_cases hq3 : v1 &&& 15 = 3
    · have hf := gift hq3 hf
      refine gw_sw (tgt := 217) hx hb dL_law_33 hq3 (by decide) (by decide) rfl (by decide) ?_
      refine gw_aload_n hx hb dL_law_217 rfl (lv_at hl 1 rfl) ?_
      refine gw_aload_n hx hb dL_law_218 rfl (lv_at hl 0 rfl) ?_
      refine lv_iload_n hx hb dL_law_219 rfl (lv_at hl 3 rfl) ?_
      refine lv_iconst (v := 1) hx hb dL_law_220 kc_i_1 ?_
      refine lv_iadd hx hb dL_law_221 ?_
      refine gw_scr hX hbl hbB C I dL_law_222 hf (fun v18 hf => ?_)
      refine gw_callV (rest := []) C I hl.1 gcls_7 (m_X8_write G l x1 v18) gl_RL_30 gn_X8_write ⟨Nat.le_of_ble_eq_true rfl, Nat.le_of_ble_eq_true rfl⟩ rfl (gc4 (Nat.le_of_ble_eq_true rfl)) rfl dL_law_223 hf (fun v19 σ H locs cells slots I hf => ?_)
      refine W.eq (g2 := F0 m 226 ls [.int v19]) rfl ?_
      refine gw_aload_n hx hb dL_law_226 rfl (lv_at hl 2 rfl) ?_
      refine gw_aload_n hx hb dL_law_227 rfl (lv_at hl 0 rfl) ?_
      refine lv_iload_n hx hb dL_law_228 rfl (lv_at hl 3 rfl) ?_
      refine lv_iconst (v := 1) hx hb dL_law_229 kc_i_1 ?_
      refine lv_iadd hx hb dL_law_230 ?_
      refine gw_scr hX hbl hbB C I dL_law_231 hf (fun v20 hf => ?_)
      refine gw_callV (rest := [.int v19]) C I hl.1 gcls_8 (m_X9_write G l x2 v20) gl_RL_34 gn_X9_write ⟨Nat.le_of_ble_eq_true rfl, Nat.le_of_ble_eq_true rfl⟩ rfl (gc4 (Nat.le_of_ble_eq_true rfl)) rfl dL_law_232 hf (fun v21 σ H locs cells slots I hf => ?_)
      refine W.eq (g2 := F0 m 235 ls [.int v21, .int v19]) rfl ?_
      refine lv_icmp_eq (tgt := 651) hx hb dL_law_235 (by decide) (fun hq => ?_) (fun hq => ?_)
      · have hf := gift hq hf
        refine lv_iinc (v := x3 + 7) (lv' := [(3, .int (x3 + 7)), (0, va_rf (some b)), (1, va_rf x1), (2, va_rf x2)]) hx hb dL_law_651 hl (k := 3) rfl rfl (by decide) (by cases x2 <;> rfl) (fun ls hl => ?_)
        refine lv_goto (tgt := 18) hx hb dL_law_654 (by decide) ?_
        exact hrec18 x1 x2 (x3 + 7) _ _ _ _ _ _ hf I (lv_sub hl [1, 2, 3, 0] rfl)
      · have hf := giff hq hf
        refine lv_iconst (v := 0) hx hb dL_law_238 kc_i_0 ?_
        exact gw_lawr C I hr hB hy dL_law_239 hf
    have hf := giff hq3 hf
    by_cases hq4 : v1 &&& 15 = 4
    · have hf := gift hq4 hf
      refine gw_sw (tgt := 240) hx hb dL_law_33 hq4 (by decide) (by decide) rfl (by decide) ?_
      refine gw_aload_n hx hb dL_law_240 rfl (lv_at hl 1 rfl) ?_
      refine gw_aload_n hx hb dL_law_241 rfl (lv_at hl 0 rfl) ?_
      refine lv_iload_n hx hb dL_law_242 rfl (lv_at hl 3 rfl) ?_
      refine lv_iconst (v := 1) hx hb dL_law_243 kc_i_1 ?_
      refine lv_iadd hx hb dL_law_244 ?_
      refine gw_scr hX hbl hbB C I dL_law_245 hf (fun v22 hf => ?_)
      refine gw_callV (rest := []) C I hl.1 gcls_7 (m_X8_at G l x1 v22) gl_RL_35 gn_X8_at ⟨Nat.le_of_ble_eq_true rfl, Nat.le_of_ble_eq_true rfl⟩ rfl (gc4 (Nat.le_of_ble_eq_true rfl)) rfl dL_law_246 hf (fun v23 σ H locs cells slots I hf => ?_)
      refine W.eq (g2 := F0 m 249 ls [.int v23]) rfl ?_
      refine gw_aload_n hx hb dL_law_249 rfl (lv_at hl 2 rfl) ?_
      refine gw_aload_n hx hb dL_law_250 rfl (lv_at hl 0 rfl) ?_
      refine lv_iload_n hx hb dL_law_251 rfl (lv_at hl 3 rfl) ?_
      refine lv_iconst (v := 1) hx hb dL_law_252 kc_i_1 ?_
      refine lv_iadd hx hb dL_law_253 ?_
      refine gw_scr hX hbl hbB C I dL_law_254 hf (fun v24 hf => ?_)
      refine gw_callV (rest := [.int v23]) C I hl.1 gcls_8 (m_X9_at G l x2 v24) gl_RL_38 gn_X9_at ⟨Nat.le_of_ble_eq_true rfl, Nat.le_of_ble_eq_true rfl⟩ rfl (gc4 (Nat.le_of_ble_eq_true rfl)) rfl dL_law_255 hf (fun v25 σ H locs cells slots I hf => ?_)
      refine W.eq (g2 := F0 m 258 ls [.int v25, .int v23]) rfl ?_
      refine lv_icmp_eq (tgt := 651) hx hb dL_law_258 (by decide) (fun hq => ?_) (fun hq => ?_)
      · have hf := gift hq hf
        refine lv_iinc (v := x3 + 7) (lv' := [(3, .int (x3 + 7)), (0, va_rf (some b)), (1, va_rf x1), (2, va_rf x2)]) hx hb dL_law_651 hl (k := 3) rfl rfl (by decide) (by cases x2 <;> rfl) (fun ls hl => ?_)
        refine lv_goto (tgt := 18) hx hb dL_law_654 (by decide) ?_
        exact hrec18 x1 x2 (x3 + 7) _ _ _ _ _ _ hf I (lv_sub hl [1, 2, 3, 0] rfl)
      · have hf := giff hq hf
        refine lv_iconst (v := 0) hx hb dL_law_261 kc_i_0 ?_
        exact gw_lawr C I hr hB hy dL_law_262 hf
    have hf := giff hq4 hf
    by_cases hq5 : v1 &&& 15 = 5
    · have hf := gift hq5 hf
      refine gw_sw (tgt := 263) hx hb dL_law_33 hq5 (by decide) (by decide) rfl (by decide) ?_
      refine gw_aload_n hx hb dL_law_263 rfl (lv_at hl 1 rfl) ?_
      refine gw_aload_n hx hb dL_law_264 rfl (lv_at hl 0 rfl) ?_
      refine lv_iload_n hx hb dL_law_265 rfl (lv_at hl 3 rfl) ?_
      refine lv_iconst (v := 1) hx hb dL_law_266 kc_i_1 ?_
      refine lv_iadd hx hb dL_law_267 ?_
      refine gw_scr hX hbl hbB C I dL_law_268 hf (fun v26 hf => ?_)
      refine gw_aload_n hx hb dL_law_269 rfl (lv_at hl 0 rfl) ?_
      refine lv_iload_n hx hb dL_law_270 rfl (lv_at hl 3 rfl) ?_
      refine lv_iconst (v := 2) hx hb dL_law_271 kc_i_2 ?_
      refine lv_iadd hx hb dL_law_272 ?_
      refine gw_scr hX hbl hbB C I dL_law_273 hf (fun v27 hf => ?_)
      refine gw_callV (rest := []) C I hl.1 gcls_7 (m_X8_size G l x1 v26 v27) gl_RL_39 gn_X8_size ⟨Nat.le_of_ble_eq_true rfl, Nat.le_of_ble_eq_true rfl⟩ rfl (gc4 (Nat.le_of_ble_eq_true rfl)) rfl dL_law_274 hf (fun v28 σ H locs cells slots I hf => ?_)
      refine W.eq (g2 := F0 m 277 ls [.int v28]) rfl ?_
      refine gw_aload_n hx hb dL_law_277 rfl (lv_at hl 2 rfl) ?_
      refine gw_aload_n hx hb dL_law_278 rfl (lv_at hl 0 rfl) ?_
      refine lv_iload_n hx hb dL_law_279 rfl (lv_at hl 3 rfl) ?_
      refine lv_iconst (v := 1) hx hb dL_law_280 kc_i_1 ?_
      refine lv_iadd hx hb dL_law_281 ?_
      refine gw_scr hX hbl hbB C I dL_law_282 hf (fun v29 hf => ?_)
      refine gw_aload_n hx hb dL_law_283 rfl (lv_at hl 0 rfl) ?_
      refine lv_iload_n hx hb dL_law_284 rfl (lv_at hl 3 rfl) ?_
      refine lv_iconst (v := 2) hx hb dL_law_285 kc_i_2 ?_
      refine lv_iadd hx hb dL_law_286 ?_
      refine gw_scr hX hbl hbB C I dL_law_287 hf (fun v30 hf => ?_)
      refine gw_callV (rest := [.int v28]) C I hl.1 gcls_8 (m_X9_size G l x2 v29 v30) gl_RL_42 gn_X9_size ⟨Nat.le_of_ble_eq_true rfl, Nat.le_of_ble_eq_true rfl⟩ rfl (gc4 (Nat.le_of_ble_eq_true rfl)) rfl dL_law_288 hf (fun v31 σ H locs cells slots I hf => ?_)
      refine W.eq (g2 := F0 m 291 ls [.int v31, .int v28]) rfl ?_
      refine lv_icmp_eq (tgt := 651) hx hb dL_law_291 (by decide) (fun hq => ?_) (fun hq => ?_)
      · have hf := gift hq hf
        refine lv_iinc (v := x3 + 7) (lv' := [(3, .int (x3 + 7)), (0, va_rf (some b)), (1, va_rf x1), (2, va_rf x2)]) hx hb dL_law_651 hl (k := 3) rfl rfl (by decide) (by cases x2 <;> rfl) (fun ls hl => ?_)
        refine lv_goto (tgt := 18) hx hb dL_law_654 (by decide) ?_
        exact hrec18 x1 x2 (x3 + 7) _ _ _ _ _ _ hf I (lv_sub hl [1, 2, 3, 0] rfl)
      · have hf := giff hq hf
        refine lv_iconst (v := 0) hx hb dL_law_294 kc_i_0 ?_
        exact gw_lawr C I hr hB hy dL_law_295 hf
    have hf := giff hq5 hf
    by_cases hq6 : v1 &&& 15 = 6
    · have hf := gift hq6 hf
      refine gw_sw (tgt := 296) hx hb dL_law_33 hq6 (by decide) (by decide) rfl (by decide) ?_
      refine gw_aload_n hx hb dL_law_296 rfl (lv_at hl 1 rfl) ?_
      refine gw_aload_n hx hb dL_law_297 rfl (lv_at hl 0 rfl) ?_
      refine lv_iload_n hx hb dL_law_298 rfl (lv_at hl 3 rfl) ?_
      refine lv_iconst (v := 1) hx hb dL_law_299 kc_i_1 ?_
      refine lv_iadd hx hb dL_law_300 ?_
      refine gw_scr hX hbl hbB C I dL_law_301 hf (fun v32 hf => ?_)
      refine gw_aload_n hx hb dL_law_302 rfl (lv_at hl 0 rfl) ?_
      refine lv_iload_n hx hb dL_law_303 rfl (lv_at hl 3 rfl) ?_
      refine lv_iconst (v := 2) hx hb dL_law_304 kc_i_2 ?_
      refine lv_iadd hx hb dL_law_305 ?_
      refine gw_scr hX hbl hbB C I dL_law_306 hf (fun v33 hf => ?_)
      refine gw_aload_n hx hb dL_law_307 rfl (lv_at hl 0 rfl) ?_
      refine lv_iload_n hx hb dL_law_308 rfl (lv_at hl 3 rfl) ?_
      refine lv_iconst (v := 3) hx hb dL_law_309 kc_i_3 ?_
      refine lv_iadd hx hb dL_law_310 ?_
      refine gw_scr hX hbl hbB C I dL_law_311 hf (fun v34 hf => ?_)
      refine gw_callV (rest := []) C I hl.1 gcls_7 (m_X8_part G l x1 v32 v33 v34) gl_RL_43 gn_X8_part ⟨Nat.le_of_ble_eq_true rfl, Nat.le_of_ble_eq_true rfl⟩ rfl (gc4 (Nat.le_of_ble_eq_true rfl)) rfl dL_law_312 hf (fun v35 σ H locs cells slots I hf => ?_)
      refine W.eq (g2 := F0 m 315 ls [.int v35]) rfl ?_
      refine gw_aload_n hx hb dL_law_315 rfl (lv_at hl 2 rfl) ?_
      refine gw_aload_n hx hb dL_law_316 rfl (lv_at hl 0 rfl) ?_
      refine lv_iload_n hx hb dL_law_317 rfl (lv_at hl 3 rfl) ?_
      refine lv_iconst (v := 1) hx hb dL_law_318 kc_i_1 ?_
      refine lv_iadd hx hb dL_law_319 ?_
      refine gw_scr hX hbl hbB C I dL_law_320 hf (fun v36 hf => ?_)
      refine gw_aload_n hx hb dL_law_321 rfl (lv_at hl 0 rfl) ?_
      refine lv_iload_n hx hb dL_law_322 rfl (lv_at hl 3 rfl) ?_
      refine lv_iconst (v := 2) hx hb dL_law_323 kc_i_2 ?_
      refine lv_iadd hx hb dL_law_324 ?_
      refine gw_scr hX hbl hbB C I dL_law_325 hf (fun v37 hf => ?_)
      refine gw_aload_n hx hb dL_law_326 rfl (lv_at hl 0 rfl) ?_
      refine lv_iload_n hx hb dL_law_327 rfl (lv_at hl 3 rfl) ?_
      refine lv_iconst (v := 3) hx hb dL_law_328 kc_i_3 ?_
      refine lv_iadd hx hb dL_law_329 ?_
      refine gw_scr hX hbl hbB C I dL_law_330 hf (fun v38 hf => ?_)
      refine gw_callV (rest := [.int v35]) C I hl.1 gcls_8 (m_X9_part G l x2 v36 v37 v38) gl_RL_47 gn_X9_part ⟨Nat.le_of_ble_eq_true rfl, Nat.le_of_ble_eq_true rfl⟩ rfl (gc4 (Nat.le_of_ble_eq_true rfl)) rfl dL_law_331 hf (fun v39 σ H locs cells slots I hf => ?_)
      refine W.eq (g2 := F0 m 334 ls [.int v39, .int v35]) rfl ?_
      refine lv_icmp_eq (tgt := 651) hx hb dL_law_334 (by decide) (fun hq => ?_) (fun hq => ?_)
      · have hf := gift hq hf
        refine lv_iinc (v := x3 + 7) (lv' := [(3, .int (x3 + 7)), (0, va_rf (some b)), (1, va_rf x1), (2, va_rf x2)]) hx hb dL_law_651 hl (k := 3) rfl rfl (by decide) (by cases x2 <;> rfl) (fun ls hl => ?_)
        refine lv_goto (tgt := 18) hx hb dL_law_654 (by decide) ?_
        exact hrec18 x1 x2 (x3 + 7) _ _ _ _ _ _ hf I (lv_sub hl [1, 2, 3, 0] rfl)
      · have hf := giff hq hf
        refine lv_iconst (v := 0) hx hb dL_law_337 kc_i_0 ?_
        exact gw_lawr C I hr hB hy dL_law_338 hf
    have hf := giff hq6 hf
    by_cases hq7 : v1 &&& 15 = 7
    · have hf := gift hq7 hf
      refine gw_sw (tgt := 339) hx hb dL_law_33 hq7 (by decide) (by decide) rfl (by decide) ?_
      refine gw_aload_n hx hb dL_law_339 rfl (lv_at hl 1 rfl) ?_
      refine gw_aload_n hx hb dL_law_340 rfl (lv_at hl 0 rfl) ?_
      refine lv_iload_n hx hb dL_law_341 rfl (lv_at hl 3 rfl) ?_
      refine lv_iconst (v := 1) hx hb dL_law_342 kc_i_1 ?_
      refine lv_iadd hx hb dL_law_343 ?_
      refine gw_scr hX hbl hbB C I dL_law_344 hf (fun v40 hf => ?_)
      refine gw_aload_n hx hb dL_law_345 rfl (lv_at hl 0 rfl) ?_
      refine lv_iload_n hx hb dL_law_346 rfl (lv_at hl 3 rfl) ?_
      refine lv_iconst (v := 2) hx hb dL_law_347 kc_i_2 ?_
      refine lv_iadd hx hb dL_law_348 ?_
      refine gw_scr hX hbl hbB C I dL_law_349 hf (fun v41 hf => ?_)
      refine gw_callV (rest := []) C I hl.1 gcls_7 (m_X8_told G l x1 v40 v41) gl_RL_48 gn_X8_told ⟨Nat.le_of_ble_eq_true rfl, Nat.le_of_ble_eq_true rfl⟩ rfl (gc4 (Nat.le_of_ble_eq_true rfl)) rfl dL_law_350 hf (fun v42 σ H locs cells slots I hf => ?_)
      refine W.eq (g2 := F0 m 353 ls [.int v42]) rfl ?_
      refine gw_aload_n hx hb dL_law_353 rfl (lv_at hl 2 rfl) ?_
      refine gw_aload_n hx hb dL_law_354 rfl (lv_at hl 0 rfl) ?_
      refine lv_iload_n hx hb dL_law_355 rfl (lv_at hl 3 rfl) ?_
      refine lv_iconst (v := 1) hx hb dL_law_356 kc_i_1 ?_
      refine lv_iadd hx hb dL_law_357 ?_
      refine gw_scr hX hbl hbB C I dL_law_358 hf (fun v43 hf => ?_)
      refine gw_aload_n hx hb dL_law_359 rfl (lv_at hl 0 rfl) ?_
      refine lv_iload_n hx hb dL_law_360 rfl (lv_at hl 3 rfl) ?_
      refine lv_iconst (v := 2) hx hb dL_law_361 kc_i_2 ?_
      refine lv_iadd hx hb dL_law_362 ?_
      refine gw_scr hX hbl hbB C I dL_law_363 hf (fun v44 hf => ?_)
      refine gw_callV (rest := [.int v42]) C I hl.1 gcls_8 (m_X9_told G l x2 v43 v44) gl_RL_51 gn_X9_told ⟨Nat.le_of_ble_eq_true rfl, Nat.le_of_ble_eq_true rfl⟩ rfl (gc4 (Nat.le_of_ble_eq_true rfl)) rfl dL_law_364 hf (fun v45 σ H locs cells slots I hf => ?_)
      refine W.eq (g2 := F0 m 367 ls [.int v45, .int v42]) rfl ?_
      refine lv_icmp_eq (tgt := 651) hx hb dL_law_367 (by decide) (fun hq => ?_) (fun hq => ?_)
      · have hf := gift hq hf
        refine lv_iinc (v := x3 + 7) (lv' := [(3, .int (x3 + 7)), (0, va_rf (some b)), (1, va_rf x1), (2, va_rf x2)]) hx hb dL_law_651 hl (k := 3) rfl rfl (by decide) (by cases x2 <;> rfl) (fun ls hl => ?_)
        refine lv_goto (tgt := 18) hx hb dL_law_654 (by decide) ?_
        exact hrec18 x1 x2 (x3 + 7) _ _ _ _ _ _ hf I (lv_sub hl [1, 2, 3, 0] rfl)
      · have hf := giff hq hf
        refine lv_iconst (v := 0) hx hb dL_law_370 kc_i_0 ?_
        exact gw_lawr C I hr hB hy dL_law_371 hf
    have hf := giff hq7 hf
    by_cases hq8 : v1 &&& 15 = 8
    · have hf := gift hq8 hf
      refine gw_sw (tgt := 372) hx hb dL_law_33 hq8 (by decide) (by decide) rfl (by decide) ?_
      refine gw_aload_n hx hb dL_law_372 rfl (lv_at hl 1 rfl) ?_
      refine gw_aload_n hx hb dL_law_373 rfl (lv_at hl 0 rfl) ?_
      refine lv_iload_n hx hb dL_law_374 rfl (lv_at hl 3 rfl) ?_
      refine lv_iconst (v := 1) hx hb dL_law_375 kc_i_1 ?_
      refine lv_iadd hx hb dL_law_376 ?_
      refine gw_scr hX hbl hbB C I dL_law_377 hf (fun v46 hf => ?_)
      refine gw_aload_n hx hb dL_law_378 rfl (lv_at hl 0 rfl) ?_
      refine lv_iload_n hx hb dL_law_379 rfl (lv_at hl 3 rfl) ?_
      refine lv_iconst (v := 2) hx hb dL_law_380 kc_i_2 ?_
      refine lv_iadd hx hb dL_law_381 ?_
      refine gw_scr hX hbl hbB C I dL_law_382 hf (fun v47 hf => ?_)
      refine gw_callV (rest := []) C I hl.1 gcls_7 (m_X8_number G l x1 v46 v47) gl_RL_52 gn_X8_number ⟨Nat.le_of_ble_eq_true rfl, Nat.le_of_ble_eq_true rfl⟩ rfl (gc4 (Nat.le_of_ble_eq_true rfl)) rfl dL_law_383 hf (fun v48 σ H locs cells slots I hf => ?_)
      refine W.eq (g2 := F0 m 386 ls [.int v48]) rfl ?_
      refine gw_aload_n hx hb dL_law_386 rfl (lv_at hl 2 rfl) ?_
      refine gw_aload_n hx hb dL_law_387 rfl (lv_at hl 0 rfl) ?_
      refine lv_iload_n hx hb dL_law_388 rfl (lv_at hl 3 rfl) ?_
      refine lv_iconst (v := 1) hx hb dL_law_389 kc_i_1 ?_
      refine lv_iadd hx hb dL_law_390 ?_
      refine gw_scr hX hbl hbB C I dL_law_391 hf (fun v49 hf => ?_)
      refine gw_aload_n hx hb dL_law_392 rfl (lv_at hl 0 rfl) ?_
      refine lv_iload_n hx hb dL_law_393 rfl (lv_at hl 3 rfl) ?_
      refine lv_iconst (v := 2) hx hb dL_law_394 kc_i_2 ?_
      refine lv_iadd hx hb dL_law_395 ?_
      refine gw_scr hX hbl hbB C I dL_law_396 hf (fun v50 hf => ?_)
      refine gw_callV (rest := [.int v48]) C I hl.1 gcls_8 (m_X9_number G l x2 v49 v50) gl_RL_55 gn_X9_number ⟨Nat.le_of_ble_eq_true rfl, Nat.le_of_ble_eq_true rfl⟩ rfl (gc4 (Nat.le_of_ble_eq_true rfl)) rfl dL_law_397 hf (fun v51 σ H locs cells slots I hf => ?_)
      refine W.eq (g2 := F0 m 400 ls [.int v51, .int v48]) rfl ?_
      refine lv_icmp_eq (tgt := 651) hx hb dL_law_400 (by decide) (fun hq => ?_) (fun hq => ?_)
      · have hf := gift hq hf
        refine lv_iinc (v := x3 + 7) (lv' := [(3, .int (x3 + 7)), (0, va_rf (some b)), (1, va_rf x1), (2, va_rf x2)]) hx hb dL_law_651 hl (k := 3) rfl rfl (by decide) (by cases x2 <;> rfl) (fun ls hl => ?_)
        refine lv_goto (tgt := 18) hx hb dL_law_654 (by decide) ?_
        exact hrec18 x1 x2 (x3 + 7) _ _ _ _ _ _ hf I (lv_sub hl [1, 2, 3, 0] rfl)
      · have hf := giff hq hf
        refine lv_iconst (v := 0) hx hb dL_law_403 kc_i_0 ?_
        exact gw_lawr C I hr hB hy dL_law_404 hf
    have hf := giff hq8 hf
    by_cases hq9 : v1 &&& 15 = 9
    · have hf := gift hq9 hf
      refine gw_sw (tgt := 405) hx hb dL_law_33 hq9 (by decide) (by decide) rfl (by decide) ?_
      refine gw_aload_n hx hb dL_law_405 rfl (lv_at hl 1 rfl) ?_
      refine gw_aload_n hx hb dL_law_406 rfl (lv_at hl 0 rfl) ?_
      refine lv_iload_n hx hb dL_law_407 rfl (lv_at hl 3 rfl) ?_
      refine lv_iconst (v := 1) hx hb dL_law_408 kc_i_1 ?_
      refine lv_iadd hx hb dL_law_409 ?_
      refine gw_scr hX hbl hbB C I dL_law_410 hf (fun v52 hf => ?_)
      refine gw_aload_n hx hb dL_law_411 rfl (lv_at hl 0 rfl) ?_
      refine lv_iload_n hx hb dL_law_412 rfl (lv_at hl 3 rfl) ?_
      refine lv_iconst (v := 2) hx hb dL_law_413 kc_i_2 ?_
      refine lv_iadd hx hb dL_law_414 ?_
      refine gw_scr hX hbl hbB C I dL_law_415 hf (fun v53 hf => ?_)
      refine gw_callV (rest := []) C I hl.1 gcls_7 (m_X8_same G l x1 v52 v53) gl_RL_56 gn_X8_same ⟨Nat.le_of_ble_eq_true rfl, Nat.le_of_ble_eq_true rfl⟩ rfl (gc4 (Nat.le_of_ble_eq_true rfl)) rfl dL_law_416 hf (fun v54 σ H locs cells slots I hf => ?_)
      refine W.eq (g2 := F0 m 419 ls [.int v54]) rfl ?_
      refine gw_aload_n hx hb dL_law_419 rfl (lv_at hl 2 rfl) ?_
      refine gw_aload_n hx hb dL_law_420 rfl (lv_at hl 0 rfl) ?_
      refine lv_iload_n hx hb dL_law_421 rfl (lv_at hl 3 rfl) ?_
      refine lv_iconst (v := 1) hx hb dL_law_422 kc_i_1 ?_
      refine lv_iadd hx hb dL_law_423 ?_
      refine gw_scr hX hbl hbB C I dL_law_424 hf (fun v55 hf => ?_)
      refine gw_aload_n hx hb dL_law_425 rfl (lv_at hl 0 rfl) ?_
      refine lv_iload_n hx hb dL_law_426 rfl (lv_at hl 3 rfl) ?_
      refine lv_iconst (v := 2) hx hb dL_law_427 kc_i_2 ?_
      refine lv_iadd hx hb dL_law_428 ?_
      refine gw_scr hX hbl hbB C I dL_law_429 hf (fun v56 hf => ?_)
      refine gw_callV (rest := [.int v54]) C I hl.1 gcls_8 (m_X9_same G l x2 v55 v56) gl_RL_59 gn_X9_same ⟨Nat.le_of_ble_eq_true rfl, Nat.le_of_ble_eq_true rfl⟩ rfl (gc4 (Nat.le_of_ble_eq_true rfl)) rfl dL_law_430 hf (fun v57 σ H locs cells slots I hf => ?_)
      refine W.eq (g2 := F0 m 433 ls [.int v57, .int v54]) rfl ?_
      refine lv_icmp_eq (tgt := 651) hx hb dL_law_433 (by decide) (fun hq => ?_) (fun hq => ?_)
      · have hf := gift hq hf
        refine lv_iinc (v := x3 + 7) (lv' := [(3, .int (x3 + 7)), (0, va_rf (some b)), (1, va_rf x1), (2, va_rf x2)]) hx hb dL_law_651 hl (k := 3) rfl rfl (by decide) (by cases x2 <;> rfl) (fun ls hl => ?_)
        refine lv_goto (tgt := 18) hx hb dL_law_654 (by decide) ?_
        exact hrec18 x1 x2 (x3 + 7) _ _ _ _ _ _ hf I (lv_sub hl [1, 2, 3, 0] rfl)
      · have hf := giff hq hf
        refine lv_iconst (v := 0) hx hb dL_law_436 kc_i_0 ?_
        exact gw_lawr C I hr hB hy dL_law_437 hf
    have hf := giff hq9 hf
    by_cases hq10 : v1 &&& 15 = 10
    · have hf := gift hq10 hf
      refine gw_sw (tgt := 438) hx hb dL_law_33 hq10 (by decide) (by decide) rfl (by decide) ?_
      refine gw_aload_n hx hb dL_law_438 rfl (lv_at hl 1 rfl) ?_
      refine gw_aload_n hx hb dL_law_439 rfl (lv_at hl 0 rfl) ?_
      refine lv_iload_n hx hb dL_law_440 rfl (lv_at hl 3 rfl) ?_
      refine lv_iconst (v := 1) hx hb dL_law_441 kc_i_1 ?_
      refine lv_iadd hx hb dL_law_442 ?_
      refine gw_scr hX hbl hbB C I dL_law_443 hf (fun v58 hf => ?_)
      refine lv_if_eq (tgt := 451) hx hb dL_law_444 (by decide) (fun hq => ?_) (fun hq => ?_)
      · have hf := gift hq hf
        refine lv_iconst (v := 0) hx hb dL_law_451 kc_i_0 ?_
        exact w_L_law_452 C hr hX hbl hbB hB hy hrec18 x1 x2 x3 x1 0 _ _ _ _ _ _ hf I (lv_sub hl [0, 1, 2, 3] rfl)
      · have hf := giff hq hf
        refine lv_iconst (v := 1) hx hb dL_law_447 kc_i_1 ?_
        refine lv_goto (tgt := 452) hx hb dL_law_448 (by decide) ?_
        exact w_L_law_452 C hr hX hbl hbB hB hy hrec18 x1 x2 x3 x1 1 _ _ _ _ _ _ hf I (lv_sub hl [0, 1, 2, 3] rfl)
    have hf := giff hq10 hf
    by_cases hq11 : v1 &&& 15 = 11
    · have hf := gift hq11 hf
      refine gw_sw (tgt := 477) hx hb dL_law_33 hq11 (by decide) (by decide) rfl (by decide) ?_
      refine gw_aload_n hx hb dL_law_477 rfl (lv_at hl 1 rfl) ?_
      refine gw_aload_n hx hb dL_law_478 rfl (lv_at hl 0 rfl) ?_
      refine lv_iload_n hx hb dL_law_479 rfl (lv_at hl 3 rfl) ?_
      refine lv_iconst (v := 1) hx hb dL_law_480 kc_i_1 ?_
      refine lv_iadd hx hb dL_law_481 ?_
      refine gw_scr hX hbl hbB C I dL_law_482 hf (fun v59 hf => ?_)
      refine gw_aload_n hx hb dL_law_483 rfl (lv_at hl 0 rfl) ?_
      refine lv_iload_n hx hb dL_law_484 rfl (lv_at hl 3 rfl) ?_
      refine lv_iconst (v := 2) hx hb dL_law_485 kc_i_2 ?_
      refine lv_iadd hx hb dL_law_486 ?_
      refine gw_scr hX hbl hbB C I dL_law_487 hf (fun v60 hf => ?_)
      refine gw_aload_n hx hb dL_law_488 rfl (lv_at hl 0 rfl) ?_
      refine lv_iload_n hx hb dL_law_489 rfl (lv_at hl 3 rfl) ?_
      refine lv_iconst (v := 3) hx hb dL_law_490 kc_i_3 ?_
      refine lv_iadd hx hb dL_law_491 ?_
      refine gw_scr hX hbl hbB C I dL_law_492 hf (fun v61 hf => ?_)
      refine gw_aload_n hx hb dL_law_493 rfl (lv_at hl 0 rfl) ?_
      refine lv_iload_n hx hb dL_law_494 rfl (lv_at hl 3 rfl) ?_
      refine lv_iconst (v := 4) hx hb dL_law_495 kc_i_4 ?_
      refine lv_iadd hx hb dL_law_496 ?_
      refine gw_scr hX hbl hbB C I dL_law_497 hf (fun v62 hf => ?_)
      refine gw_aload_n hx hb dL_law_498 rfl (lv_at hl 0 rfl) ?_
      refine lv_iload_n hx hb dL_law_499 rfl (lv_at hl 3 rfl) ?_
      refine lv_iconst (v := 5) hx hb dL_law_500 kc_i_5 ?_
      refine lv_iadd hx hb dL_law_501 ?_
      refine gw_scr hX hbl hbB C I dL_law_502 hf (fun v63 hf => ?_)
      refine gw_callV (rest := []) C I hl.1 gcls_7 (m_X8_resolve G l x1 v59 v60 v61 v62 v63) gl_RL_65 gn_X8_resolve ⟨Nat.le_of_ble_eq_true rfl, Nat.le_of_ble_eq_true rfl⟩ rfl (gc4 (Nat.le_of_ble_eq_true rfl)) rfl dL_law_503 hf (fun v64 σ H locs cells slots I hf => ?_)
      refine W.eq (g2 := F0 m 506 ls [.int v64]) rfl ?_
      refine gw_aload_n hx hb dL_law_506 rfl (lv_at hl 2 rfl) ?_
      refine gw_aload_n hx hb dL_law_507 rfl (lv_at hl 0 rfl) ?_
      refine lv_iload_n hx hb dL_law_508 rfl (lv_at hl 3 rfl) ?_
      refine lv_iconst (v := 1) hx hb dL_law_509 kc_i_1 ?_
      refine lv_iadd hx hb dL_law_510 ?_
      refine gw_scr hX hbl hbB C I dL_law_511 hf (fun v65 hf => ?_)
      refine gw_aload_n hx hb dL_law_512 rfl (lv_at hl 0 rfl) ?_
      refine lv_iload_n hx hb dL_law_513 rfl (lv_at hl 3 rfl) ?_
      refine lv_iconst (v := 2) hx hb dL_law_514 kc_i_2 ?_
      refine lv_iadd hx hb dL_law_515 ?_
      refine gw_scr hX hbl hbB C I dL_law_516 hf (fun v66 hf => ?_)
      refine gw_aload_n hx hb dL_law_517 rfl (lv_at hl 0 rfl) ?_
      refine lv_iload_n hx hb dL_law_518 rfl (lv_at hl 3 rfl) ?_
      refine lv_iconst (v := 3) hx hb dL_law_519 kc_i_3 ?_
      refine lv_iadd hx hb dL_law_520 ?_
      refine gw_scr hX hbl hbB C I dL_law_521 hf (fun v67 hf => ?_)
      refine gw_aload_n hx hb dL_law_522 rfl (lv_at hl 0 rfl) ?_
      refine lv_iload_n hx hb dL_law_523 rfl (lv_at hl 3 rfl) ?_
      refine lv_iconst (v := 4) hx hb dL_law_524 kc_i_4 ?_
      refine lv_iadd hx hb dL_law_525 ?_
      refine gw_scr hX hbl hbB C I dL_law_526 hf (fun v68 hf => ?_)
      refine gw_aload_n hx hb dL_law_527 rfl (lv_at hl 0 rfl) ?_
      refine lv_iload_n hx hb dL_law_528 rfl (lv_at hl 3 rfl) ?_
      refine lv_iconst (v := 5) hx hb dL_law_529 kc_i_5 ?_
      refine lv_iadd hx hb dL_law_530 ?_
      refine gw_scr hX hbl hbB C I dL_law_531 hf (fun v69 hf => ?_)
      refine gw_callV (rest := [.int v64]) C I hl.1 gcls_8 (m_X9_resolve G l x2 v65 v66 v67 v68 v69) gl_RL_69 gn_X9_resolve ⟨Nat.le_of_ble_eq_true rfl, Nat.le_of_ble_eq_true rfl⟩ rfl (gc4 (Nat.le_of_ble_eq_true rfl)) rfl dL_law_532 hf (fun v70 σ H locs cells slots I hf => ?_)
      refine W.eq (g2 := F0 m 535 ls [.int v70, .int v64]) rfl ?_
      refine lv_icmp_eq (tgt := 651) hx hb dL_law_535 (by decide) (fun hq => ?_) (fun hq => ?_)
      · have hf := gift hq hf
        refine lv_iinc (v := x3 + 7) (lv' := [(3, .int (x3 + 7)), (0, va_rf (some b)), (1, va_rf x1), (2, va_rf x2)]) hx hb dL_law_651 hl (k := 3) rfl rfl (by decide) (by cases x2 <;> rfl) (fun ls hl => ?_)
        refine lv_goto (tgt := 18) hx hb dL_law_654 (by decide) ?_
        exact hrec18 x1 x2 (x3 + 7) _ _ _ _ _ _ hf I (lv_sub hl [1, 2, 3, 0] rfl)
      · have hf := giff hq hf
        refine lv_iconst (v := 0) hx hb dL_law_538 kc_i_0 ?_
        exact gw_lawr C I hr hB hy dL_law_539 hf
    have hf := giff hq11 hf
    by_cases hq12 : v1 &&& 15 = 12
    · have hf := gift hq12 hf
      refine gw_sw (tgt := 540) hx hb dL_law_33 hq12 (by decide) (by decide) rfl (by decide) ?_
      refine gw_aload_n hx hb dL_law_540 rfl (lv_at hl 1 rfl) ?_
      refine gw_aload_n hx hb dL_law_541 rfl (lv_at hl 0 rfl) ?_
      refine lv_iload_n hx hb dL_law_542 rfl (lv_at hl 3 rfl) ?_
      refine lv_iconst (v := 1) hx hb dL_law_543 kc_i_1 ?_
      refine lv_iadd hx hb dL_law_544 ?_
      refine gw_scr hX hbl hbB C I dL_law_545 hf (fun v71 hf => ?_)
      refine gw_aload_n hx hb dL_law_546 rfl (lv_at hl 0 rfl) ?_
      refine lv_iload_n hx hb dL_law_547 rfl (lv_at hl 3 rfl) ?_
      refine lv_iconst (v := 2) hx hb dL_law_548 kc_i_2 ?_
      refine lv_iadd hx hb dL_law_549 ?_
      refine gw_scr hX hbl hbB C I dL_law_550 hf (fun v72 hf => ?_)
      refine gw_aload_n hx hb dL_law_551 rfl (lv_at hl 0 rfl) ?_
      refine lv_iload_n hx hb dL_law_552 rfl (lv_at hl 3 rfl) ?_
      refine lv_iconst (v := 3) hx hb dL_law_553 kc_i_3 ?_
      refine lv_iadd hx hb dL_law_554 ?_
      refine gw_scr hX hbl hbB C I dL_law_555 hf (fun v73 hf => ?_)
      refine gw_aload_n hx hb dL_law_556 rfl (lv_at hl 0 rfl) ?_
      refine lv_iload_n hx hb dL_law_557 rfl (lv_at hl 3 rfl) ?_
      refine lv_iconst (v := 4) hx hb dL_law_558 kc_i_4 ?_
      refine lv_iadd hx hb dL_law_559 ?_
      refine gw_scr hX hbl hbB C I dL_law_560 hf (fun v74 hf => ?_)
      refine gw_aload_n hx hb dL_law_561 rfl (lv_at hl 0 rfl) ?_
      refine lv_iload_n hx hb dL_law_562 rfl (lv_at hl 3 rfl) ?_
      refine lv_iconst (v := 5) hx hb dL_law_563 kc_i_5 ?_
      refine lv_iadd hx hb dL_law_564 ?_
      refine gw_scr hX hbl hbB C I dL_law_565 hf (fun v75 hf => ?_)
      refine gw_aload_n hx hb dL_law_566 rfl (lv_at hl 0 rfl) ?_
      refine lv_iload_n hx hb dL_law_567 rfl (lv_at hl 3 rfl) ?_
      refine lv_bipush (v := 6) hx hb dL_law_568 kc_b_6 ?_
      refine lv_iadd hx hb dL_law_570 ?_
      refine gw_scr hX hbl hbB C I dL_law_571 hf (fun v76 hf => ?_)
      refine gw_callV (rest := []) C I hl.1 gcls_7 (m_X8_range G l x1 v71 v72 v73 v74 v75 v76) gl_RL_70 gn_X8_range ⟨Nat.le_of_ble_eq_true rfl, Nat.le_of_ble_eq_true rfl⟩ rfl (gc4 (Nat.le_of_ble_eq_true rfl)) rfl dL_law_572 hf (fun v77 σ H locs cells slots I hf => ?_)
      refine W.eq (g2 := F0 m 575 ls [.int v77]) rfl ?_
      refine gw_aload_n hx hb dL_law_575 rfl (lv_at hl 2 rfl) ?_
      refine gw_aload_n hx hb dL_law_576 rfl (lv_at hl 0 rfl) ?_
      refine lv_iload_n hx hb dL_law_577 rfl (lv_at hl 3 rfl) ?_
      refine lv_iconst (v := 1) hx hb dL_law_578 kc_i_1 ?_
      refine lv_iadd hx hb dL_law_579 ?_
      refine gw_scr hX hbl hbB C I dL_law_580 hf (fun v78 hf => ?_)
      refine gw_aload_n hx hb dL_law_581 rfl (lv_at hl 0 rfl) ?_
      refine lv_iload_n hx hb dL_law_582 rfl (lv_at hl 3 rfl) ?_
      refine lv_iconst (v := 2) hx hb dL_law_583 kc_i_2 ?_
      refine lv_iadd hx hb dL_law_584 ?_
      refine gw_scr hX hbl hbB C I dL_law_585 hf (fun v79 hf => ?_)
      refine gw_aload_n hx hb dL_law_586 rfl (lv_at hl 0 rfl) ?_
      refine lv_iload_n hx hb dL_law_587 rfl (lv_at hl 3 rfl) ?_
      refine lv_iconst (v := 3) hx hb dL_law_588 kc_i_3 ?_
      refine lv_iadd hx hb dL_law_589 ?_
      refine gw_scr hX hbl hbB C I dL_law_590 hf (fun v80 hf => ?_)
      refine gw_aload_n hx hb dL_law_591 rfl (lv_at hl 0 rfl) ?_
      refine lv_iload_n hx hb dL_law_592 rfl (lv_at hl 3 rfl) ?_
      refine lv_iconst (v := 4) hx hb dL_law_593 kc_i_4 ?_
      refine lv_iadd hx hb dL_law_594 ?_
      refine gw_scr hX hbl hbB C I dL_law_595 hf (fun v81 hf => ?_)
      refine gw_aload_n hx hb dL_law_596 rfl (lv_at hl 0 rfl) ?_
      refine lv_iload_n hx hb dL_law_597 rfl (lv_at hl 3 rfl) ?_
      refine lv_iconst (v := 5) hx hb dL_law_598 kc_i_5 ?_
      refine lv_iadd hx hb dL_law_599 ?_
      refine gw_scr hX hbl hbB C I dL_law_600 hf (fun v82 hf => ?_)
      refine gw_aload_n hx hb dL_law_601 rfl (lv_at hl 0 rfl) ?_
      refine lv_iload_n hx hb dL_law_602 rfl (lv_at hl 3 rfl) ?_
      refine lv_bipush (v := 6) hx hb dL_law_603 kc_b_6 ?_
      refine lv_iadd hx hb dL_law_605 ?_
      refine gw_scr hX hbl hbB C I dL_law_606 hf (fun v83 hf => ?_)
      refine gw_callV (rest := [.int v77]) C I hl.1 gcls_8 (m_X9_range G l x2 v78 v79 v80 v81 v82 v83) gl_RL_74 gn_X9_range ⟨Nat.le_of_ble_eq_true rfl, Nat.le_of_ble_eq_true rfl⟩ rfl (gc4 (Nat.le_of_ble_eq_true rfl)) rfl dL_law_607 hf (fun v84 σ H locs cells slots I hf => ?_)
      refine W.eq (g2 := F0 m 610 ls [.int v84, .int v77]) rfl ?_
      refine lv_icmp_eq (tgt := 651) hx hb dL_law_610 (by decide) (fun hq => ?_) (fun hq => ?_)
      · have hf := gift hq hf
        refine lv_iinc (v := x3 + 7) (lv' := [(3, .int (x3 + 7)), (0, va_rf (some b)), (1, va_rf x1), (2, va_rf x2)]) hx hb dL_law_651 hl (k := 3) rfl rfl (by decide) (by cases x2 <;> rfl) (fun ls hl => ?_)
        refine lv_goto (tgt := 18) hx hb dL_law_654 (by decide) ?_
        exact hrec18 x1 x2 (x3 + 7) _ _ _ _ _ _ hf I (lv_sub hl [1, 2, 3, 0] rfl)
      · have hf := giff hq hf
        refine lv_iconst (v := 0) hx hb dL_law_613 kc_i_0 ?_
        exact gw_lawr C I hr hB hy dL_law_614 hf
    have hf := giff hq12 hf
    by_cases hq13 : v1 &&& 15 = 13
    · have hf := gift hq13 hf
      refine gw_sw (tgt := 615) hx hb dL_law_33 hq13 (by decide) (by decide) rfl (by decide) ?_
      refine gw_aload_n hx hb dL_law_615 rfl (lv_at hl 1 rfl) ?_
      refine gw_callV (rest := []) C I hl.1 gcls_7 (m_X8_clear G l x1) gl_RL_75 gn_X8_clear ⟨Nat.le_of_ble_eq_true rfl, Nat.le_of_ble_eq_true rfl⟩ rfl (gc4 (Nat.le_of_ble_eq_true rfl)) rfl dL_law_616 hf (fun v85 σ H locs cells slots I hf => ?_)
      refine W.eq (g2 := F0 m 619 ls [.int v85]) rfl ?_
      refine gw_aload_n hx hb dL_law_619 rfl (lv_at hl 2 rfl) ?_
      refine gw_callV (rest := [.int v85]) C I hl.1 gcls_8 (m_X9_clear G l x2) gl_RL_78 gn_X9_clear ⟨Nat.le_of_ble_eq_true rfl, Nat.le_of_ble_eq_true rfl⟩ rfl (gc4 (Nat.le_of_ble_eq_true rfl)) rfl dL_law_620 hf (fun v86 σ H locs cells slots I hf => ?_)
      refine W.eq (g2 := F0 m 623 ls [.int v86, .int v85]) rfl ?_
      refine lv_icmp_eq (tgt := 651) hx hb dL_law_623 (by decide) (fun hq => ?_) (fun hq => ?_)
      · have hf := gift hq hf
        refine lv_iinc (v := x3 + 7) (lv' := [(3, .int (x3 + 7)), (0, va_rf (some b)), (1, va_rf x1), (2, va_rf x2)]) hx hb dL_law_651 hl (k := 3) rfl rfl (by decide) (by cases x2 <;> rfl) (fun ls hl => ?_)
        refine lv_goto (tgt := 18) hx hb dL_law_654 (by decide) ?_
        exact hrec18 x1 x2 (x3 + 7) _ _ _ _ _ _ hf I (lv_sub hl [1, 2, 3, 0] rfl)
      · have hf := giff hq hf
        refine lv_iconst (v := 0) hx hb dL_law_626 kc_i_0 ?_
        exact gw_lawr C I hr hB hy dL_law_627 hf
    have hf := giff hq13 hf
    by_cases hq14 : v1 &&& 15 = 14
    · have hf := gift hq14 hf
      refine gw_sw (tgt := 628) hx hb dL_law_33 hq14 (by decide) (by decide) rfl (by decide) ?_
      refine gw_aload_n hx hb dL_law_628 rfl (lv_at hl 1 rfl) ?_
      refine gw_aload_n hx hb dL_law_629 rfl (lv_at hl 0 rfl) ?_
      refine lv_iload_n hx hb dL_law_630 rfl (lv_at hl 3 rfl) ?_
      refine lv_iconst (v := 1) hx hb dL_law_631 kc_i_1 ?_
      refine lv_iadd hx hb dL_law_632 ?_
      refine gw_scr hX hbl hbB C I dL_law_633 hf (fun v87 hf => ?_)
      refine gw_callV (rest := []) C I hl.1 gcls_7 (m_X8_pass G l x1 v87) gl_RL_79 gn_X8_pass ⟨Nat.le_of_ble_eq_true rfl, Nat.le_of_ble_eq_true rfl⟩ rfl (gc4 (Nat.le_of_ble_eq_true rfl)) rfl dL_law_634 hf (fun v88 σ H locs cells slots I hf => ?_)
      refine W.eq (g2 := F0 m 637 ls [.int v88]) rfl ?_
      refine gw_aload_n hx hb dL_law_637 rfl (lv_at hl 2 rfl) ?_
      refine gw_aload_n hx hb dL_law_638 rfl (lv_at hl 0 rfl) ?_
      refine lv_iload_n hx hb dL_law_639 rfl (lv_at hl 3 rfl) ?_
      refine lv_iconst (v := 1) hx hb dL_law_640 kc_i_1 ?_
      refine lv_iadd hx hb dL_law_641 ?_
      refine gw_scr hX hbl hbB C I dL_law_642 hf (fun v89 hf => ?_)
      refine gw_callV (rest := [.int v88]) C I hl.1 gcls_8 (m_X9_pass G l x2 v89) gl_RL_82 gn_X9_pass ⟨Nat.le_of_ble_eq_true rfl, Nat.le_of_ble_eq_true rfl⟩ rfl (gc4 (Nat.le_of_ble_eq_true rfl)) rfl dL_law_643 hf (fun v90 σ H locs cells slots I hf => ?_)
      refine W.eq (g2 := F0 m 646 ls [.int v90, .int v88]) rfl ?_
      refine lv_icmp_eq (tgt := 651) hx hb dL_law_646 (by decide) (fun hq => ?_) (fun hq => ?_)
      · have hf := gift hq hf
        refine lv_iinc (v := x3 + 7) (lv' := [(3, .int (x3 + 7)), (0, va_rf (some b)), (1, va_rf x1), (2, va_rf x2)]) hx hb dL_law_651 hl (k := 3) rfl rfl (by decide) (by cases x2 <;> rfl) (fun ls hl => ?_)
        refine lv_goto (tgt := 18) hx hb dL_law_654 (by decide) ?_
        exact hrec18 x1 x2 (x3 + 7) _ _ _ _ _ _ hf I (lv_sub hl [1, 2, 3, 0] rfl)
      · have hf := giff hq hf
        refine lv_iconst (v := 0) hx hb dL_law_649 kc_i_0 ?_
        exact gw_lawr C I hr hB hy dL_law_650 hf
    have hf := giff hq14 hf
    refine lv_tableOut (tgt := 651) hx hb dL_law_33 (by have := lv_neT hq0 (a := 0) (by decide); have := lv_neT hq1 (a := 1) (by decide); have := lv_neT hq2 (a := 2) (by decide); have := lv_neT hq3 (a := 3) (by decide); have := lv_neT hq4 (a := 4) (by decide); have := lv_neT hq5 (a := 5) (by decide); have := lv_neT hq6 (a := 6) (by decide); have := lv_neT hq7 (a := 7) (by decide); have := lv_neT hq8 (a := 8) (by decide); have := lv_neT hq9 (a := 9) (by decide); have := lv_neT hq10 (a := 10) (by decide); have := lv_neT hq11 (a := 11) (by decide); have := lv_neT hq12 (a := 12) (by decide); have := lv_neT hq13 (a := 13) (by decide); have := lv_neT hq14 (a := 14) (by decide); omega) (by decide) ?_
    refine lv_iinc (v := x3 + 7) (lv' := [(3, .int (x3 + 7)), (0, va_rf (some b)), (1, va_rf x1), (2, va_rf x2)]) hx hb dL_law_651 hl (k := 3) rfl rfl (by decide) (by cases x2 <;> rfl) (fun ls hl => ?_)
    refine lv_goto (tgt := 18) hx hb dL_law_654 (by decide) ?_
    exact hrec18 x1 x2 (x3 + 7) _ _ _ _ _ _ hf I (lv_sub hl [1, 2, 3, 0] rfl)
theorem w_L_law_L18 (C : gC G p s m #[Value.ref b] meth c cL_law 4 RL) (hr : meth.sig.returnType = ret) (hX : va_X b L xs s s.heap) (hbl : b < s.heap.size) (hbB : ¬ gA G b) (hB : gB G = s.heap.size) (hy : y.1 = 1)  : ∀ (n : Nat) (x1 : Option Nat) (x2 : Option Nat) (x3 : Int32), gJL G p l e s m b below meth c y 18 [(0, va_rf (some b)), (1, va_rf x1), (2, va_rf x2), (3, .int x3)] [] (f_L_law_L18 L xs  n x1 x2 x3) := by
  intro n
  induction n with
  | zero => intro x1 x2 x3 σ H locs cells slots ls hf; exact (gno_some hf).elim
  | succ n ih => intro x1 x2 x3; exact w_L_law_18 C hr hX hbl hbB hB hy  ih x1 x2 x3
set_option maxHeartbeats 4000000 in
set_option maxRecDepth 100000 in
theorem w_L_law_0 (C : gC G p s m #[Value.ref b] meth c cL_law 4 RL) (hr : meth.sig.returnType = ret) (hX : va_X b L xs s s.heap) (hbl : b < s.heap.size) (hbB : ¬ gA G b) (hB : gB G = s.heap.size) (hy : y.1 = 1)   : gJL G p l e s m b below meth c y 0 [(0, va_rf (some b))] [] (f_L_law L xs  ) := by
  have hx := C.1
  have hb := C.2.1
  intro σ H locs cells slots ls hf I hl
  unfold f_L_law at hf
  refine gw_new C I gcls_7 gdf_7 kw_839 dL_law_0 hf (fun v1 σ H locs cells slots I hf => ?_)
  refine lv_dup hx hb dL_law_3 (grc _) ?_
  refine gw_callI (rest := [va_rf v1]) (ci := 7) C I hl.1 (m_X8_init G l v1) gl_RL_9 ⟨rfl, kw_840⟩ ⟨Nat.le_of_ble_eq_true rfl, Nat.le_of_ble_eq_true rfl⟩ rfl (gc4 (Nat.le_of_ble_eq_true rfl)) rfl dL_law_4 hf (fun _ σ H locs cells slots I hf => ?_)
  refine W.eq (g2 := F0 m 7 ls [va_rf v1]) rfl ?_
  refine gw_astore_n (lv' := [(1, va_rf v1), (0, va_rf (some b))]) hx hb dL_law_7 rfl hl (by decide) rfl (fun ls hl => ?_)
  refine gw_new C I gcls_8 gdf_8 kw_841 dL_law_8 hf (fun v2 σ H locs cells slots I hf => ?_)
  refine lv_dup hx hb dL_law_11 (grc _) ?_
  refine gw_callI (rest := [va_rf v2]) (ci := 8) C I hl.1 (m_X9_init G l v2) gl_RL_12 ⟨rfl, kw_842⟩ ⟨Nat.le_of_ble_eq_true rfl, Nat.le_of_ble_eq_true rfl⟩ rfl (gc4 (Nat.le_of_ble_eq_true rfl)) rfl dL_law_12 hf (fun _ σ H locs cells slots I hf => ?_)
  refine W.eq (g2 := F0 m 15 ls [va_rf v2]) rfl ?_
  refine gw_astore_n (lv' := [(2, va_rf v2), (1, va_rf v1), (0, va_rf (some b))]) hx hb dL_law_15 rfl hl (by decide) (by cases v1 <;> rfl) (fun ls hl => ?_)
  refine lv_iconst (v := 0) hx hb dL_law_16 kc_i_0 ?_
  refine lv_istore_n (lv' := [(3, .int 0), (2, va_rf v2), (1, va_rf v1), (0, va_rf (some b))]) hx hb dL_law_17 rfl hl (by decide) (by cases v2 <;> rfl) (fun ls hl => ?_)
  exact w_L_law_L18 C hr hX hbl hbB hB hy  _ v1 v2 0 _ _ _ _ _ _ hf I (lv_sub hl [3, 2, 1, 0] rfl)
end S_L_law

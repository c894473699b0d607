theorem d_Law_law_0 : decode (fnB F_Law_law) 0 = .ok (.new 7, 3) := by decide +kernel
theorem d_Law_law_3 : decode (fnB F_Law_law) 3 = .ok (.dup, 1) := by decide +kernel
theorem d_Law_law_4 : decode (fnB F_Law_law) 4 = .ok (.invokespecial 9, 3) := by decide +kernel
theorem d_Law_law_7 : decode (fnB F_Law_law) 7 = .ok (.astore_n 1, 1) := by decide +kernel
theorem d_Law_law_8 : decode (fnB F_Law_law) 8 = .ok (.new 10, 3) := by decide +kernel
theorem d_Law_law_11 : decode (fnB F_Law_law) 11 = .ok (.dup, 1) := by decide +kernel
theorem d_Law_law_12 : decode (fnB F_Law_law) 12 = .ok (.invokespecial 12, 3) := by decide +kernel
theorem d_Law_law_15 : decode (fnB F_Law_law) 15 = .ok (.astore_n 2, 1) := by decide +kernel
theorem d_Law_law_16 : decode (fnB F_Law_law) 16 = .ok (.iconst 0, 1) := by decide +kernel
theorem d_Law_law_17 : decode (fnB F_Law_law) 17 = .ok (.istore_n 3, 1) := by decide +kernel
theorem d_Law_law_18 : decode (fnB F_Law_law) 18 = .ok (.iload_n 3, 1) := by decide +kernel
theorem d_Law_law_19 : decode (fnB F_Law_law) 19 = .ok (.aload_n 0, 1) := by decide +kernel
theorem d_Law_law_20 : decode (fnB F_Law_law) 20 = .ok (.arraylength, 1) := by decide +kernel
theorem d_Law_law_21 : decode (fnB F_Law_law) 21 = .ok (.iconst 4, 1) := by decide +kernel
theorem d_Law_law_22 : decode (fnB F_Law_law) 22 = .ok (.isub, 1) := by decide +kernel
theorem d_Law_law_23 : decode (fnB F_Law_law) 23 = .ok (.if_icmp .gt 865, 3) := by decide +kernel
theorem d_Law_law_26 : decode (fnB F_Law_law) 26 = .ok (.aload_n 0, 1) := by decide +kernel
theorem d_Law_law_27 : decode (fnB F_Law_law) 27 = .ok (.iload_n 3, 1) := by decide +kernel
theorem d_Law_law_28 : decode (fnB F_Law_law) 28 = .ok (.iaload, 1) := by decide +kernel
theorem d_Law_law_29 : decode (fnB F_Law_law) 29 = .ok (.bipush 31, 2) := by decide +kernel
theorem d_Law_law_31 : decode (fnB F_Law_law) 31 = .ok (.iand, 1) := by decide +kernel
theorem d_Law_law_32 : decode (fnB F_Law_law) 32 = .ok (.tableswitch 850 0 25 #[120, 183, 196, 219, 232, 255, 278, 311, 354, 397, 410, 433, 456, 489, 532, 555, 588, 621, 654, 678, 692, 725, 748, 781, 814, 837], 120) := by decide +kernel
theorem d_Law_law_152 : decode (fnB F_Law_law) 152 = .ok (.aload_n 1, 1) := by decide +kernel
theorem d_Law_law_153 : decode (fnB F_Law_law) 153 = .ok (.aload_n 0, 1) := by decide +kernel
theorem d_Law_law_154 : decode (fnB F_Law_law) 154 = .ok (.iload_n 3, 1) := by decide +kernel
theorem d_Law_law_155 : decode (fnB F_Law_law) 155 = .ok (.iconst 1, 1) := by decide +kernel
theorem d_Law_law_156 : decode (fnB F_Law_law) 156 = .ok (.iadd, 1) := by decide +kernel
theorem d_Law_law_157 : decode (fnB F_Law_law) 157 = .ok (.iaload, 1) := by decide +kernel
theorem d_Law_law_158 : decode (fnB F_Law_law) 158 = .ok (.i2l, 1) := by decide +kernel
theorem d_Law_law_159 : decode (fnB F_Law_law) 159 = .ok (.bipush 32, 2) := by decide +kernel
theorem d_Law_law_161 : decode (fnB F_Law_law) 161 = .ok (.lshl, 1) := by decide +kernel
theorem d_Law_law_162 : decode (fnB F_Law_law) 162 = .ok (.aload_n 0, 1) := by decide +kernel
theorem d_Law_law_163 : decode (fnB F_Law_law) 163 = .ok (.iload_n 3, 1) := by decide +kernel
theorem d_Law_law_164 : decode (fnB F_Law_law) 164 = .ok (.iconst 2, 1) := by decide +kernel
theorem d_Law_law_165 : decode (fnB F_Law_law) 165 = .ok (.iadd, 1) := by decide +kernel
theorem d_Law_law_166 : decode (fnB F_Law_law) 166 = .ok (.iaload, 1) := by decide +kernel
theorem d_Law_law_167 : decode (fnB F_Law_law) 167 = .ok (.i2l, 1) := by decide +kernel
theorem d_Law_law_168 : decode (fnB F_Law_law) 168 = .ok (.ldc2_w 13, 3) := by decide +kernel
theorem d_Law_law_171 : decode (fnB F_Law_law) 171 = .ok (.land, 1) := by decide +kernel
theorem d_Law_law_172 : decode (fnB F_Law_law) 172 = .ok (.lor, 1) := by decide +kernel
theorem d_Law_law_173 : decode (fnB F_Law_law) 173 = .ok (.aload_n 0, 1) := by decide +kernel
theorem d_Law_law_174 : decode (fnB F_Law_law) 174 = .ok (.iload_n 3, 1) := by decide +kernel
theorem d_Law_law_175 : decode (fnB F_Law_law) 175 = .ok (.iconst 3, 1) := by decide +kernel
theorem d_Law_law_176 : decode (fnB F_Law_law) 176 = .ok (.iadd, 1) := by decide +kernel
theorem d_Law_law_177 : decode (fnB F_Law_law) 177 = .ok (.iaload, 1) := by decide +kernel
theorem d_Law_law_178 : decode (fnB F_Law_law) 178 = .ok (.invokevirtual 15, 3) := by decide +kernel
theorem d_Law_law_181 : decode (fnB F_Law_law) 181 = .ok (.aload_n 2, 1) := by decide +kernel
theorem d_Law_law_182 : decode (fnB F_Law_law) 182 = .ok (.aload_n 0, 1) := by decide +kernel
theorem d_Law_law_183 : decode (fnB F_Law_law) 183 = .ok (.iload_n 3, 1) := by decide +kernel
theorem d_Law_law_184 : decode (fnB F_Law_law) 184 = .ok (.iconst 1, 1) := by decide +kernel
theorem d_Law_law_185 : decode (fnB F_Law_law) 185 = .ok (.iadd, 1) := by decide +kernel
theorem d_Law_law_186 : decode (fnB F_Law_law) 186 = .ok (.iaload, 1) := by decide +kernel
theorem d_Law_law_187 : decode (fnB F_Law_law) 187 = .ok (.i2l, 1) := by decide +kernel
theorem d_Law_law_188 : decode (fnB F_Law_law) 188 = .ok (.bipush 32, 2) := by decide +kernel
theorem d_Law_law_190 : decode (fnB F_Law_law) 190 = .ok (.lshl, 1) := by decide +kernel
theorem d_Law_law_191 : decode (fnB F_Law_law) 191 = .ok (.aload_n 0, 1) := by decide +kernel
theorem d_Law_law_192 : decode (fnB F_Law_law) 192 = .ok (.iload_n 3, 1) := by decide +kernel
theorem d_Law_law_193 : decode (fnB F_Law_law) 193 = .ok (.iconst 2, 1) := by decide +kernel
theorem d_Law_law_194 : decode (fnB F_Law_law) 194 = .ok (.iadd, 1) := by decide +kernel
theorem d_Law_law_195 : decode (fnB F_Law_law) 195 = .ok (.iaload, 1) := by decide +kernel
theorem d_Law_law_196 : decode (fnB F_Law_law) 196 = .ok (.i2l, 1) := by decide +kernel
theorem d_Law_law_197 : decode (fnB F_Law_law) 197 = .ok (.ldc2_w 13, 3) := by decide +kernel
theorem d_Law_law_200 : decode (fnB F_Law_law) 200 = .ok (.land, 1) := by decide +kernel
theorem d_Law_law_201 : decode (fnB F_Law_law) 201 = .ok (.lor, 1) := by decide +kernel
theorem d_Law_law_202 : decode (fnB F_Law_law) 202 = .ok (.aload_n 0, 1) := by decide +kernel
theorem d_Law_law_203 : decode (fnB F_Law_law) 203 = .ok (.iload_n 3, 1) := by decide +kernel
theorem d_Law_law_204 : decode (fnB F_Law_law) 204 = .ok (.iconst 3, 1) := by decide +kernel
theorem d_Law_law_205 : decode (fnB F_Law_law) 205 = .ok (.iadd, 1) := by decide +kernel
theorem d_Law_law_206 : decode (fnB F_Law_law) 206 = .ok (.iaload, 1) := by decide +kernel
theorem d_Law_law_207 : decode (fnB F_Law_law) 207 = .ok (.invokevirtual 19, 3) := by decide +kernel
theorem d_Law_law_210 : decode (fnB F_Law_law) 210 = .ok (.if_icmp .eq 672, 3) := by decide +kernel
theorem d_Law_law_213 : decode (fnB F_Law_law) 213 = .ok (.iconst 0, 1) := by decide +kernel
theorem d_Law_law_214 : decode (fnB F_Law_law) 214 = .ok (.ireturn, 1) := by decide +kernel
theorem d_Law_law_215 : decode (fnB F_Law_law) 215 = .ok (.aload_n 1, 1) := by decide +kernel
theorem d_Law_law_216 : decode (fnB F_Law_law) 216 = .ok (.invokevirtual 20, 3) := by decide +kernel
theorem d_Law_law_219 : decode (fnB F_Law_law) 219 = .ok (.aload_n 2, 1) := by decide +kernel
theorem d_Law_law_220 : decode (fnB F_Law_law) 220 = .ok (.invokevirtual 24, 3) := by decide +kernel
theorem d_Law_law_223 : decode (fnB F_Law_law) 223 = .ok (.if_icmp .eq 659, 3) := by decide +kernel
theorem d_Law_law_226 : decode (fnB F_Law_law) 226 = .ok (.iconst 0, 1) := by decide +kernel
theorem d_Law_law_227 : decode (fnB F_Law_law) 227 = .ok (.ireturn, 1) := by decide +kernel
theorem d_Law_law_228 : decode (fnB F_Law_law) 228 = .ok (.aload_n 1, 1) := by decide +kernel
theorem d_Law_law_229 : decode (fnB F_Law_law) 229 = .ok (.aload_n 0, 1) := by decide +kernel
theorem d_Law_law_230 : decode (fnB F_Law_law) 230 = .ok (.iload_n 3, 1) := by decide +kernel
theorem d_Law_law_231 : decode (fnB F_Law_law) 231 = .ok (.iconst 1, 1) := by decide +kernel
theorem d_Law_law_232 : decode (fnB F_Law_law) 232 = .ok (.iadd, 1) := by decide +kernel
theorem d_Law_law_233 : decode (fnB F_Law_law) 233 = .ok (.iaload, 1) := by decide +kernel
theorem d_Law_law_234 : decode (fnB F_Law_law) 234 = .ok (.invokevirtual 25, 3) := by decide +kernel
theorem d_Law_law_237 : decode (fnB F_Law_law) 237 = .ok (.aload_n 2, 1) := by decide +kernel
theorem d_Law_law_238 : decode (fnB F_Law_law) 238 = .ok (.aload_n 0, 1) := by decide +kernel
theorem d_Law_law_239 : decode (fnB F_Law_law) 239 = .ok (.iload_n 3, 1) := by decide +kernel
theorem d_Law_law_240 : decode (fnB F_Law_law) 240 = .ok (.iconst 1, 1) := by decide +kernel
theorem d_Law_law_241 : decode (fnB F_Law_law) 241 = .ok (.iadd, 1) := by decide +kernel
theorem d_Law_law_242 : decode (fnB F_Law_law) 242 = .ok (.iaload, 1) := by decide +kernel
theorem d_Law_law_243 : decode (fnB F_Law_law) 243 = .ok (.invokevirtual 29, 3) := by decide +kernel
theorem d_Law_law_246 : decode (fnB F_Law_law) 246 = .ok (.if_icmp .eq 636, 3) := by decide +kernel
theorem d_Law_law_249 : decode (fnB F_Law_law) 249 = .ok (.iconst 0, 1) := by decide +kernel
theorem d_Law_law_250 : decode (fnB F_Law_law) 250 = .ok (.ireturn, 1) := by decide +kernel
theorem d_Law_law_251 : decode (fnB F_Law_law) 251 = .ok (.aload_n 1, 1) := by decide +kernel
theorem d_Law_law_252 : decode (fnB F_Law_law) 252 = .ok (.invokevirtual 30, 3) := by decide +kernel
theorem d_Law_law_255 : decode (fnB F_Law_law) 255 = .ok (.aload_n 2, 1) := by decide +kernel
theorem d_Law_law_256 : decode (fnB F_Law_law) 256 = .ok (.invokevirtual 33, 3) := by decide +kernel
theorem d_Law_law_259 : decode (fnB F_Law_law) 259 = .ok (.if_icmp .eq 623, 3) := by decide +kernel
theorem d_Law_law_262 : decode (fnB F_Law_law) 262 = .ok (.iconst 0, 1) := by decide +kernel
theorem d_Law_law_263 : decode (fnB F_Law_law) 263 = .ok (.ireturn, 1) := by decide +kernel
theorem d_Law_law_264 : decode (fnB F_Law_law) 264 = .ok (.aload_n 1, 1) := by decide +kernel
theorem d_Law_law_265 : decode (fnB F_Law_law) 265 = .ok (.aload_n 0, 1) := by decide +kernel
theorem d_Law_law_266 : decode (fnB F_Law_law) 266 = .ok (.iload_n 3, 1) := by decide +kernel
theorem d_Law_law_267 : decode (fnB F_Law_law) 267 = .ok (.iconst 1, 1) := by decide +kernel
theorem d_Law_law_268 : decode (fnB F_Law_law) 268 = .ok (.iadd, 1) := by decide +kernel
theorem d_Law_law_269 : decode (fnB F_Law_law) 269 = .ok (.iaload, 1) := by decide +kernel
theorem d_Law_law_270 : decode (fnB F_Law_law) 270 = .ok (.invokevirtual 34, 3) := by decide +kernel
theorem d_Law_law_273 : decode (fnB F_Law_law) 273 = .ok (.aload_n 2, 1) := by decide +kernel
theorem d_Law_law_274 : decode (fnB F_Law_law) 274 = .ok (.aload_n 0, 1) := by decide +kernel
theorem d_Law_law_275 : decode (fnB F_Law_law) 275 = .ok (.iload_n 3, 1) := by decide +kernel
theorem d_Law_law_276 : decode (fnB F_Law_law) 276 = .ok (.iconst 1, 1) := by decide +kernel
theorem d_Law_law_277 : decode (fnB F_Law_law) 277 = .ok (.iadd, 1) := by decide +kernel
theorem d_Law_law_278 : decode (fnB F_Law_law) 278 = .ok (.iaload, 1) := by decide +kernel
theorem d_Law_law_279 : decode (fnB F_Law_law) 279 = .ok (.invokevirtual 37, 3) := by decide +kernel
theorem d_Law_law_282 : decode (fnB F_Law_law) 282 = .ok (.if_icmp .eq 600, 3) := by decide +kernel
theorem d_Law_law_285 : decode (fnB F_Law_law) 285 = .ok (.iconst 0, 1) := by decide +kernel
theorem d_Law_law_286 : decode (fnB F_Law_law) 286 = .ok (.ireturn, 1) := by decide +kernel
theorem d_Law_law_287 : decode (fnB F_Law_law) 287 = .ok (.aload_n 1, 1) := by decide +kernel
theorem d_Law_law_288 : decode (fnB F_Law_law) 288 = .ok (.aload_n 0, 1) := by decide +kernel
theorem d_Law_law_289 : decode (fnB F_Law_law) 289 = .ok (.iload_n 3, 1) := by decide +kernel
theorem d_Law_law_290 : decode (fnB F_Law_law) 290 = .ok (.iconst 1, 1) := by decide +kernel
theorem d_Law_law_291 : decode (fnB F_Law_law) 291 = .ok (.iadd, 1) := by decide +kernel
theorem d_Law_law_292 : decode (fnB F_Law_law) 292 = .ok (.iaload, 1) := by decide +kernel
theorem d_Law_law_293 : decode (fnB F_Law_law) 293 = .ok (.invokevirtual 38, 3) := by decide +kernel
theorem d_Law_law_296 : decode (fnB F_Law_law) 296 = .ok (.aload_n 2, 1) := by decide +kernel
theorem d_Law_law_297 : decode (fnB F_Law_law) 297 = .ok (.aload_n 0, 1) := by decide +kernel
theorem d_Law_law_298 : decode (fnB F_Law_law) 298 = .ok (.iload_n 3, 1) := by decide +kernel
theorem d_Law_law_299 : decode (fnB F_Law_law) 299 = .ok (.iconst 1, 1) := by decide +kernel
theorem d_Law_law_300 : decode (fnB F_Law_law) 300 = .ok (.iadd, 1) := by decide +kernel
theorem d_Law_law_301 : decode (fnB F_Law_law) 301 = .ok (.iaload, 1) := by decide +kernel
theorem d_Law_law_302 : decode (fnB F_Law_law) 302 = .ok (.invokevirtual 41, 3) := by decide +kernel
theorem d_Law_law_305 : decode (fnB F_Law_law) 305 = .ok (.if_icmp .eq 577, 3) := by decide +kernel
theorem d_Law_law_308 : decode (fnB F_Law_law) 308 = .ok (.iconst 0, 1) := by decide +kernel
theorem d_Law_law_309 : decode (fnB F_Law_law) 309 = .ok (.ireturn, 1) := by decide +kernel
theorem d_Law_law_310 : decode (fnB F_Law_law) 310 = .ok (.aload_n 1, 1) := by decide +kernel
theorem d_Law_law_311 : decode (fnB F_Law_law) 311 = .ok (.aload_n 0, 1) := by decide +kernel
theorem d_Law_law_312 : decode (fnB F_Law_law) 312 = .ok (.iload_n 3, 1) := by decide +kernel
theorem d_Law_law_313 : decode (fnB F_Law_law) 313 = .ok (.iconst 1, 1) := by decide +kernel
theorem d_Law_law_314 : decode (fnB F_Law_law) 314 = .ok (.iadd, 1) := by decide +kernel
theorem d_Law_law_315 : decode (fnB F_Law_law) 315 = .ok (.iaload, 1) := by decide +kernel
theorem d_Law_law_316 : decode (fnB F_Law_law) 316 = .ok (.aload_n 0, 1) := by decide +kernel
theorem d_Law_law_317 : decode (fnB F_Law_law) 317 = .ok (.iload_n 3, 1) := by decide +kernel
theorem d_Law_law_318 : decode (fnB F_Law_law) 318 = .ok (.iconst 2, 1) := by decide +kernel
theorem d_Law_law_319 : decode (fnB F_Law_law) 319 = .ok (.iadd, 1) := by decide +kernel
theorem d_Law_law_320 : decode (fnB F_Law_law) 320 = .ok (.iaload, 1) := by decide +kernel
theorem d_Law_law_321 : decode (fnB F_Law_law) 321 = .ok (.invokevirtual 42, 3) := by decide +kernel
theorem d_Law_law_324 : decode (fnB F_Law_law) 324 = .ok (.aload_n 2, 1) := by decide +kernel
theorem d_Law_law_325 : decode (fnB F_Law_law) 325 = .ok (.aload_n 0, 1) := by decide +kernel
theorem d_Law_law_326 : decode (fnB F_Law_law) 326 = .ok (.iload_n 3, 1) := by decide +kernel
theorem d_Law_law_327 : decode (fnB F_Law_law) 327 = .ok (.iconst 1, 1) := by decide +kernel
theorem d_Law_law_328 : decode (fnB F_Law_law) 328 = .ok (.iadd, 1) := by decide +kernel
theorem d_Law_law_329 : decode (fnB F_Law_law) 329 = .ok (.iaload, 1) := by decide +kernel
theorem d_Law_law_330 : decode (fnB F_Law_law) 330 = .ok (.aload_n 0, 1) := by decide +kernel
theorem d_Law_law_331 : decode (fnB F_Law_law) 331 = .ok (.iload_n 3, 1) := by decide +kernel
theorem d_Law_law_332 : decode (fnB F_Law_law) 332 = .ok (.iconst 2, 1) := by decide +kernel
theorem d_Law_law_333 : decode (fnB F_Law_law) 333 = .ok (.iadd, 1) := by decide +kernel
theorem d_Law_law_334 : decode (fnB F_Law_law) 334 = .ok (.iaload, 1) := by decide +kernel
theorem d_Law_law_335 : decode (fnB F_Law_law) 335 = .ok (.invokevirtual 46, 3) := by decide +kernel
theorem d_Law_law_338 : decode (fnB F_Law_law) 338 = .ok (.if_icmp .eq 544, 3) := by decide +kernel
theorem d_Law_law_341 : decode (fnB F_Law_law) 341 = .ok (.iconst 0, 1) := by decide +kernel
theorem d_Law_law_342 : decode (fnB F_Law_law) 342 = .ok (.ireturn, 1) := by decide +kernel
theorem d_Law_law_343 : decode (fnB F_Law_law) 343 = .ok (.aload_n 1, 1) := by decide +kernel
theorem d_Law_law_344 : decode (fnB F_Law_law) 344 = .ok (.aload_n 0, 1) := by decide +kernel
theorem d_Law_law_345 : decode (fnB F_Law_law) 345 = .ok (.iload_n 3, 1) := by decide +kernel
theorem d_Law_law_346 : decode (fnB F_Law_law) 346 = .ok (.iconst 1, 1) := by decide +kernel
theorem d_Law_law_347 : decode (fnB F_Law_law) 347 = .ok (.iadd, 1) := by decide +kernel
theorem d_Law_law_348 : decode (fnB F_Law_law) 348 = .ok (.iaload, 1) := by decide +kernel
theorem d_Law_law_349 : decode (fnB F_Law_law) 349 = .ok (.aload_n 0, 1) := by decide +kernel
theorem d_Law_law_350 : decode (fnB F_Law_law) 350 = .ok (.iload_n 3, 1) := by decide +kernel
theorem d_Law_law_351 : decode (fnB F_Law_law) 351 = .ok (.iconst 2, 1) := by decide +kernel
theorem d_Law_law_352 : decode (fnB F_Law_law) 352 = .ok (.iadd, 1) := by decide +kernel
theorem d_Law_law_353 : decode (fnB F_Law_law) 353 = .ok (.iaload, 1) := by decide +kernel
theorem d_Law_law_354 : decode (fnB F_Law_law) 354 = .ok (.aload_n 0, 1) := by decide +kernel
theorem d_Law_law_355 : decode (fnB F_Law_law) 355 = .ok (.iload_n 3, 1) := by decide +kernel
theorem d_Law_law_356 : decode (fnB F_Law_law) 356 = .ok (.iconst 3, 1) := by decide +kernel
theorem d_Law_law_357 : decode (fnB F_Law_law) 357 = .ok (.iadd, 1) := by decide +kernel
theorem d_Law_law_358 : decode (fnB F_Law_law) 358 = .ok (.iaload, 1) := by decide +kernel
theorem d_Law_law_359 : decode (fnB F_Law_law) 359 = .ok (.invokevirtual 47, 3) := by decide +kernel
theorem d_Law_law_362 : decode (fnB F_Law_law) 362 = .ok (.aload_n 2, 1) := by decide +kernel
theorem d_Law_law_363 : decode (fnB F_Law_law) 363 = .ok (.aload_n 0, 1) := by decide +kernel
theorem d_Law_law_364 : decode (fnB F_Law_law) 364 = .ok (.iload_n 3, 1) := by decide +kernel
theorem d_Law_law_365 : decode (fnB F_Law_law) 365 = .ok (.iconst 1, 1) := by decide +kernel
theorem d_Law_law_366 : decode (fnB F_Law_law) 366 = .ok (.iadd, 1) := by decide +kernel
theorem d_Law_law_367 : decode (fnB F_Law_law) 367 = .ok (.iaload, 1) := by decide +kernel
theorem d_Law_law_368 : decode (fnB F_Law_law) 368 = .ok (.aload_n 0, 1) := by decide +kernel
theorem d_Law_law_369 : decode (fnB F_Law_law) 369 = .ok (.iload_n 3, 1) := by decide +kernel
theorem d_Law_law_370 : decode (fnB F_Law_law) 370 = .ok (.iconst 2, 1) := by decide +kernel
theorem d_Law_law_371 : decode (fnB F_Law_law) 371 = .ok (.iadd, 1) := by decide +kernel
theorem d_Law_law_372 : decode (fnB F_Law_law) 372 = .ok (.iaload, 1) := by decide +kernel
theorem d_Law_law_373 : decode (fnB F_Law_law) 373 = .ok (.aload_n 0, 1) := by decide +kernel
theorem d_Law_law_374 : decode (fnB F_Law_law) 374 = .ok (.iload_n 3, 1) := by decide +kernel
theorem d_Law_law_375 : decode (fnB F_Law_law) 375 = .ok (.iconst 3, 1) := by decide +kernel
theorem d_Law_law_376 : decode (fnB F_Law_law) 376 = .ok (.iadd, 1) := by decide +kernel
theorem d_Law_law_377 : decode (fnB F_Law_law) 377 = .ok (.iaload, 1) := by decide +kernel
theorem d_Law_law_378 : decode (fnB F_Law_law) 378 = .ok (.invokevirtual 51, 3) := by decide +kernel
theorem d_Law_law_381 : decode (fnB F_Law_law) 381 = .ok (.if_icmp .eq 501, 3) := by decide +kernel
theorem d_Law_law_384 : decode (fnB F_Law_law) 384 = .ok (.iconst 0, 1) := by decide +kernel
theorem d_Law_law_385 : decode (fnB F_Law_law) 385 = .ok (.ireturn, 1) := by decide +kernel
theorem d_Law_law_386 : decode (fnB F_Law_law) 386 = .ok (.aload_n 1, 1) := by decide +kernel
theorem d_Law_law_387 : decode (fnB F_Law_law) 387 = .ok (.aload_n 0, 1) := by decide +kernel
theorem d_Law_law_388 : decode (fnB F_Law_law) 388 = .ok (.iload_n 3, 1) := by decide +kernel
theorem d_Law_law_389 : decode (fnB F_Law_law) 389 = .ok (.iconst 1, 1) := by decide +kernel
theorem d_Law_law_390 : decode (fnB F_Law_law) 390 = .ok (.iadd, 1) := by decide +kernel
theorem d_Law_law_391 : decode (fnB F_Law_law) 391 = .ok (.iaload, 1) := by decide +kernel
theorem d_Law_law_392 : decode (fnB F_Law_law) 392 = .ok (.aload_n 0, 1) := by decide +kernel
theorem d_Law_law_393 : decode (fnB F_Law_law) 393 = .ok (.iload_n 3, 1) := by decide +kernel
theorem d_Law_law_394 : decode (fnB F_Law_law) 394 = .ok (.iconst 2, 1) := by decide +kernel
theorem d_Law_law_395 : decode (fnB F_Law_law) 395 = .ok (.iadd, 1) := by decide +kernel
theorem d_Law_law_396 : decode (fnB F_Law_law) 396 = .ok (.iaload, 1) := by decide +kernel
theorem d_Law_law_397 : decode (fnB F_Law_law) 397 = .ok (.aload_n 0, 1) := by decide +kernel
theorem d_Law_law_398 : decode (fnB F_Law_law) 398 = .ok (.iload_n 3, 1) := by decide +kernel
theorem d_Law_law_399 : decode (fnB F_Law_law) 399 = .ok (.iconst 3, 1) := by decide +kernel
theorem d_Law_law_400 : decode (fnB F_Law_law) 400 = .ok (.iadd, 1) := by decide +kernel
theorem d_Law_law_401 : decode (fnB F_Law_law) 401 = .ok (.iaload, 1) := by decide +kernel
theorem d_Law_law_402 : decode (fnB F_Law_law) 402 = .ok (.invokevirtual 52, 3) := by decide +kernel
theorem d_Law_law_405 : decode (fnB F_Law_law) 405 = .ok (.aload_n 2, 1) := by decide +kernel
theorem d_Law_law_406 : decode (fnB F_Law_law) 406 = .ok (.aload_n 0, 1) := by decide +kernel
theorem d_Law_law_407 : decode (fnB F_Law_law) 407 = .ok (.iload_n 3, 1) := by decide +kernel
theorem d_Law_law_408 : decode (fnB F_Law_law) 408 = .ok (.iconst 1, 1) := by decide +kernel
theorem d_Law_law_409 : decode (fnB F_Law_law) 409 = .ok (.iadd, 1) := by decide +kernel
theorem d_Law_law_410 : decode (fnB F_Law_law) 410 = .ok (.iaload, 1) := by decide +kernel
theorem d_Law_law_411 : decode (fnB F_Law_law) 411 = .ok (.aload_n 0, 1) := by decide +kernel
theorem d_Law_law_412 : decode (fnB F_Law_law) 412 = .ok (.iload_n 3, 1) := by decide +kernel
theorem d_Law_law_413 : decode (fnB F_Law_law) 413 = .ok (.iconst 2, 1) := by decide +kernel
theorem d_Law_law_414 : decode (fnB F_Law_law) 414 = .ok (.iadd, 1) := by decide +kernel
theorem d_Law_law_415 : decode (fnB F_Law_law) 415 = .ok (.iaload, 1) := by decide +kernel
theorem d_Law_law_416 : decode (fnB F_Law_law) 416 = .ok (.aload_n 0, 1) := by decide +kernel
theorem d_Law_law_417 : decode (fnB F_Law_law) 417 = .ok (.iload_n 3, 1) := by decide +kernel
theorem d_Law_law_418 : decode (fnB F_Law_law) 418 = .ok (.iconst 3, 1) := by decide +kernel
theorem d_Law_law_419 : decode (fnB F_Law_law) 419 = .ok (.iadd, 1) := by decide +kernel
theorem d_Law_law_420 : decode (fnB F_Law_law) 420 = .ok (.iaload, 1) := by decide +kernel
theorem d_Law_law_421 : decode (fnB F_Law_law) 421 = .ok (.invokevirtual 55, 3) := by decide +kernel
theorem d_Law_law_424 : decode (fnB F_Law_law) 424 = .ok (.if_icmp .eq 458, 3) := by decide +kernel
theorem d_Law_law_427 : decode (fnB F_Law_law) 427 = .ok (.iconst 0, 1) := by decide +kernel
theorem d_Law_law_428 : decode (fnB F_Law_law) 428 = .ok (.ireturn, 1) := by decide +kernel
theorem d_Law_law_429 : decode (fnB F_Law_law) 429 = .ok (.aload_n 1, 1) := by decide +kernel
theorem d_Law_law_430 : decode (fnB F_Law_law) 430 = .ok (.invokevirtual 56, 3) := by decide +kernel
theorem d_Law_law_433 : decode (fnB F_Law_law) 433 = .ok (.aload_n 2, 1) := by decide +kernel
theorem d_Law_law_434 : decode (fnB F_Law_law) 434 = .ok (.invokevirtual 59, 3) := by decide +kernel
theorem d_Law_law_437 : decode (fnB F_Law_law) 437 = .ok (.if_icmp .eq 445, 3) := by decide +kernel
theorem d_Law_law_440 : decode (fnB F_Law_law) 440 = .ok (.iconst 0, 1) := by decide +kernel
theorem d_Law_law_441 : decode (fnB F_Law_law) 441 = .ok (.ireturn, 1) := by decide +kernel
theorem d_Law_law_442 : decode (fnB F_Law_law) 442 = .ok (.aload_n 1, 1) := by decide +kernel
theorem d_Law_law_443 : decode (fnB F_Law_law) 443 = .ok (.aload_n 0, 1) := by decide +kernel
theorem d_Law_law_444 : decode (fnB F_Law_law) 444 = .ok (.iload_n 3, 1) := by decide +kernel
theorem d_Law_law_445 : decode (fnB F_Law_law) 445 = .ok (.iconst 1, 1) := by decide +kernel
theorem d_Law_law_446 : decode (fnB F_Law_law) 446 = .ok (.iadd, 1) := by decide +kernel
theorem d_Law_law_447 : decode (fnB F_Law_law) 447 = .ok (.iaload, 1) := by decide +kernel
theorem d_Law_law_448 : decode (fnB F_Law_law) 448 = .ok (.invokevirtual 60, 3) := by decide +kernel
theorem d_Law_law_451 : decode (fnB F_Law_law) 451 = .ok (.aload_n 2, 1) := by decide +kernel
theorem d_Law_law_452 : decode (fnB F_Law_law) 452 = .ok (.aload_n 0, 1) := by decide +kernel
theorem d_Law_law_453 : decode (fnB F_Law_law) 453 = .ok (.iload_n 3, 1) := by decide +kernel
theorem d_Law_law_454 : decode (fnB F_Law_law) 454 = .ok (.iconst 1, 1) := by decide +kernel
theorem d_Law_law_455 : decode (fnB F_Law_law) 455 = .ok (.iadd, 1) := by decide +kernel
theorem d_Law_law_456 : decode (fnB F_Law_law) 456 = .ok (.iaload, 1) := by decide +kernel
theorem d_Law_law_457 : decode (fnB F_Law_law) 457 = .ok (.invokevirtual 63, 3) := by decide +kernel
theorem d_Law_law_460 : decode (fnB F_Law_law) 460 = .ok (.if_icmp .eq 422, 3) := by decide +kernel
theorem d_Law_law_463 : decode (fnB F_Law_law) 463 = .ok (.iconst 0, 1) := by decide +kernel
theorem d_Law_law_464 : decode (fnB F_Law_law) 464 = .ok (.ireturn, 1) := by decide +kernel
theorem d_Law_law_465 : decode (fnB F_Law_law) 465 = .ok (.aload_n 1, 1) := by decide +kernel
theorem d_Law_law_466 : decode (fnB F_Law_law) 466 = .ok (.aload_n 0, 1) := by decide +kernel
theorem d_Law_law_467 : decode (fnB F_Law_law) 467 = .ok (.iload_n 3, 1) := by decide +kernel
theorem d_Law_law_468 : decode (fnB F_Law_law) 468 = .ok (.iconst 1, 1) := by decide +kernel
theorem d_Law_law_469 : decode (fnB F_Law_law) 469 = .ok (.iadd, 1) := by decide +kernel
theorem d_Law_law_470 : decode (fnB F_Law_law) 470 = .ok (.iaload, 1) := by decide +kernel
theorem d_Law_law_471 : decode (fnB F_Law_law) 471 = .ok (.invokevirtual 64, 3) := by decide +kernel
theorem d_Law_law_474 : decode (fnB F_Law_law) 474 = .ok (.aload_n 2, 1) := by decide +kernel
theorem d_Law_law_475 : decode (fnB F_Law_law) 475 = .ok (.aload_n 0, 1) := by decide +kernel
theorem d_Law_law_476 : decode (fnB F_Law_law) 476 = .ok (.iload_n 3, 1) := by decide +kernel
theorem d_Law_law_477 : decode (fnB F_Law_law) 477 = .ok (.iconst 1, 1) := by decide +kernel
theorem d_Law_law_478 : decode (fnB F_Law_law) 478 = .ok (.iadd, 1) := by decide +kernel
theorem d_Law_law_479 : decode (fnB F_Law_law) 479 = .ok (.iaload, 1) := by decide +kernel
theorem d_Law_law_480 : decode (fnB F_Law_law) 480 = .ok (.invokevirtual 67, 3) := by decide +kernel
theorem d_Law_law_483 : decode (fnB F_Law_law) 483 = .ok (.if_icmp .eq 399, 3) := by decide +kernel
theorem d_Law_law_486 : decode (fnB F_Law_law) 486 = .ok (.iconst 0, 1) := by decide +kernel
theorem d_Law_law_487 : decode (fnB F_Law_law) 487 = .ok (.ireturn, 1) := by decide +kernel
theorem d_Law_law_488 : decode (fnB F_Law_law) 488 = .ok (.aload_n 1, 1) := by decide +kernel
theorem d_Law_law_489 : decode (fnB F_Law_law) 489 = .ok (.aload_n 0, 1) := by decide +kernel
theorem d_Law_law_490 : decode (fnB F_Law_law) 490 = .ok (.iload_n 3, 1) := by decide +kernel
theorem d_Law_law_491 : decode (fnB F_Law_law) 491 = .ok (.iconst 1, 1) := by decide +kernel
theorem d_Law_law_492 : decode (fnB F_Law_law) 492 = .ok (.iadd, 1) := by decide +kernel
theorem d_Law_law_493 : decode (fnB F_Law_law) 493 = .ok (.iaload, 1) := by decide +kernel
theorem d_Law_law_494 : decode (fnB F_Law_law) 494 = .ok (.aload_n 0, 1) := by decide +kernel
theorem d_Law_law_495 : decode (fnB F_Law_law) 495 = .ok (.iload_n 3, 1) := by decide +kernel
theorem d_Law_law_496 : decode (fnB F_Law_law) 496 = .ok (.iconst 2, 1) := by decide +kernel
theorem d_Law_law_497 : decode (fnB F_Law_law) 497 = .ok (.iadd, 1) := by decide +kernel
theorem d_Law_law_498 : decode (fnB F_Law_law) 498 = .ok (.iaload, 1) := by decide +kernel
theorem d_Law_law_499 : decode (fnB F_Law_law) 499 = .ok (.invokevirtual 68, 3) := by decide +kernel
theorem d_Law_law_502 : decode (fnB F_Law_law) 502 = .ok (.aload_n 2, 1) := by decide +kernel
theorem d_Law_law_503 : decode (fnB F_Law_law) 503 = .ok (.aload_n 0, 1) := by decide +kernel
theorem d_Law_law_504 : decode (fnB F_Law_law) 504 = .ok (.iload_n 3, 1) := by decide +kernel
theorem d_Law_law_505 : decode (fnB F_Law_law) 505 = .ok (.iconst 1, 1) := by decide +kernel
theorem d_Law_law_506 : decode (fnB F_Law_law) 506 = .ok (.iadd, 1) := by decide +kernel
theorem d_Law_law_507 : decode (fnB F_Law_law) 507 = .ok (.iaload, 1) := by decide +kernel
theorem d_Law_law_508 : decode (fnB F_Law_law) 508 = .ok (.aload_n 0, 1) := by decide +kernel
theorem d_Law_law_509 : decode (fnB F_Law_law) 509 = .ok (.iload_n 3, 1) := by decide +kernel
theorem d_Law_law_510 : decode (fnB F_Law_law) 510 = .ok (.iconst 2, 1) := by decide +kernel
theorem d_Law_law_511 : decode (fnB F_Law_law) 511 = .ok (.iadd, 1) := by decide +kernel
theorem d_Law_law_512 : decode (fnB F_Law_law) 512 = .ok (.iaload, 1) := by decide +kernel
theorem d_Law_law_513 : decode (fnB F_Law_law) 513 = .ok (.invokevirtual 71, 3) := by decide +kernel
theorem d_Law_law_516 : decode (fnB F_Law_law) 516 = .ok (.if_icmp .eq 366, 3) := by decide +kernel
theorem d_Law_law_519 : decode (fnB F_Law_law) 519 = .ok (.iconst 0, 1) := by decide +kernel
theorem d_Law_law_520 : decode (fnB F_Law_law) 520 = .ok (.ireturn, 1) := by decide +kernel
theorem d_Law_law_521 : decode (fnB F_Law_law) 521 = .ok (.aload_n 1, 1) := by decide +kernel
theorem d_Law_law_522 : decode (fnB F_Law_law) 522 = .ok (.aload_n 0, 1) := by decide +kernel
theorem d_Law_law_523 : decode (fnB F_Law_law) 523 = .ok (.iload_n 3, 1) := by decide +kernel
theorem d_Law_law_524 : decode (fnB F_Law_law) 524 = .ok (.iconst 1, 1) := by decide +kernel
theorem d_Law_law_525 : decode (fnB F_Law_law) 525 = .ok (.iadd, 1) := by decide +kernel
theorem d_Law_law_526 : decode (fnB F_Law_law) 526 = .ok (.iaload, 1) := by decide +kernel
theorem d_Law_law_527 : decode (fnB F_Law_law) 527 = .ok (.aload_n 0, 1) := by decide +kernel
theorem d_Law_law_528 : decode (fnB F_Law_law) 528 = .ok (.iload_n 3, 1) := by decide +kernel
theorem d_Law_law_529 : decode (fnB F_Law_law) 529 = .ok (.iconst 2, 1) := by decide +kernel
theorem d_Law_law_530 : decode (fnB F_Law_law) 530 = .ok (.iadd, 1) := by decide +kernel
theorem d_Law_law_531 : decode (fnB F_Law_law) 531 = .ok (.iaload, 1) := by decide +kernel
theorem d_Law_law_532 : decode (fnB F_Law_law) 532 = .ok (.aload_n 0, 1) := by decide +kernel
theorem d_Law_law_533 : decode (fnB F_Law_law) 533 = .ok (.iload_n 3, 1) := by decide +kernel
theorem d_Law_law_534 : decode (fnB F_Law_law) 534 = .ok (.iconst 3, 1) := by decide +kernel
theorem d_Law_law_535 : decode (fnB F_Law_law) 535 = .ok (.iadd, 1) := by decide +kernel
theorem d_Law_law_536 : decode (fnB F_Law_law) 536 = .ok (.iaload, 1) := by decide +kernel
theorem d_Law_law_537 : decode (fnB F_Law_law) 537 = .ok (.invokevirtual 72, 3) := by decide +kernel
theorem d_Law_law_540 : decode (fnB F_Law_law) 540 = .ok (.aload_n 2, 1) := by decide +kernel
theorem d_Law_law_541 : decode (fnB F_Law_law) 541 = .ok (.aload_n 0, 1) := by decide +kernel
theorem d_Law_law_542 : decode (fnB F_Law_law) 542 = .ok (.iload_n 3, 1) := by decide +kernel
theorem d_Law_law_543 : decode (fnB F_Law_law) 543 = .ok (.iconst 1, 1) := by decide +kernel
theorem d_Law_law_544 : decode (fnB F_Law_law) 544 = .ok (.iadd, 1) := by decide +kernel
theorem d_Law_law_545 : decode (fnB F_Law_law) 545 = .ok (.iaload, 1) := by decide +kernel
theorem d_Law_law_546 : decode (fnB F_Law_law) 546 = .ok (.aload_n 0, 1) := by decide +kernel
theorem d_Law_law_547 : decode (fnB F_Law_law) 547 = .ok (.iload_n 3, 1) := by decide +kernel
theorem d_Law_law_548 : decode (fnB F_Law_law) 548 = .ok (.iconst 2, 1) := by decide +kernel
theorem d_Law_law_549 : decode (fnB F_Law_law) 549 = .ok (.iadd, 1) := by decide +kernel
theorem d_Law_law_550 : decode (fnB F_Law_law) 550 = .ok (.iaload, 1) := by decide +kernel
theorem d_Law_law_551 : decode (fnB F_Law_law) 551 = .ok (.aload_n 0, 1) := by decide +kernel
theorem d_Law_law_552 : decode (fnB F_Law_law) 552 = .ok (.iload_n 3, 1) := by decide +kernel
theorem d_Law_law_553 : decode (fnB F_Law_law) 553 = .ok (.iconst 3, 1) := by decide +kernel
theorem d_Law_law_554 : decode (fnB F_Law_law) 554 = .ok (.iadd, 1) := by decide +kernel
theorem d_Law_law_555 : decode (fnB F_Law_law) 555 = .ok (.iaload, 1) := by decide +kernel
theorem d_Law_law_556 : decode (fnB F_Law_law) 556 = .ok (.invokevirtual 75, 3) := by decide +kernel
theorem d_Law_law_559 : decode (fnB F_Law_law) 559 = .ok (.if_icmp .eq 323, 3) := by decide +kernel
theorem d_Law_law_562 : decode (fnB F_Law_law) 562 = .ok (.iconst 0, 1) := by decide +kernel
theorem d_Law_law_563 : decode (fnB F_Law_law) 563 = .ok (.ireturn, 1) := by decide +kernel
theorem d_Law_law_564 : decode (fnB F_Law_law) 564 = .ok (.aload_n 1, 1) := by decide +kernel
theorem d_Law_law_565 : decode (fnB F_Law_law) 565 = .ok (.aload_n 0, 1) := by decide +kernel
theorem d_Law_law_566 : decode (fnB F_Law_law) 566 = .ok (.iload_n 3, 1) := by decide +kernel
theorem d_Law_law_567 : decode (fnB F_Law_law) 567 = .ok (.iconst 1, 1) := by decide +kernel
theorem d_Law_law_568 : decode (fnB F_Law_law) 568 = .ok (.iadd, 1) := by decide +kernel
theorem d_Law_law_569 : decode (fnB F_Law_law) 569 = .ok (.iaload, 1) := by decide +kernel
theorem d_Law_law_570 : decode (fnB F_Law_law) 570 = .ok (.invokevirtual 76, 3) := by decide +kernel
theorem d_Law_law_573 : decode (fnB F_Law_law) 573 = .ok (.aload_n 2, 1) := by decide +kernel
theorem d_Law_law_574 : decode (fnB F_Law_law) 574 = .ok (.aload_n 0, 1) := by decide +kernel
theorem d_Law_law_575 : decode (fnB F_Law_law) 575 = .ok (.iload_n 3, 1) := by decide +kernel
theorem d_Law_law_576 : decode (fnB F_Law_law) 576 = .ok (.iconst 1, 1) := by decide +kernel
theorem d_Law_law_577 : decode (fnB F_Law_law) 577 = .ok (.iadd, 1) := by decide +kernel
theorem d_Law_law_578 : decode (fnB F_Law_law) 578 = .ok (.iaload, 1) := by decide +kernel
theorem d_Law_law_579 : decode (fnB F_Law_law) 579 = .ok (.invokevirtual 79, 3) := by decide +kernel
theorem d_Law_law_582 : decode (fnB F_Law_law) 582 = .ok (.if_icmp .eq 300, 3) := by decide +kernel
theorem d_Law_law_585 : decode (fnB F_Law_law) 585 = .ok (.iconst 0, 1) := by decide +kernel
theorem d_Law_law_586 : decode (fnB F_Law_law) 586 = .ok (.ireturn, 1) := by decide +kernel
theorem d_Law_law_587 : decode (fnB F_Law_law) 587 = .ok (.aload_n 1, 1) := by decide +kernel
theorem d_Law_law_588 : decode (fnB F_Law_law) 588 = .ok (.aload_n 0, 1) := by decide +kernel
theorem d_Law_law_589 : decode (fnB F_Law_law) 589 = .ok (.iload_n 3, 1) := by decide +kernel
theorem d_Law_law_590 : decode (fnB F_Law_law) 590 = .ok (.iconst 1, 1) := by decide +kernel
theorem d_Law_law_591 : decode (fnB F_Law_law) 591 = .ok (.iadd, 1) := by decide +kernel
theorem d_Law_law_592 : decode (fnB F_Law_law) 592 = .ok (.iaload, 1) := by decide +kernel
theorem d_Law_law_593 : decode (fnB F_Law_law) 593 = .ok (.aload_n 0, 1) := by decide +kernel
theorem d_Law_law_594 : decode (fnB F_Law_law) 594 = .ok (.iload_n 3, 1) := by decide +kernel
theorem d_Law_law_595 : decode (fnB F_Law_law) 595 = .ok (.iconst 2, 1) := by decide +kernel
theorem d_Law_law_596 : decode (fnB F_Law_law) 596 = .ok (.iadd, 1) := by decide +kernel
theorem d_Law_law_597 : decode (fnB F_Law_law) 597 = .ok (.iaload, 1) := by decide +kernel
theorem d_Law_law_598 : decode (fnB F_Law_law) 598 = .ok (.invokevirtual 80, 3) := by decide +kernel
theorem d_Law_law_601 : decode (fnB F_Law_law) 601 = .ok (.aload_n 2, 1) := by decide +kernel
theorem d_Law_law_602 : decode (fnB F_Law_law) 602 = .ok (.aload_n 0, 1) := by decide +kernel
theorem d_Law_law_603 : decode (fnB F_Law_law) 603 = .ok (.iload_n 3, 1) := by decide +kernel
theorem d_Law_law_604 : decode (fnB F_Law_law) 604 = .ok (.iconst 1, 1) := by decide +kernel
theorem d_Law_law_605 : decode (fnB F_Law_law) 605 = .ok (.iadd, 1) := by decide +kernel
theorem d_Law_law_606 : decode (fnB F_Law_law) 606 = .ok (.iaload, 1) := by decide +kernel
theorem d_Law_law_607 : decode (fnB F_Law_law) 607 = .ok (.aload_n 0, 1) := by decide +kernel
theorem d_Law_law_608 : decode (fnB F_Law_law) 608 = .ok (.iload_n 3, 1) := by decide +kernel
theorem d_Law_law_609 : decode (fnB F_Law_law) 609 = .ok (.iconst 2, 1) := by decide +kernel
theorem d_Law_law_610 : decode (fnB F_Law_law) 610 = .ok (.iadd, 1) := by decide +kernel
theorem d_Law_law_611 : decode (fnB F_Law_law) 611 = .ok (.iaload, 1) := by decide +kernel
theorem d_Law_law_612 : decode (fnB F_Law_law) 612 = .ok (.invokevirtual 83, 3) := by decide +kernel
theorem d_Law_law_615 : decode (fnB F_Law_law) 615 = .ok (.if_icmp .eq 267, 3) := by decide +kernel
theorem d_Law_law_618 : decode (fnB F_Law_law) 618 = .ok (.iconst 0, 1) := by decide +kernel
theorem d_Law_law_619 : decode (fnB F_Law_law) 619 = .ok (.ireturn, 1) := by decide +kernel
theorem d_Law_law_620 : decode (fnB F_Law_law) 620 = .ok (.aload_n 1, 1) := by decide +kernel
theorem d_Law_law_621 : decode (fnB F_Law_law) 621 = .ok (.aload_n 0, 1) := by decide +kernel
theorem d_Law_law_622 : decode (fnB F_Law_law) 622 = .ok (.iload_n 3, 1) := by decide +kernel
theorem d_Law_law_623 : decode (fnB F_Law_law) 623 = .ok (.iconst 1, 1) := by decide +kernel
theorem d_Law_law_624 : decode (fnB F_Law_law) 624 = .ok (.iadd, 1) := by decide +kernel
theorem d_Law_law_625 : decode (fnB F_Law_law) 625 = .ok (.iaload, 1) := by decide +kernel
theorem d_Law_law_626 : decode (fnB F_Law_law) 626 = .ok (.aload_n 0, 1) := by decide +kernel
theorem d_Law_law_627 : decode (fnB F_Law_law) 627 = .ok (.iload_n 3, 1) := by decide +kernel
theorem d_Law_law_628 : decode (fnB F_Law_law) 628 = .ok (.iconst 2, 1) := by decide +kernel
theorem d_Law_law_629 : decode (fnB F_Law_law) 629 = .ok (.iadd, 1) := by decide +kernel
theorem d_Law_law_630 : decode (fnB F_Law_law) 630 = .ok (.iaload, 1) := by decide +kernel
theorem d_Law_law_631 : decode (fnB F_Law_law) 631 = .ok (.invokevirtual 84, 3) := by decide +kernel
theorem d_Law_law_634 : decode (fnB F_Law_law) 634 = .ok (.aload_n 2, 1) := by decide +kernel
theorem d_Law_law_635 : decode (fnB F_Law_law) 635 = .ok (.aload_n 0, 1) := by decide +kernel
theorem d_Law_law_636 : decode (fnB F_Law_law) 636 = .ok (.iload_n 3, 1) := by decide +kernel
theorem d_Law_law_637 : decode (fnB F_Law_law) 637 = .ok (.iconst 1, 1) := by decide +kernel
theorem d_Law_law_638 : decode (fnB F_Law_law) 638 = .ok (.iadd, 1) := by decide +kernel
theorem d_Law_law_639 : decode (fnB F_Law_law) 639 = .ok (.iaload, 1) := by decide +kernel
theorem d_Law_law_640 : decode (fnB F_Law_law) 640 = .ok (.aload_n 0, 1) := by decide +kernel
theorem d_Law_law_641 : decode (fnB F_Law_law) 641 = .ok (.iload_n 3, 1) := by decide +kernel
theorem d_Law_law_642 : decode (fnB F_Law_law) 642 = .ok (.iconst 2, 1) := by decide +kernel
theorem d_Law_law_643 : decode (fnB F_Law_law) 643 = .ok (.iadd, 1) := by decide +kernel
theorem d_Law_law_644 : decode (fnB F_Law_law) 644 = .ok (.iaload, 1) := by decide +kernel
theorem d_Law_law_645 : decode (fnB F_Law_law) 645 = .ok (.invokevirtual 87, 3) := by decide +kernel
theorem d_Law_law_648 : decode (fnB F_Law_law) 648 = .ok (.if_icmp .eq 234, 3) := by decide +kernel
theorem d_Law_law_651 : decode (fnB F_Law_law) 651 = .ok (.iconst 0, 1) := by decide +kernel
theorem d_Law_law_652 : decode (fnB F_Law_law) 652 = .ok (.ireturn, 1) := by decide +kernel
theorem d_Law_law_653 : decode (fnB F_Law_law) 653 = .ok (.aload_n 1, 1) := by decide +kernel
theorem d_Law_law_654 : decode (fnB F_Law_law) 654 = .ok (.aload_n 0, 1) := by decide +kernel
theorem d_Law_law_655 : decode (fnB F_Law_law) 655 = .ok (.iload_n 3, 1) := by decide +kernel
theorem d_Law_law_656 : decode (fnB F_Law_law) 656 = .ok (.iconst 1, 1) := by decide +kernel
theorem d_Law_law_657 : decode (fnB F_Law_law) 657 = .ok (.iadd, 1) := by decide +kernel
theorem d_Law_law_658 : decode (fnB F_Law_law) 658 = .ok (.iaload, 1) := by decide +kernel
theorem d_Law_law_659 : decode (fnB F_Law_law) 659 = .ok (.aload_n 0, 1) := by decide +kernel
theorem d_Law_law_660 : decode (fnB F_Law_law) 660 = .ok (.iload_n 3, 1) := by decide +kernel
theorem d_Law_law_661 : decode (fnB F_Law_law) 661 = .ok (.iconst 2, 1) := by decide +kernel
theorem d_Law_law_662 : decode (fnB F_Law_law) 662 = .ok (.iadd, 1) := by decide +kernel
theorem d_Law_law_663 : decode (fnB F_Law_law) 663 = .ok (.iaload, 1) := by decide +kernel
theorem d_Law_law_664 : decode (fnB F_Law_law) 664 = .ok (.invokevirtual 88, 3) := by decide +kernel
theorem d_Law_law_667 : decode (fnB F_Law_law) 667 = .ok (.aload_n 2, 1) := by decide +kernel
theorem d_Law_law_668 : decode (fnB F_Law_law) 668 = .ok (.aload_n 0, 1) := by decide +kernel
theorem d_Law_law_669 : decode (fnB F_Law_law) 669 = .ok (.iload_n 3, 1) := by decide +kernel
theorem d_Law_law_670 : decode (fnB F_Law_law) 670 = .ok (.iconst 1, 1) := by decide +kernel
theorem d_Law_law_671 : decode (fnB F_Law_law) 671 = .ok (.iadd, 1) := by decide +kernel
theorem d_Law_law_672 : decode (fnB F_Law_law) 672 = .ok (.iaload, 1) := by decide +kernel
theorem d_Law_law_673 : decode (fnB F_Law_law) 673 = .ok (.aload_n 0, 1) := by decide +kernel
theorem d_Law_law_674 : decode (fnB F_Law_law) 674 = .ok (.iload_n 3, 1) := by decide +kernel
theorem d_Law_law_675 : decode (fnB F_Law_law) 675 = .ok (.iconst 2, 1) := by decide +kernel
theorem d_Law_law_676 : decode (fnB F_Law_law) 676 = .ok (.iadd, 1) := by decide +kernel
theorem d_Law_law_677 : decode (fnB F_Law_law) 677 = .ok (.iaload, 1) := by decide +kernel
theorem d_Law_law_678 : decode (fnB F_Law_law) 678 = .ok (.invokevirtual 91, 3) := by decide +kernel
theorem d_Law_law_681 : decode (fnB F_Law_law) 681 = .ok (.if_icmp .eq 201, 3) := by decide +kernel
theorem d_Law_law_684 : decode (fnB F_Law_law) 684 = .ok (.iconst 0, 1) := by decide +kernel
theorem d_Law_law_685 : decode (fnB F_Law_law) 685 = .ok (.ireturn, 1) := by decide +kernel
theorem d_Law_law_686 : decode (fnB F_Law_law) 686 = .ok (.aload_n 1, 1) := by decide +kernel
theorem d_Law_law_687 : decode (fnB F_Law_law) 687 = .ok (.aload_n 0, 1) := by decide +kernel
theorem d_Law_law_688 : decode (fnB F_Law_law) 688 = .ok (.iload_n 3, 1) := by decide +kernel
theorem d_Law_law_689 : decode (fnB F_Law_law) 689 = .ok (.iconst 1, 1) := by decide +kernel
theorem d_Law_law_690 : decode (fnB F_Law_law) 690 = .ok (.iadd, 1) := by decide +kernel
theorem d_Law_law_691 : decode (fnB F_Law_law) 691 = .ok (.iaload, 1) := by decide +kernel
theorem d_Law_law_692 : decode (fnB F_Law_law) 692 = .ok (.invokevirtual 92, 3) := by decide +kernel
theorem d_Law_law_695 : decode (fnB F_Law_law) 695 = .ok (.aload_n 2, 1) := by decide +kernel
theorem d_Law_law_696 : decode (fnB F_Law_law) 696 = .ok (.aload_n 0, 1) := by decide +kernel
theorem d_Law_law_697 : decode (fnB F_Law_law) 697 = .ok (.iload_n 3, 1) := by decide +kernel
theorem d_Law_law_698 : decode (fnB F_Law_law) 698 = .ok (.iconst 1, 1) := by decide +kernel
theorem d_Law_law_699 : decode (fnB F_Law_law) 699 = .ok (.iadd, 1) := by decide +kernel
theorem d_Law_law_700 : decode (fnB F_Law_law) 700 = .ok (.iaload, 1) := by decide +kernel
theorem d_Law_law_701 : decode (fnB F_Law_law) 701 = .ok (.invokevirtual 96, 3) := by decide +kernel
theorem d_Law_law_704 : decode (fnB F_Law_law) 704 = .ok (.lcmp, 1) := by decide +kernel
theorem d_Law_law_705 : decode (fnB F_Law_law) 705 = .ok (.ifCond .eq 177, 3) := by decide +kernel
theorem d_Law_law_708 : decode (fnB F_Law_law) 708 = .ok (.iconst 0, 1) := by decide +kernel
theorem d_Law_law_709 : decode (fnB F_Law_law) 709 = .ok (.ireturn, 1) := by decide +kernel
theorem d_Law_law_710 : decode (fnB F_Law_law) 710 = .ok (.aload_n 1, 1) := by decide +kernel
theorem d_Law_law_711 : decode (fnB F_Law_law) 711 = .ok (.invokevirtual 97, 3) := by decide +kernel
theorem d_Law_law_714 : decode (fnB F_Law_law) 714 = .ok (.aload_n 2, 1) := by decide +kernel
theorem d_Law_law_715 : decode (fnB F_Law_law) 715 = .ok (.invokevirtual 101, 3) := by decide +kernel
theorem d_Law_law_718 : decode (fnB F_Law_law) 718 = .ok (.lcmp, 1) := by decide +kernel
theorem d_Law_law_719 : decode (fnB F_Law_law) 719 = .ok (.ifCond .eq 163, 3) := by decide +kernel
theorem d_Law_law_722 : decode (fnB F_Law_law) 722 = .ok (.iconst 0, 1) := by decide +kernel
theorem d_Law_law_723 : decode (fnB F_Law_law) 723 = .ok (.ireturn, 1) := by decide +kernel
theorem d_Law_law_724 : decode (fnB F_Law_law) 724 = .ok (.aload_n 1, 1) := by decide +kernel
theorem d_Law_law_725 : decode (fnB F_Law_law) 725 = .ok (.aload_n 0, 1) := by decide +kernel
theorem d_Law_law_726 : decode (fnB F_Law_law) 726 = .ok (.iload_n 3, 1) := by decide +kernel
theorem d_Law_law_727 : decode (fnB F_Law_law) 727 = .ok (.iconst 1, 1) := by decide +kernel
theorem d_Law_law_728 : decode (fnB F_Law_law) 728 = .ok (.iadd, 1) := by decide +kernel
theorem d_Law_law_729 : decode (fnB F_Law_law) 729 = .ok (.iaload, 1) := by decide +kernel
theorem d_Law_law_730 : decode (fnB F_Law_law) 730 = .ok (.aload_n 0, 1) := by decide +kernel
theorem d_Law_law_731 : decode (fnB F_Law_law) 731 = .ok (.iload_n 3, 1) := by decide +kernel
theorem d_Law_law_732 : decode (fnB F_Law_law) 732 = .ok (.iconst 2, 1) := by decide +kernel
theorem d_Law_law_733 : decode (fnB F_Law_law) 733 = .ok (.iadd, 1) := by decide +kernel
theorem d_Law_law_734 : decode (fnB F_Law_law) 734 = .ok (.iaload, 1) := by decide +kernel
theorem d_Law_law_735 : decode (fnB F_Law_law) 735 = .ok (.invokevirtual 102, 3) := by decide +kernel
theorem d_Law_law_738 : decode (fnB F_Law_law) 738 = .ok (.aload_n 2, 1) := by decide +kernel
theorem d_Law_law_739 : decode (fnB F_Law_law) 739 = .ok (.aload_n 0, 1) := by decide +kernel
theorem d_Law_law_740 : decode (fnB F_Law_law) 740 = .ok (.iload_n 3, 1) := by decide +kernel
theorem d_Law_law_741 : decode (fnB F_Law_law) 741 = .ok (.iconst 1, 1) := by decide +kernel
theorem d_Law_law_742 : decode (fnB F_Law_law) 742 = .ok (.iadd, 1) := by decide +kernel
theorem d_Law_law_743 : decode (fnB F_Law_law) 743 = .ok (.iaload, 1) := by decide +kernel
theorem d_Law_law_744 : decode (fnB F_Law_law) 744 = .ok (.aload_n 0, 1) := by decide +kernel
theorem d_Law_law_745 : decode (fnB F_Law_law) 745 = .ok (.iload_n 3, 1) := by decide +kernel
theorem d_Law_law_746 : decode (fnB F_Law_law) 746 = .ok (.iconst 2, 1) := by decide +kernel
theorem d_Law_law_747 : decode (fnB F_Law_law) 747 = .ok (.iadd, 1) := by decide +kernel
theorem d_Law_law_748 : decode (fnB F_Law_law) 748 = .ok (.iaload, 1) := by decide +kernel
theorem d_Law_law_749 : decode (fnB F_Law_law) 749 = .ok (.invokevirtual 105, 3) := by decide +kernel
theorem d_Law_law_752 : decode (fnB F_Law_law) 752 = .ok (.if_icmp .eq 130, 3) := by decide +kernel
theorem d_Law_law_755 : decode (fnB F_Law_law) 755 = .ok (.iconst 0, 1) := by decide +kernel
theorem d_Law_law_756 : decode (fnB F_Law_law) 756 = .ok (.ireturn, 1) := by decide +kernel
theorem d_Law_law_757 : decode (fnB F_Law_law) 757 = .ok (.aload_n 1, 1) := by decide +kernel
theorem d_Law_law_758 : decode (fnB F_Law_law) 758 = .ok (.aload_n 0, 1) := by decide +kernel
theorem d_Law_law_759 : decode (fnB F_Law_law) 759 = .ok (.iload_n 3, 1) := by decide +kernel
theorem d_Law_law_760 : decode (fnB F_Law_law) 760 = .ok (.iconst 1, 1) := by decide +kernel
theorem d_Law_law_761 : decode (fnB F_Law_law) 761 = .ok (.iadd, 1) := by decide +kernel
theorem d_Law_law_762 : decode (fnB F_Law_law) 762 = .ok (.iaload, 1) := by decide +kernel
theorem d_Law_law_763 : decode (fnB F_Law_law) 763 = .ok (.invokevirtual 106, 3) := by decide +kernel
theorem d_Law_law_766 : decode (fnB F_Law_law) 766 = .ok (.aload_n 2, 1) := by decide +kernel
theorem d_Law_law_767 : decode (fnB F_Law_law) 767 = .ok (.aload_n 0, 1) := by decide +kernel
theorem d_Law_law_768 : decode (fnB F_Law_law) 768 = .ok (.iload_n 3, 1) := by decide +kernel
theorem d_Law_law_769 : decode (fnB F_Law_law) 769 = .ok (.iconst 1, 1) := by decide +kernel
theorem d_Law_law_770 : decode (fnB F_Law_law) 770 = .ok (.iadd, 1) := by decide +kernel
theorem d_Law_law_771 : decode (fnB F_Law_law) 771 = .ok (.iaload, 1) := by decide +kernel
theorem d_Law_law_772 : decode (fnB F_Law_law) 772 = .ok (.invokevirtual 109, 3) := by decide +kernel
theorem d_Law_law_775 : decode (fnB F_Law_law) 775 = .ok (.if_icmp .eq 107, 3) := by decide +kernel
theorem d_Law_law_778 : decode (fnB F_Law_law) 778 = .ok (.iconst 0, 1) := by decide +kernel
theorem d_Law_law_779 : decode (fnB F_Law_law) 779 = .ok (.ireturn, 1) := by decide +kernel
theorem d_Law_law_780 : decode (fnB F_Law_law) 780 = .ok (.aload_n 1, 1) := by decide +kernel
theorem d_Law_law_781 : decode (fnB F_Law_law) 781 = .ok (.aload_n 0, 1) := by decide +kernel
theorem d_Law_law_782 : decode (fnB F_Law_law) 782 = .ok (.iload_n 3, 1) := by decide +kernel
theorem d_Law_law_783 : decode (fnB F_Law_law) 783 = .ok (.iconst 1, 1) := by decide +kernel
theorem d_Law_law_784 : decode (fnB F_Law_law) 784 = .ok (.iadd, 1) := by decide +kernel
theorem d_Law_law_785 : decode (fnB F_Law_law) 785 = .ok (.iaload, 1) := by decide +kernel
theorem d_Law_law_786 : decode (fnB F_Law_law) 786 = .ok (.aload_n 0, 1) := by decide +kernel
theorem d_Law_law_787 : decode (fnB F_Law_law) 787 = .ok (.iload_n 3, 1) := by decide +kernel
theorem d_Law_law_788 : decode (fnB F_Law_law) 788 = .ok (.iconst 2, 1) := by decide +kernel
theorem d_Law_law_789 : decode (fnB F_Law_law) 789 = .ok (.iadd, 1) := by decide +kernel
theorem d_Law_law_790 : decode (fnB F_Law_law) 790 = .ok (.iaload, 1) := by decide +kernel
theorem d_Law_law_791 : decode (fnB F_Law_law) 791 = .ok (.invokevirtual 110, 3) := by decide +kernel
theorem d_Law_law_794 : decode (fnB F_Law_law) 794 = .ok (.aload_n 2, 1) := by decide +kernel
theorem d_Law_law_795 : decode (fnB F_Law_law) 795 = .ok (.aload_n 0, 1) := by decide +kernel
theorem d_Law_law_796 : decode (fnB F_Law_law) 796 = .ok (.iload_n 3, 1) := by decide +kernel
theorem d_Law_law_797 : decode (fnB F_Law_law) 797 = .ok (.iconst 1, 1) := by decide +kernel
theorem d_Law_law_798 : decode (fnB F_Law_law) 798 = .ok (.iadd, 1) := by decide +kernel
theorem d_Law_law_799 : decode (fnB F_Law_law) 799 = .ok (.iaload, 1) := by decide +kernel
theorem d_Law_law_800 : decode (fnB F_Law_law) 800 = .ok (.aload_n 0, 1) := by decide +kernel
theorem d_Law_law_801 : decode (fnB F_Law_law) 801 = .ok (.iload_n 3, 1) := by decide +kernel
theorem d_Law_law_802 : decode (fnB F_Law_law) 802 = .ok (.iconst 2, 1) := by decide +kernel
theorem d_Law_law_803 : decode (fnB F_Law_law) 803 = .ok (.iadd, 1) := by decide +kernel
theorem d_Law_law_804 : decode (fnB F_Law_law) 804 = .ok (.iaload, 1) := by decide +kernel
theorem d_Law_law_805 : decode (fnB F_Law_law) 805 = .ok (.invokevirtual 113, 3) := by decide +kernel
theorem d_Law_law_808 : decode (fnB F_Law_law) 808 = .ok (.if_icmp .eq 74, 3) := by decide +kernel
theorem d_Law_law_811 : decode (fnB F_Law_law) 811 = .ok (.iconst 0, 1) := by decide +kernel
theorem d_Law_law_812 : decode (fnB F_Law_law) 812 = .ok (.ireturn, 1) := by decide +kernel
theorem d_Law_law_813 : decode (fnB F_Law_law) 813 = .ok (.aload_n 1, 1) := by decide +kernel
theorem d_Law_law_814 : decode (fnB F_Law_law) 814 = .ok (.aload_n 0, 1) := by decide +kernel
theorem d_Law_law_815 : decode (fnB F_Law_law) 815 = .ok (.iload_n 3, 1) := by decide +kernel
theorem d_Law_law_816 : decode (fnB F_Law_law) 816 = .ok (.iconst 1, 1) := by decide +kernel
theorem d_Law_law_817 : decode (fnB F_Law_law) 817 = .ok (.iadd, 1) := by decide +kernel
theorem d_Law_law_818 : decode (fnB F_Law_law) 818 = .ok (.iaload, 1) := by decide +kernel
theorem d_Law_law_819 : decode (fnB F_Law_law) 819 = .ok (.aload_n 0, 1) := by decide +kernel
theorem d_Law_law_820 : decode (fnB F_Law_law) 820 = .ok (.iload_n 3, 1) := by decide +kernel
theorem d_Law_law_821 : decode (fnB F_Law_law) 821 = .ok (.iconst 2, 1) := by decide +kernel
theorem d_Law_law_822 : decode (fnB F_Law_law) 822 = .ok (.iadd, 1) := by decide +kernel
theorem d_Law_law_823 : decode (fnB F_Law_law) 823 = .ok (.iaload, 1) := by decide +kernel
theorem d_Law_law_824 : decode (fnB F_Law_law) 824 = .ok (.invokevirtual 114, 3) := by decide +kernel
theorem d_Law_law_827 : decode (fnB F_Law_law) 827 = .ok (.aload_n 2, 1) := by decide +kernel
theorem d_Law_law_828 : decode (fnB F_Law_law) 828 = .ok (.aload_n 0, 1) := by decide +kernel
theorem d_Law_law_829 : decode (fnB F_Law_law) 829 = .ok (.iload_n 3, 1) := by decide +kernel
theorem d_Law_law_830 : decode (fnB F_Law_law) 830 = .ok (.iconst 1, 1) := by decide +kernel
theorem d_Law_law_831 : decode (fnB F_Law_law) 831 = .ok (.iadd, 1) := by decide +kernel
theorem d_Law_law_832 : decode (fnB F_Law_law) 832 = .ok (.iaload, 1) := by decide +kernel
theorem d_Law_law_833 : decode (fnB F_Law_law) 833 = .ok (.aload_n 0, 1) := by decide +kernel
theorem d_Law_law_834 : decode (fnB F_Law_law) 834 = .ok (.iload_n 3, 1) := by decide +kernel
theorem d_Law_law_835 : decode (fnB F_Law_law) 835 = .ok (.iconst 2, 1) := by decide +kernel
theorem d_Law_law_836 : decode (fnB F_Law_law) 836 = .ok (.iadd, 1) := by decide +kernel
theorem d_Law_law_837 : decode (fnB F_Law_law) 837 = .ok (.iaload, 1) := by decide +kernel
theorem d_Law_law_838 : decode (fnB F_Law_law) 838 = .ok (.invokevirtual 117, 3) := by decide +kernel
theorem d_Law_law_841 : decode (fnB F_Law_law) 841 = .ok (.if_icmp .eq 41, 3) := by decide +kernel
theorem d_Law_law_844 : decode (fnB F_Law_law) 844 = .ok (.iconst 0, 1) := by decide +kernel
theorem d_Law_law_845 : decode (fnB F_Law_law) 845 = .ok (.ireturn, 1) := by decide +kernel
theorem d_Law_law_846 : decode (fnB F_Law_law) 846 = .ok (.aload_n 1, 1) := by decide +kernel
theorem d_Law_law_847 : decode (fnB F_Law_law) 847 = .ok (.aload_n 0, 1) := by decide +kernel
theorem d_Law_law_848 : decode (fnB F_Law_law) 848 = .ok (.iload_n 3, 1) := by decide +kernel
theorem d_Law_law_849 : decode (fnB F_Law_law) 849 = .ok (.iconst 1, 1) := by decide +kernel
theorem d_Law_law_850 : decode (fnB F_Law_law) 850 = .ok (.iadd, 1) := by decide +kernel
theorem d_Law_law_851 : decode (fnB F_Law_law) 851 = .ok (.iaload, 1) := by decide +kernel
theorem d_Law_law_852 : decode (fnB F_Law_law) 852 = .ok (.invokevirtual 118, 3) := by decide +kernel
theorem d_Law_law_855 : decode (fnB F_Law_law) 855 = .ok (.aload_n 2, 1) := by decide +kernel
theorem d_Law_law_856 : decode (fnB F_Law_law) 856 = .ok (.aload_n 0, 1) := by decide +kernel
theorem d_Law_law_857 : decode (fnB F_Law_law) 857 = .ok (.iload_n 3, 1) := by decide +kernel
theorem d_Law_law_858 : decode (fnB F_Law_law) 858 = .ok (.iconst 1, 1) := by decide +kernel
theorem d_Law_law_859 : decode (fnB F_Law_law) 859 = .ok (.iadd, 1) := by decide +kernel
theorem d_Law_law_860 : decode (fnB F_Law_law) 860 = .ok (.iaload, 1) := by decide +kernel
theorem d_Law_law_861 : decode (fnB F_Law_law) 861 = .ok (.invokevirtual 121, 3) := by decide +kernel
theorem d_Law_law_864 : decode (fnB F_Law_law) 864 = .ok (.if_icmp .eq 18, 3) := by decide +kernel
theorem d_Law_law_867 : decode (fnB F_Law_law) 867 = .ok (.iconst 0, 1) := by decide +kernel
theorem d_Law_law_868 : decode (fnB F_Law_law) 868 = .ok (.ireturn, 1) := by decide +kernel
theorem d_Law_law_869 : decode (fnB F_Law_law) 869 = .ok (.aload_n 1, 1) := by decide +kernel
theorem d_Law_law_870 : decode (fnB F_Law_law) 870 = .ok (.invokevirtual 122, 3) := by decide +kernel
theorem d_Law_law_873 : decode (fnB F_Law_law) 873 = .ok (.aload_n 2, 1) := by decide +kernel
theorem d_Law_law_874 : decode (fnB F_Law_law) 874 = .ok (.invokevirtual 125, 3) := by decide +kernel
theorem d_Law_law_877 : decode (fnB F_Law_law) 877 = .ok (.if_icmp .eq 5, 3) := by decide +kernel
theorem d_Law_law_880 : decode (fnB F_Law_law) 880 = .ok (.iconst 0, 1) := by decide +kernel
theorem d_Law_law_881 : decode (fnB F_Law_law) 881 = .ok (.ireturn, 1) := by decide +kernel
theorem d_Law_law_882 : decode (fnB F_Law_law) 882 = .ok (.iinc 3 4, 3) := by decide +kernel
theorem d_Law_law_885 : decode (fnB F_Law_law) 885 = .ok (.goto (-867), 3) := by decide +kernel
theorem d_Law_law_888 : decode (fnB F_Law_law) 888 = .ok (.iconst 1, 1) := by decide +kernel
theorem d_Law_law_889 : decode (fnB F_Law_law) 889 = .ok (.ireturn, 1) := by decide +kernel
theorem B_Law_law_0 : (∀ (l0 l1 l2 l3 : Value) (st : List Value) (M : Mm) (Q : Option Value → Mm → Prop), wp F_Law_law 0 [l0, l1, l2, l3] st M Q = wp F_Law_law 3 [l0, l1, l2, l3] (.ref (nxt M) :: st) (nw M (.inl 11) 20) Q) ∧
  (∀ (l0 l1 l2 l3 : Value) (x : Nat) (st : List Value) (M : Mm) (Q : Option Value → Mm → Prop), wp F_Law_law 3 [l0, l1, l2, l3] (.ref x :: st) M Q = wp F_Law_law 4 [l0, l1, l2, l3] (.ref x :: .ref x :: st) M Q) ∧
  (∀ (l0 l1 l2 l3 : Value) (b : Nat) (r0 : Value) (M : Mm) (Q : Option Value → Mm → Prop), wp F_Law_law 4 [l0, l1, l2, l3] [.ref b, r0] M Q = wp F_Mr_init 0 [.ref b, jk] [] M (fun r M1 => wp F_Law_law 7 [l0, l1, l2, l3] (r.toList ++ [r0]) M1 Q)) ∧
  (∀ (l0 l1 l2 l3 : Value) (x : Nat) (st : List Value) (M : Mm) (Q : Option Value → Mm → Prop), wp F_Law_law 7 [l0, l1, l2, l3] (.ref x :: st) M Q = wp F_Law_law 8 [clr l0, .ref x, l2, l3] st M Q) ∧
  (∀ (l0 l1 l2 l3 : Value) (st : List Value) (M : Mm) (Q : Option Value → Mm → Prop), wp F_Law_law 7 [l0, l1, l2, l3] (.null :: st) M Q = wp F_Law_law 8 [clr l0, .null, l2, l3] st M Q) ∧
  (∀ (l0 l1 l2 l3 : Value) (st : List Value) (M : Mm) (Q : Option Value → Mm → Prop), wp F_Law_law 8 [l0, l1, l2, l3] st M Q = wp F_Law_law 11 [l0, l1, l2, l3] (.ref (nxt M) :: st) (nw M (.inl 12) 56) Q) ∧
  (∀ (l0 l1 l2 l3 : Value) (x : Nat) (st : List Value) (M : Mm) (Q : Option Value → Mm → Prop), wp F_Law_law 11 [l0, l1, l2, l3] (.ref x :: st) M Q = wp F_Law_law 12 [l0, l1, l2, l3] (.ref x :: .ref x :: st) M Q) ∧
  (∀ (l0 l1 l2 l3 : Value) (b : Nat) (r0 : Value) (M : Mm) (Q : Option Value → Mm → Prop), wp F_Law_law 12 [l0, l1, l2, l3] [.ref b, r0] M Q = wp F_Md_init 0 [.ref b, jk] [] M (fun r M1 => wp F_Law_law 15 [l0, l1, l2, l3] (r.toList ++ [r0]) M1 Q)) ∧
  (∀ (l0 l1 l2 l3 : Value) (x : Nat) (st : List Value) (M : Mm) (Q : Option Value → Mm → Prop), wp F_Law_law 15 [l0, l1, l2, l3] (.ref x :: st) M Q = wp F_Law_law 16 [l0, clr l1, .ref x, l3] st M Q) ∧
  (∀ (l0 l1 l2 l3 : Value) (st : List Value) (M : Mm) (Q : Option Value → Mm → Prop), wp F_Law_law 15 [l0, l1, l2, l3] (.null :: st) M Q = wp F_Law_law 16 [l0, clr l1, .null, l3] st M Q) ∧
  (∀ (l0 l1 l2 l3 : Value) (st : List Value) (M : Mm) (Q : Option Value → Mm → Prop), wp F_Law_law 16 [l0, l1, l2, l3] st M Q = wp F_Law_law 17 [l0, l1, l2, l3] (.int 0 :: st) M Q) ∧
  (∀ (l0 l1 l2 l3 : Value) (x : Int32) (st : List Value) (M : Mm) (Q : Option Value → Mm → Prop), wp F_Law_law 17 [l0, l1, l2, l3] (.int x :: st) M Q = wp F_Law_law 18 [l0, l1, clr l2, .int x] st M Q) := ⟨fun _ _ _ _ _ _ _ => wp_new d_Law_law_0 nl_13_7, fun _ _ _ _ _ _ _ _ => wp_in d_Law_law_3 rfl rfl, fun _ _ _ _ _ _ _ _ => wp_callI d_Law_law_4 (Or.inl ml_13_9) rfl rfl rfl, fun _ _ _ _ _ _ _ _ => wp_in d_Law_law_7 rfl rfl, fun _ _ _ _ _ _ _ => wp_in d_Law_law_7 rfl rfl, fun _ _ _ _ _ _ _ => wp_new d_Law_law_8 nl_13_10, fun _ _ _ _ _ _ _ _ => wp_in d_Law_law_11 rfl rfl, fun _ _ _ _ _ _ _ _ => wp_callI d_Law_law_12 (Or.inl ml_13_12) rfl rfl rfl, fun _ _ _ _ _ _ _ _ => wp_in d_Law_law_15 rfl rfl, fun _ _ _ _ _ _ _ => wp_in d_Law_law_15 rfl rfl, fun _ _ _ _ _ _ _ => wp_iconst d_Law_law_16 (by decide), fun _ _ _ _ _ _ _ _ => wp_in d_Law_law_17 rfl rfl⟩
theorem B_Law_law_18 : (∀ (l0 l1 l2 : Value) (x : Int32) (st : List Value) (M : Mm) (Q : Option Value → Mm → Prop), wp F_Law_law 18 [l0, l1, l2, .int x] st M Q = wp F_Law_law 19 [l0, l1, l2, .int x] (.int x :: st) M Q) ∧
  (∀ (l1 l2 l3 : Value) (x : Nat) (st : List Value) (M : Mm) (Q : Option Value → Mm → Prop), wp F_Law_law 19 [.ref x, l1, l2, l3] st M Q = wp F_Law_law 20 [.ref x, l1, l2, l3] (.ref x :: st) M Q) ∧
  (∀ (l0 l1 l2 l3 : Value) (a : Nat) (st : List Value) (M : Mm) (Q : Option Value → Mm → Prop), wp F_Law_law 20 [l0, l1, l2, l3] (.ref a :: st) M Q = (match sh M a with | some (.inr (_, n)) => wp F_Law_law 21 [l0, l1, l2, l3] (.int (Int32.ofNat n) :: st) M Q | _ => False)) ∧
  (∀ (l0 l1 l2 l3 : Value) (st : List Value) (M : Mm) (Q : Option Value → Mm → Prop), wp F_Law_law 21 [l0, l1, l2, l3] st M Q = wp F_Law_law 22 [l0, l1, l2, l3] (.int 4 :: st) M Q) ∧
  (∀ (l0 l1 l2 l3 : Value) (x y : Int32) (st : List Value) (M : Mm) (Q : Option Value → Mm → Prop), wp F_Law_law 22 [l0, l1, l2, l3] (.int y :: .int x :: st) M Q = wp F_Law_law 23 [l0, l1, l2, l3] (.int (x - y) :: st) M Q) ∧
  (∀ (l0 l1 l2 l3 : Value) (x y : Int32) (st : List Value) (M : Mm) (Q : Option Value → Mm → Prop), wp F_Law_law 23 [l0, l1, l2, l3] (.int y :: .int x :: st) M Q = if y < x then wp F_Law_law 888 [l0, l1, l2, l3] st M Q else wp F_Law_law 26 [l0, l1, l2, l3] st M Q) ∧
  (∀ (l1 l2 l3 : Value) (x : Nat) (st : List Value) (M : Mm) (Q : Option Value → Mm → Prop), wp F_Law_law 26 [.ref x, l1, l2, l3] st M Q = wp F_Law_law 27 [.ref x, l1, l2, l3] (.ref x :: st) M Q) ∧
  (∀ (l0 l1 l2 : Value) (x : Int32) (st : List Value) (M : Mm) (Q : Option Value → Mm → Prop), wp F_Law_law 27 [l0, l1, l2, .int x] st M Q = wp F_Law_law 28 [l0, l1, l2, .int x] (.int x :: st) M Q) ∧
  (∀ (l0 l1 l2 l3 : Value) (a : Nat) (j : Int32) (st : List Value) (M : Mm) (Q : Option Value → Mm → Prop), wp F_Law_law 28 [l0, l1, l2, l3] (.int j :: .ref a :: st) M Q = (ixI M a j ∧ wp F_Law_law 29 [l0, l1, l2, l3] (.int (gI M a (cl j)) :: st) M Q)) ∧
  (∀ (l0 l1 l2 l3 : Value) (st : List Value) (M : Mm) (Q : Option Value → Mm → Prop), wp F_Law_law 29 [l0, l1, l2, l3] st M Q = wp F_Law_law 31 [l0, l1, l2, l3] (.int 31 :: st) M Q) ∧
  (∀ (l0 l1 l2 l3 : Value) (x y : Int32) (st : List Value) (M : Mm) (Q : Option Value → Mm → Prop), wp F_Law_law 31 [l0, l1, l2, l3] (.int y :: .int x :: st) M Q = wp F_Law_law 32 [l0, l1, l2, l3] (.int (x &&& y) :: st) M Q) ∧
  (∀ (l0 l1 l2 l3 : Value) (st : List Value) (M : Mm) (Q : Option Value → Mm → Prop), wp F_Law_law 32 [l0, l1, l2, l3] (.int 0 :: st) M Q = wp F_Law_law 152 [l0, l1, l2, l3] st M Q) ∧
  (∀ (l0 l1 l2 l3 : Value) (st : List Value) (M : Mm) (Q : Option Value → Mm → Prop), wp F_Law_law 32 [l0, l1, l2, l3] (.int 1 :: st) M Q = wp F_Law_law 215 [l0, l1, l2, l3] st M Q) ∧
  (∀ (l0 l1 l2 l3 : Value) (st : List Value) (M : Mm) (Q : Option Value → Mm → Prop), wp F_Law_law 32 [l0, l1, l2, l3] (.int 2 :: st) M Q = wp F_Law_law 228 [l0, l1, l2, l3] st M Q) ∧
  (∀ (l0 l1 l2 l3 : Value) (st : List Value) (M : Mm) (Q : Option Value → Mm → Prop), wp F_Law_law 32 [l0, l1, l2, l3] (.int 3 :: st) M Q = wp F_Law_law 251 [l0, l1, l2, l3] st M Q) ∧
  (∀ (l0 l1 l2 l3 : Value) (st : List Value) (M : Mm) (Q : Option Value → Mm → Prop), wp F_Law_law 32 [l0, l1, l2, l3] (.int 4 :: st) M Q = wp F_Law_law 264 [l0, l1, l2, l3] st M Q) ∧
  (∀ (l0 l1 l2 l3 : Value) (st : List Value) (M : Mm) (Q : Option Value → Mm → Prop), wp F_Law_law 32 [l0, l1, l2, l3] (.int 5 :: st) M Q = wp F_Law_law 287 [l0, l1, l2, l3] st M Q) ∧
  (∀ (l0 l1 l2 l3 : Value) (st : List Value) (M : Mm) (Q : Option Value → Mm → Prop), wp F_Law_law 32 [l0, l1, l2, l3] (.int 6 :: st) M Q = wp F_Law_law 310 [l0, l1, l2, l3] st M Q) ∧
  (∀ (l0 l1 l2 l3 : Value) (st : List Value) (M : Mm) (Q : Option Value → Mm → Prop), wp F_Law_law 32 [l0, l1, l2, l3] (.int 7 :: st) M Q = wp F_Law_law 343 [l0, l1, l2, l3] st M Q) ∧
  (∀ (l0 l1 l2 l3 : Value) (st : List Value) (M : Mm) (Q : Option Value → Mm → Prop), wp F_Law_law 32 [l0, l1, l2, l3] (.int 8 :: st) M Q = wp F_Law_law 386 [l0, l1, l2, l3] st M Q) ∧
  (∀ (l0 l1 l2 l3 : Value) (st : List Value) (M : Mm) (Q : Option Value → Mm → Prop), wp F_Law_law 32 [l0, l1, l2, l3] (.int 9 :: st) M Q = wp F_Law_law 429 [l0, l1, l2, l3] st M Q) ∧
  (∀ (l0 l1 l2 l3 : Value) (st : List Value) (M : Mm) (Q : Option Value → Mm → Prop), wp F_Law_law 32 [l0, l1, l2, l3] (.int 10 :: st) M Q = wp F_Law_law 442 [l0, l1, l2, l3] st M Q) ∧
  (∀ (l0 l1 l2 l3 : Value) (st : List Value) (M : Mm) (Q : Option Value → Mm → Prop), wp F_Law_law 32 [l0, l1, l2, l3] (.int 11 :: st) M Q = wp F_Law_law 465 [l0, l1, l2, l3] st M Q) ∧
  (∀ (l0 l1 l2 l3 : Value) (st : List Value) (M : Mm) (Q : Option Value → Mm → Prop), wp F_Law_law 32 [l0, l1, l2, l3] (.int 12 :: st) M Q = wp F_Law_law 488 [l0, l1, l2, l3] st M Q) ∧
  (∀ (l0 l1 l2 l3 : Value) (st : List Value) (M : Mm) (Q : Option Value → Mm → Prop), wp F_Law_law 32 [l0, l1, l2, l3] (.int 13 :: st) M Q = wp F_Law_law 521 [l0, l1, l2, l3] st M Q) ∧
  (∀ (l0 l1 l2 l3 : Value) (st : List Value) (M : Mm) (Q : Option Value → Mm → Prop), wp F_Law_law 32 [l0, l1, l2, l3] (.int 14 :: st) M Q = wp F_Law_law 564 [l0, l1, l2, l3] st M Q) ∧
  (∀ (l0 l1 l2 l3 : Value) (st : List Value) (M : Mm) (Q : Option Value → Mm → Prop), wp F_Law_law 32 [l0, l1, l2, l3] (.int 15 :: st) M Q = wp F_Law_law 587 [l0, l1, l2, l3] st M Q) ∧
  (∀ (l0 l1 l2 l3 : Value) (st : List Value) (M : Mm) (Q : Option Value → Mm → Prop), wp F_Law_law 32 [l0, l1, l2, l3] (.int 16 :: st) M Q = wp F_Law_law 620 [l0, l1, l2, l3] st M Q) ∧
  (∀ (l0 l1 l2 l3 : Value) (st : List Value) (M : Mm) (Q : Option Value → Mm → Prop), wp F_Law_law 32 [l0, l1, l2, l3] (.int 17 :: st) M Q = wp F_Law_law 653 [l0, l1, l2, l3] st M Q) ∧
  (∀ (l0 l1 l2 l3 : Value) (st : List Value) (M : Mm) (Q : Option Value → Mm → Prop), wp F_Law_law 32 [l0, l1, l2, l3] (.int 18 :: st) M Q = wp F_Law_law 686 [l0, l1, l2, l3] st M Q) ∧
  (∀ (l0 l1 l2 l3 : Value) (st : List Value) (M : Mm) (Q : Option Value → Mm → Prop), wp F_Law_law 32 [l0, l1, l2, l3] (.int 19 :: st) M Q = wp F_Law_law 710 [l0, l1, l2, l3] st M Q) ∧
  (∀ (l0 l1 l2 l3 : Value) (st : List Value) (M : Mm) (Q : Option Value → Mm → Prop), wp F_Law_law 32 [l0, l1, l2, l3] (.int 20 :: st) M Q = wp F_Law_law 724 [l0, l1, l2, l3] st M Q) ∧
  (∀ (l0 l1 l2 l3 : Value) (st : List Value) (M : Mm) (Q : Option Value → Mm → Prop), wp F_Law_law 32 [l0, l1, l2, l3] (.int 21 :: st) M Q = wp F_Law_law 757 [l0, l1, l2, l3] st M Q) ∧
  (∀ (l0 l1 l2 l3 : Value) (st : List Value) (M : Mm) (Q : Option Value → Mm → Prop), wp F_Law_law 32 [l0, l1, l2, l3] (.int 22 :: st) M Q = wp F_Law_law 780 [l0, l1, l2, l3] st M Q) ∧
  (∀ (l0 l1 l2 l3 : Value) (st : List Value) (M : Mm) (Q : Option Value → Mm → Prop), wp F_Law_law 32 [l0, l1, l2, l3] (.int 23 :: st) M Q = wp F_Law_law 813 [l0, l1, l2, l3] st M Q) ∧
  (∀ (l0 l1 l2 l3 : Value) (st : List Value) (M : Mm) (Q : Option Value → Mm → Prop), wp F_Law_law 32 [l0, l1, l2, l3] (.int 24 :: st) M Q = wp F_Law_law 846 [l0, l1, l2, l3] st M Q) ∧
  (∀ (l0 l1 l2 l3 : Value) (st : List Value) (M : Mm) (Q : Option Value → Mm → Prop), wp F_Law_law 32 [l0, l1, l2, l3] (.int 25 :: st) M Q = wp F_Law_law 869 [l0, l1, l2, l3] st M Q) := ⟨fun _ _ _ _ _ _ _ => wp_in d_Law_law_18 rfl rfl, fun _ _ _ _ _ _ _ => wp_in d_Law_law_19 rfl rfl, fun _ _ _ _ _ _ _ _ => wp_alen d_Law_law_20, fun _ _ _ _ _ _ _ => wp_iconst d_Law_law_21 (by decide), fun _ _ _ _ _ _ _ _ _ => wp_in d_Law_law_22 rfl rfl, fun _ _ _ _ _ _ _ _ _ => wp_icmp_gt d_Law_law_23 rfl, fun _ _ _ _ _ _ _ => wp_in d_Law_law_26 rfl rfl, fun _ _ _ _ _ _ _ => wp_in d_Law_law_27 rfl rfl, fun _ _ _ _ _ _ _ _ _ => wp_iald d_Law_law_28, fun _ _ _ _ _ _ _ => wp_bipush d_Law_law_29 (by decide), fun _ _ _ _ _ _ _ _ _ => wp_in d_Law_law_31 rfl rfl, fun _ _ _ _ _ _ _ => wp_swI d_Law_law_32 (by decide) rfl rfl, fun _ _ _ _ _ _ _ => wp_swI d_Law_law_32 (by decide) rfl rfl, fun _ _ _ _ _ _ _ => wp_swI d_Law_law_32 (by decide) rfl rfl, fun _ _ _ _ _ _ _ => wp_swI d_Law_law_32 (by decide) rfl rfl, fun _ _ _ _ _ _ _ => wp_swI d_Law_law_32 (by decide) rfl rfl, fun _ _ _ _ _ _ _ => wp_swI d_Law_law_32 (by decide) rfl rfl, fun _ _ _ _ _ _ _ => wp_swI d_Law_law_32 (by decide) rfl rfl, fun _ _ _ _ _ _ _ => wp_swI d_Law_law_32 (by decide) rfl rfl, fun _ _ _ _ _ _ _ => wp_swI d_Law_law_32 (by decide) rfl rfl, fun _ _ _ _ _ _ _ => wp_swI d_Law_law_32 (by decide) rfl rfl, fun _ _ _ _ _ _ _ => wp_swI d_Law_law_32 (by decide) rfl rfl, fun _ _ _ _ _ _ _ => wp_swI d_Law_law_32 (by decide) rfl rfl, fun _ _ _ _ _ _ _ => wp_swI d_Law_law_32 (by decide) rfl rfl, fun _ _ _ _ _ _ _ => wp_swI d_Law_law_32 (by decide) rfl rfl, fun _ _ _ _ _ _ _ => wp_swI d_Law_law_32 (by decide) rfl rfl, fun _ _ _ _ _ _ _ => wp_swI d_Law_law_32 (by decide) rfl rfl, fun _ _ _ _ _ _ _ => wp_swI d_Law_law_32 (by decide) rfl rfl, fun _ _ _ _ _ _ _ => wp_swI d_Law_law_32 (by decide) rfl rfl, fun _ _ _ _ _ _ _ => wp_swI d_Law_law_32 (by decide) rfl rfl, fun _ _ _ _ _ _ _ => wp_swI d_Law_law_32 (by decide) rfl rfl, fun _ _ _ _ _ _ _ => wp_swI d_Law_law_32 (by decide) rfl rfl, fun _ _ _ _ _ _ _ => wp_swI d_Law_law_32 (by decide) rfl rfl, fun _ _ _ _ _ _ _ => wp_swI d_Law_law_32 (by decide) rfl rfl, fun _ _ _ _ _ _ _ => wp_swI d_Law_law_32 (by decide) rfl rfl, fun _ _ _ _ _ _ _ => wp_swI d_Law_law_32 (by decide) rfl rfl, fun _ _ _ _ _ _ _ => wp_swI d_Law_law_32 (by decide) rfl rfl⟩
theorem B_Law_law_152 : (∀ (l0 l2 l3 : Value) (x : Nat) (st : List Value) (M : Mm) (Q : Option Value → Mm → Prop), wp F_Law_law 152 [l0, .ref x, l2, l3] st M Q = wp F_Law_law 153 [l0, .ref x, l2, l3] (.ref x :: st) M Q) ∧
  (∀ (l0 l2 l3 : Value) (st : List Value) (M : Mm) (Q : Option Value → Mm → Prop), wp F_Law_law 152 [l0, .null, l2, l3] st M Q = wp F_Law_law 153 [l0, .null, l2, l3] (.null :: st) M Q) ∧
  (∀ (l1 l2 l3 : Value) (x : Nat) (st : List Value) (M : Mm) (Q : Option Value → Mm → Prop), wp F_Law_law 153 [.ref x, l1, l2, l3] st M Q = wp F_Law_law 154 [.ref x, l1, l2, l3] (.ref x :: st) M Q) ∧
  (∀ (l0 l1 l2 : Value) (x : Int32) (st : List Value) (M : Mm) (Q : Option Value → Mm → Prop), wp F_Law_law 154 [l0, l1, l2, .int x] st M Q = wp F_Law_law 155 [l0, l1, l2, .int x] (.int x :: st) M Q) ∧
  (∀ (l0 l1 l2 l3 : Value) (st : List Value) (M : Mm) (Q : Option Value → Mm → Prop), wp F_Law_law 155 [l0, l1, l2, l3] st M Q = wp F_Law_law 156 [l0, l1, l2, l3] (.int 1 :: st) M Q) ∧
  (∀ (l0 l1 l2 l3 : Value) (x y : Int32) (st : List Value) (M : Mm) (Q : Option Value → Mm → Prop), wp F_Law_law 156 [l0, l1, l2, l3] (.int y :: .int x :: st) M Q = wp F_Law_law 157 [l0, l1, l2, l3] (.int (x + y) :: st) M Q) ∧
  (∀ (l0 l1 l2 l3 : Value) (a : Nat) (j : Int32) (st : List Value) (M : Mm) (Q : Option Value → Mm → Prop), wp F_Law_law 157 [l0, l1, l2, l3] (.int j :: .ref a :: st) M Q = (ixI M a j ∧ wp F_Law_law 158 [l0, l1, l2, l3] (.int (gI M a (cl j)) :: st) M Q)) ∧
  (∀ (l0 l1 l2 l3 : Value) (x : Int32) (st : List Value) (M : Mm) (Q : Option Value → Mm → Prop), wp F_Law_law 158 [l0, l1, l2, l3] (.int x :: st) M Q = wp F_Law_law 159 [l0, l1, l2, l3] (.long x.toInt64 :: st) M Q) ∧
  (∀ (l0 l1 l2 l3 : Value) (st : List Value) (M : Mm) (Q : Option Value → Mm → Prop), wp F_Law_law 159 [l0, l1, l2, l3] st M Q = wp F_Law_law 161 [l0, l1, l2, l3] (.int 32 :: st) M Q) ∧
  (∀ (l0 l1 l2 l3 : Value) (x : Int64) (y : Int32) (st : List Value) (M : Mm) (Q : Option Value → Mm → Prop), wp F_Law_law 161 [l0, l1, l2, l3] (.int y :: .long x :: st) M Q = wp F_Law_law 162 [l0, l1, l2, l3] (.long (x <<< (y.toInt64 &&& 63)) :: st) M Q) ∧
  (∀ (l1 l2 l3 : Value) (x : Nat) (st : List Value) (M : Mm) (Q : Option Value → Mm → Prop), wp F_Law_law 162 [.ref x, l1, l2, l3] st M Q = wp F_Law_law 163 [.ref x, l1, l2, l3] (.ref x :: st) M Q) ∧
  (∀ (l0 l1 l2 : Value) (x : Int32) (st : List Value) (M : Mm) (Q : Option Value → Mm → Prop), wp F_Law_law 163 [l0, l1, l2, .int x] st M Q = wp F_Law_law 164 [l0, l1, l2, .int x] (.int x :: st) M Q) ∧
  (∀ (l0 l1 l2 l3 : Value) (st : List Value) (M : Mm) (Q : Option Value → Mm → Prop), wp F_Law_law 164 [l0, l1, l2, l3] st M Q = wp F_Law_law 165 [l0, l1, l2, l3] (.int 2 :: st) M Q) ∧
  (∀ (l0 l1 l2 l3 : Value) (x y : Int32) (st : List Value) (M : Mm) (Q : Option Value → Mm → Prop), wp F_Law_law 165 [l0, l1, l2, l3] (.int y :: .int x :: st) M Q = wp F_Law_law 166 [l0, l1, l2, l3] (.int (x + y) :: st) M Q) ∧
  (∀ (l0 l1 l2 l3 : Value) (a : Nat) (j : Int32) (st : List Value) (M : Mm) (Q : Option Value → Mm → Prop), wp F_Law_law 166 [l0, l1, l2, l3] (.int j :: .ref a :: st) M Q = (ixI M a j ∧ wp F_Law_law 167 [l0, l1, l2, l3] (.int (gI M a (cl j)) :: st) M Q)) ∧
  (∀ (l0 l1 l2 l3 : Value) (x : Int32) (st : List Value) (M : Mm) (Q : Option Value → Mm → Prop), wp F_Law_law 167 [l0, l1, l2, l3] (.int x :: st) M Q = wp F_Law_law 168 [l0, l1, l2, l3] (.long x.toInt64 :: st) M Q) ∧
  (∀ (l0 l1 l2 l3 : Value) (st : List Value) (M : Mm) (Q : Option Value → Mm → Prop), wp F_Law_law 168 [l0, l1, l2, l3] st M Q = wp F_Law_law 171 [l0, l1, l2, l3] (.long 4294967295 :: st) M Q) ∧
  (∀ (l0 l1 l2 l3 : Value) (x y : Int64) (st : List Value) (M : Mm) (Q : Option Value → Mm → Prop), wp F_Law_law 171 [l0, l1, l2, l3] (.long y :: .long x :: st) M Q = wp F_Law_law 172 [l0, l1, l2, l3] (.long (x &&& y) :: st) M Q) ∧
  (∀ (l0 l1 l2 l3 : Value) (x y : Int64) (st : List Value) (M : Mm) (Q : Option Value → Mm → Prop), wp F_Law_law 172 [l0, l1, l2, l3] (.long y :: .long x :: st) M Q = wp F_Law_law 173 [l0, l1, l2, l3] (.long (x ||| y) :: st) M Q) ∧
  (∀ (l1 l2 l3 : Value) (x : Nat) (st : List Value) (M : Mm) (Q : Option Value → Mm → Prop), wp F_Law_law 173 [.ref x, l1, l2, l3] st M Q = wp F_Law_law 174 [.ref x, l1, l2, l3] (.ref x :: st) M Q) ∧
  (∀ (l0 l1 l2 : Value) (x : Int32) (st : List Value) (M : Mm) (Q : Option Value → Mm → Prop), wp F_Law_law 174 [l0, l1, l2, .int x] st M Q = wp F_Law_law 175 [l0, l1, l2, .int x] (.int x :: st) M Q) ∧
  (∀ (l0 l1 l2 l3 : Value) (st : List Value) (M : Mm) (Q : Option Value → Mm → Prop), wp F_Law_law 175 [l0, l1, l2, l3] st M Q = wp F_Law_law 176 [l0, l1, l2, l3] (.int 3 :: st) M Q) ∧
  (∀ (l0 l1 l2 l3 : Value) (x y : Int32) (st : List Value) (M : Mm) (Q : Option Value → Mm → Prop), wp F_Law_law 176 [l0, l1, l2, l3] (.int y :: .int x :: st) M Q = wp F_Law_law 177 [l0, l1, l2, l3] (.int (x + y) :: st) M Q) ∧
  (∀ (l0 l1 l2 l3 : Value) (a : Nat) (j : Int32) (st : List Value) (M : Mm) (Q : Option Value → Mm → Prop), wp F_Law_law 177 [l0, l1, l2, l3] (.int j :: .ref a :: st) M Q = (ixI M a j ∧ wp F_Law_law 178 [l0, l1, l2, l3] (.int (gI M a (cl j)) :: st) M Q)) ∧
  (∀ (l0 l1 l2 l3 : Value) (b : Nat) (p0 : Int64) (p1 : Int32) (M : Mm) (Q : Option Value → Mm → Prop), wp F_Law_law 178 [l0, l1, l2, l3] [.int p1, .long p0, .ref b] M Q = (sh M b = some (.inl 11) ∧ wp F_Mr_feed 0 [.ref b, .long p0, jk, .int p1, jk] [] M (fun r M1 => wp F_Law_law 181 [l0, l1, l2, l3] (r.toList ++ []) M1 Q))) ∧
  (∀ (l0 l1 l3 : Value) (x : Nat) (st : List Value) (M : Mm) (Q : Option Value → Mm → Prop), wp F_Law_law 181 [l0, l1, .ref x, l3] st M Q = wp F_Law_law 182 [l0, l1, .ref x, l3] (.ref x :: st) M Q) ∧
  (∀ (l0 l1 l3 : Value) (st : List Value) (M : Mm) (Q : Option Value → Mm → Prop), wp F_Law_law 181 [l0, l1, .null, l3] st M Q = wp F_Law_law 182 [l0, l1, .null, l3] (.null :: st) M Q) ∧
  (∀ (l1 l2 l3 : Value) (x : Nat) (st : List Value) (M : Mm) (Q : Option Value → Mm → Prop), wp F_Law_law 182 [.ref x, l1, l2, l3] st M Q = wp F_Law_law 183 [.ref x, l1, l2, l3] (.ref x :: st) M Q) ∧
  (∀ (l0 l1 l2 : Value) (x : Int32) (st : List Value) (M : Mm) (Q : Option Value → Mm → Prop), wp F_Law_law 183 [l0, l1, l2, .int x] st M Q = wp F_Law_law 184 [l0, l1, l2, .int x] (.int x :: st) M Q) ∧
  (∀ (l0 l1 l2 l3 : Value) (st : List Value) (M : Mm) (Q : Option Value → Mm → Prop), wp F_Law_law 184 [l0, l1, l2, l3] st M Q = wp F_Law_law 185 [l0, l1, l2, l3] (.int 1 :: st) M Q) ∧
  (∀ (l0 l1 l2 l3 : Value) (x y : Int32) (st : List Value) (M : Mm) (Q : Option Value → Mm → Prop), wp F_Law_law 185 [l0, l1, l2, l3] (.int y :: .int x :: st) M Q = wp F_Law_law 186 [l0, l1, l2, l3] (.int (x + y) :: st) M Q) ∧
  (∀ (l0 l1 l2 l3 : Value) (a : Nat) (j : Int32) (st : List Value) (M : Mm) (Q : Option Value → Mm → Prop), wp F_Law_law 186 [l0, l1, l2, l3] (.int j :: .ref a :: st) M Q = (ixI M a j ∧ wp F_Law_law 187 [l0, l1, l2, l3] (.int (gI M a (cl j)) :: st) M Q)) ∧
  (∀ (l0 l1 l2 l3 : Value) (x : Int32) (st : List Value) (M : Mm) (Q : Option Value → Mm → Prop), wp F_Law_law 187 [l0, l1, l2, l3] (.int x :: st) M Q = wp F_Law_law 188 [l0, l1, l2, l3] (.long x.toInt64 :: st) M Q) ∧
  (∀ (l0 l1 l2 l3 : Value) (st : List Value) (M : Mm) (Q : Option Value → Mm → Prop), wp F_Law_law 188 [l0, l1, l2, l3] st M Q = wp F_Law_law 190 [l0, l1, l2, l3] (.int 32 :: st) M Q) ∧
  (∀ (l0 l1 l2 l3 : Value) (x : Int64) (y : Int32) (st : List Value) (M : Mm) (Q : Option Value → Mm → Prop), wp F_Law_law 190 [l0, l1, l2, l3] (.int y :: .long x :: st) M Q = wp F_Law_law 191 [l0, l1, l2, l3] (.long (x <<< (y.toInt64 &&& 63)) :: st) M Q) ∧
  (∀ (l1 l2 l3 : Value) (x : Nat) (st : List Value) (M : Mm) (Q : Option Value → Mm → Prop), wp F_Law_law 191 [.ref x, l1, l2, l3] st M Q = wp F_Law_law 192 [.ref x, l1, l2, l3] (.ref x :: st) M Q) ∧
  (∀ (l0 l1 l2 : Value) (x : Int32) (st : List Value) (M : Mm) (Q : Option Value → Mm → Prop), wp F_Law_law 192 [l0, l1, l2, .int x] st M Q = wp F_Law_law 193 [l0, l1, l2, .int x] (.int x :: st) M Q) ∧
  (∀ (l0 l1 l2 l3 : Value) (st : List Value) (M : Mm) (Q : Option Value → Mm → Prop), wp F_Law_law 193 [l0, l1, l2, l3] st M Q = wp F_Law_law 194 [l0, l1, l2, l3] (.int 2 :: st) M Q) ∧
  (∀ (l0 l1 l2 l3 : Value) (x y : Int32) (st : List Value) (M : Mm) (Q : Option Value → Mm → Prop), wp F_Law_law 194 [l0, l1, l2, l3] (.int y :: .int x :: st) M Q = wp F_Law_law 195 [l0, l1, l2, l3] (.int (x + y) :: st) M Q) ∧
  (∀ (l0 l1 l2 l3 : Value) (a : Nat) (j : Int32) (st : List Value) (M : Mm) (Q : Option Value → Mm → Prop), wp F_Law_law 195 [l0, l1, l2, l3] (.int j :: .ref a :: st) M Q = (ixI M a j ∧ wp F_Law_law 196 [l0, l1, l2, l3] (.int (gI M a (cl j)) :: st) M Q)) := ⟨fun _ _ _ _ _ _ _ => wp_in d_Law_law_152 rfl rfl, fun _ _ _ _ _ _ => wp_in d_Law_law_152 rfl rfl, fun _ _ _ _ _ _ _ => wp_in d_Law_law_153 rfl rfl, fun _ _ _ _ _ _ _ => wp_in d_Law_law_154 rfl rfl, fun _ _ _ _ _ _ _ => wp_iconst d_Law_law_155 (by decide), fun _ _ _ _ _ _ _ _ _ => wp_in d_Law_law_156 rfl rfl, fun _ _ _ _ _ _ _ _ _ => wp_iald d_Law_law_157, fun _ _ _ _ _ _ _ _ => wp_in d_Law_law_158 rfl rfl, fun _ _ _ _ _ _ _ => wp_bipush d_Law_law_159 (by decide), fun _ _ _ _ _ _ _ _ _ => wp_in d_Law_law_161 rfl rfl, fun _ _ _ _ _ _ _ => wp_in d_Law_law_162 rfl rfl, fun _ _ _ _ _ _ _ => wp_in d_Law_law_163 rfl rfl, fun _ _ _ _ _ _ _ => wp_iconst d_Law_law_164 (by decide), fun _ _ _ _ _ _ _ _ _ => wp_in d_Law_law_165 rfl rfl, fun _ _ _ _ _ _ _ _ _ => wp_iald d_Law_law_166, fun _ _ _ _ _ _ _ _ => wp_in d_Law_law_167 rfl rfl, fun _ _ _ _ _ _ _ => wp_ldc2 d_Law_law_168 ll_13_13, fun _ _ _ _ _ _ _ _ _ => wp_in d_Law_law_171 rfl rfl, fun _ _ _ _ _ _ _ _ _ => wp_in d_Law_law_172 rfl rfl, fun _ _ _ _ _ _ _ => wp_in d_Law_law_173 rfl rfl, fun _ _ _ _ _ _ _ => wp_in d_Law_law_174 rfl rfl, fun _ _ _ _ _ _ _ => wp_iconst d_Law_law_175 (by decide), fun _ _ _ _ _ _ _ _ _ => wp_in d_Law_law_176 rfl rfl, fun _ _ _ _ _ _ _ _ _ => wp_iald d_Law_law_177, fun _ _ _ _ _ _ _ _ _ => wp_callV d_Law_law_178 ml_13_15 rfl rfl rfl, fun _ _ _ _ _ _ _ => wp_in d_Law_law_181 rfl rfl, fun _ _ _ _ _ _ => wp_in d_Law_law_181 rfl rfl, fun _ _ _ _ _ _ _ => wp_in d_Law_law_182 rfl rfl, fun _ _ _ _ _ _ _ => wp_in d_Law_law_183 rfl rfl, fun _ _ _ _ _ _ _ => wp_iconst d_Law_law_184 (by decide), fun _ _ _ _ _ _ _ _ _ => wp_in d_Law_law_185 rfl rfl, fun _ _ _ _ _ _ _ _ _ => wp_iald d_Law_law_186, fun _ _ _ _ _ _ _ _ => wp_in d_Law_law_187 rfl rfl, fun _ _ _ _ _ _ _ => wp_bipush d_Law_law_188 (by decide), fun _ _ _ _ _ _ _ _ _ => wp_in d_Law_law_190 rfl rfl, fun _ _ _ _ _ _ _ => wp_in d_Law_law_191 rfl rfl, fun _ _ _ _ _ _ _ => wp_in d_Law_law_192 rfl rfl, fun _ _ _ _ _ _ _ => wp_iconst d_Law_law_193 (by decide), fun _ _ _ _ _ _ _ _ _ => wp_in d_Law_law_194 rfl rfl, fun _ _ _ _ _ _ _ _ _ => wp_iald d_Law_law_195⟩
theorem B_Law_law_152_1 : (∀ (l0 l1 l2 l3 : Value) (x : Int32) (st : List Value) (M : Mm) (Q : Option Value → Mm → Prop), wp F_Law_law 196 [l0, l1, l2, l3] (.int x :: st) M Q = wp F_Law_law 197 [l0, l1, l2, l3] (.long x.toInt64 :: st) M Q) ∧
  (∀ (l0 l1 l2 l3 : Value) (st : List Value) (M : Mm) (Q : Option Value → Mm → Prop), wp F_Law_law 197 [l0, l1, l2, l3] st M Q = wp F_Law_law 200 [l0, l1, l2, l3] (.long 4294967295 :: st) M Q) ∧
  (∀ (l0 l1 l2 l3 : Value) (x y : Int64) (st : List Value) (M : Mm) (Q : Option Value → Mm → Prop), wp F_Law_law 200 [l0, l1, l2, l3] (.long y :: .long x :: st) M Q = wp F_Law_law 201 [l0, l1, l2, l3] (.long (x &&& y) :: st) M Q) ∧
  (∀ (l0 l1 l2 l3 : Value) (x y : Int64) (st : List Value) (M : Mm) (Q : Option Value → Mm → Prop), wp F_Law_law 201 [l0, l1, l2, l3] (.long y :: .long x :: st) M Q = wp F_Law_law 202 [l0, l1, l2, l3] (.long (x ||| y) :: st) M Q) ∧
  (∀ (l1 l2 l3 : Value) (x : Nat) (st : List Value) (M : Mm) (Q : Option Value → Mm → Prop), wp F_Law_law 202 [.ref x, l1, l2, l3] st M Q = wp F_Law_law 203 [.ref x, l1, l2, l3] (.ref x :: st) M Q) ∧
  (∀ (l0 l1 l2 : Value) (x : Int32) (st : List Value) (M : Mm) (Q : Option Value → Mm → Prop), wp F_Law_law 203 [l0, l1, l2, .int x] st M Q = wp F_Law_law 204 [l0, l1, l2, .int x] (.int x :: st) M Q) ∧
  (∀ (l0 l1 l2 l3 : Value) (st : List Value) (M : Mm) (Q : Option Value → Mm → Prop), wp F_Law_law 204 [l0, l1, l2, l3] st M Q = wp F_Law_law 205 [l0, l1, l2, l3] (.int 3 :: st) M Q) ∧
  (∀ (l0 l1 l2 l3 : Value) (x y : Int32) (st : List Value) (M : Mm) (Q : Option Value → Mm → Prop), wp F_Law_law 205 [l0, l1, l2, l3] (.int y :: .int x :: st) M Q = wp F_Law_law 206 [l0, l1, l2, l3] (.int (x + y) :: st) M Q) ∧
  (∀ (l0 l1 l2 l3 : Value) (a : Nat) (j : Int32) (st : List Value) (M : Mm) (Q : Option Value → Mm → Prop), wp F_Law_law 206 [l0, l1, l2, l3] (.int j :: .ref a :: st) M Q = (ixI M a j ∧ wp F_Law_law 207 [l0, l1, l2, l3] (.int (gI M a (cl j)) :: st) M Q)) ∧
  (∀ (l0 l1 l2 l3 : Value) (b : Nat) (p0 : Int64) (p1 : Int32) (r0 : Value) (M : Mm) (Q : Option Value → Mm → Prop), wp F_Law_law 207 [l0, l1, l2, l3] [.int p1, .long p0, .ref b, r0] M Q = (sh M b = some (.inl 12) ∧ wp F_Md_feed 0 [.ref b, .long p0, jk, .int p1, jk] [] M (fun r M1 => wp F_Law_law 210 [l0, l1, l2, l3] (r.toList ++ [r0]) M1 Q))) ∧
  (∀ (l0 l1 l2 l3 : Value) (x y : Int32) (st : List Value) (M : Mm) (Q : Option Value → Mm → Prop), wp F_Law_law 210 [l0, l1, l2, l3] (.int y :: .int x :: st) M Q = if x = y then wp F_Law_law 882 [l0, l1, l2, l3] st M Q else wp F_Law_law 213 [l0, l1, l2, l3] st M Q) ∧
  (∀ (l0 l1 l2 l3 : Value) (st : List Value) (M : Mm) (Q : Option Value → Mm → Prop), wp F_Law_law 213 [l0, l1, l2, l3] st M Q = wp F_Law_law 214 [l0, l1, l2, l3] (.int 0 :: st) M Q) ∧
  (∀ (l0 l1 l2 l3 : Value) (v : Int32) (M : Mm) (Q : Option Value → Mm → Prop), wp F_Law_law 214 [l0, l1, l2, l3] [.int v] M Q = ((v = 0 ∨ v = 1) ∧ Q (some (.int v)) M)) := ⟨fun _ _ _ _ _ _ _ _ => wp_in d_Law_law_196 rfl rfl, fun _ _ _ _ _ _ _ => wp_ldc2 d_Law_law_197 ll_13_13, fun _ _ _ _ _ _ _ _ _ => wp_in d_Law_law_200 rfl rfl, fun _ _ _ _ _ _ _ _ _ => wp_in d_Law_law_201 rfl rfl, fun _ _ _ _ _ _ _ => wp_in d_Law_law_202 rfl rfl, fun _ _ _ _ _ _ _ => wp_in d_Law_law_203 rfl rfl, fun _ _ _ _ _ _ _ => wp_iconst d_Law_law_204 (by decide), fun _ _ _ _ _ _ _ _ _ => wp_in d_Law_law_205 rfl rfl, fun _ _ _ _ _ _ _ _ _ => wp_iald d_Law_law_206, fun _ _ _ _ _ _ _ _ _ _ => wp_callV d_Law_law_207 ml_13_19 rfl rfl rfl, fun _ _ _ _ _ _ _ _ _ => wp_icmp_eq d_Law_law_210 rfl, fun _ _ _ _ _ _ _ => wp_iconst d_Law_law_213 (by decide), fun _ _ _ _ _ _ _ => wp_retZ d_Law_law_214 rfl⟩
theorem B_Law_law_215 : (∀ (l0 l2 l3 : Value) (x : Nat) (st : List Value) (M : Mm) (Q : Option Value → Mm → Prop), wp F_Law_law 215 [l0, .ref x, l2, l3] st M Q = wp F_Law_law 216 [l0, .ref x, l2, l3] (.ref x :: st) M Q) ∧
  (∀ (l0 l2 l3 : Value) (st : List Value) (M : Mm) (Q : Option Value → Mm → Prop), wp F_Law_law 215 [l0, .null, l2, l3] st M Q = wp F_Law_law 216 [l0, .null, l2, l3] (.null :: st) M Q) ∧
  (∀ (l0 l1 l2 l3 : Value) (b : Nat) (M : Mm) (Q : Option Value → Mm → Prop), wp F_Law_law 216 [l0, l1, l2, l3] [.ref b] M Q = (sh M b = some (.inl 11) ∧ wp F_Mr_read 0 [.ref b, jk] [] M (fun r M1 => wp F_Law_law 219 [l0, l1, l2, l3] (r.toList ++ []) M1 Q))) ∧
  (∀ (l0 l1 l3 : Value) (x : Nat) (st : List Value) (M : Mm) (Q : Option Value → Mm → Prop), wp F_Law_law 219 [l0, l1, .ref x, l3] st M Q = wp F_Law_law 220 [l0, l1, .ref x, l3] (.ref x :: st) M Q) ∧
  (∀ (l0 l1 l3 : Value) (st : List Value) (M : Mm) (Q : Option Value → Mm → Prop), wp F_Law_law 219 [l0, l1, .null, l3] st M Q = wp F_Law_law 220 [l0, l1, .null, l3] (.null :: st) M Q) ∧
  (∀ (l0 l1 l2 l3 : Value) (b : Nat) (r0 : Value) (M : Mm) (Q : Option Value → Mm → Prop), wp F_Law_law 220 [l0, l1, l2, l3] [.ref b, r0] M Q = (sh M b = some (.inl 12) ∧ wp F_Md_read 0 [.ref b, jk, jk, jk] [] M (fun r M1 => wp F_Law_law 223 [l0, l1, l2, l3] (r.toList ++ [r0]) M1 Q))) ∧
  (∀ (l0 l1 l2 l3 : Value) (x y : Int32) (st : List Value) (M : Mm) (Q : Option Value → Mm → Prop), wp F_Law_law 223 [l0, l1, l2, l3] (.int y :: .int x :: st) M Q = if x = y then wp F_Law_law 882 [l0, l1, l2, l3] st M Q else wp F_Law_law 226 [l0, l1, l2, l3] st M Q) ∧
  (∀ (l0 l1 l2 l3 : Value) (st : List Value) (M : Mm) (Q : Option Value → Mm → Prop), wp F_Law_law 226 [l0, l1, l2, l3] st M Q = wp F_Law_law 227 [l0, l1, l2, l3] (.int 0 :: st) M Q) ∧
  (∀ (l0 l1 l2 l3 : Value) (v : Int32) (M : Mm) (Q : Option Value → Mm → Prop), wp F_Law_law 227 [l0, l1, l2, l3] [.int v] M Q = ((v = 0 ∨ v = 1) ∧ Q (some (.int v)) M)) := ⟨fun _ _ _ _ _ _ _ => wp_in d_Law_law_215 rfl rfl, fun _ _ _ _ _ _ => wp_in d_Law_law_215 rfl rfl, fun _ _ _ _ _ _ _ => wp_callV d_Law_law_216 ml_13_20 rfl rfl rfl, fun _ _ _ _ _ _ _ => wp_in d_Law_law_219 rfl rfl, fun _ _ _ _ _ _ => wp_in d_Law_law_219 rfl rfl, fun _ _ _ _ _ _ _ _ => wp_callV d_Law_law_220 ml_13_24 rfl rfl rfl, fun _ _ _ _ _ _ _ _ _ => wp_icmp_eq d_Law_law_223 rfl, fun _ _ _ _ _ _ _ => wp_iconst d_Law_law_226 (by decide), fun _ _ _ _ _ _ _ => wp_retZ d_Law_law_227 rfl⟩
theorem B_Law_law_228 : (∀ (l0 l2 l3 : Value) (x : Nat) (st : List Value) (M : Mm) (Q : Option Value → Mm → Prop), wp F_Law_law 228 [l0, .ref x, l2, l3] st M Q = wp F_Law_law 229 [l0, .ref x, l2, l3] (.ref x :: st) M Q) ∧
  (∀ (l0 l2 l3 : Value) (st : List Value) (M : Mm) (Q : Option Value → Mm → Prop), wp F_Law_law 228 [l0, .null, l2, l3] st M Q = wp F_Law_law 229 [l0, .null, l2, l3] (.null :: st) M Q) ∧
  (∀ (l1 l2 l3 : Value) (x : Nat) (st : List Value) (M : Mm) (Q : Option Value → Mm → Prop), wp F_Law_law 229 [.ref x, l1, l2, l3] st M Q = wp F_Law_law 230 [.ref x, l1, l2, l3] (.ref x :: st) M Q) ∧
  (∀ (l0 l1 l2 : Value) (x : Int32) (st : List Value) (M : Mm) (Q : Option Value → Mm → Prop), wp F_Law_law 230 [l0, l1, l2, .int x] st M Q = wp F_Law_law 231 [l0, l1, l2, .int x] (.int x :: st) M Q) ∧
  (∀ (l0 l1 l2 l3 : Value) (st : List Value) (M : Mm) (Q : Option Value → Mm → Prop), wp F_Law_law 231 [l0, l1, l2, l3] st M Q = wp F_Law_law 232 [l0, l1, l2, l3] (.int 1 :: st) M Q) ∧
  (∀ (l0 l1 l2 l3 : Value) (x y : Int32) (st : List Value) (M : Mm) (Q : Option Value → Mm → Prop), wp F_Law_law 232 [l0, l1, l2, l3] (.int y :: .int x :: st) M Q = wp F_Law_law 233 [l0, l1, l2, l3] (.int (x + y) :: st) M Q) ∧
  (∀ (l0 l1 l2 l3 : Value) (a : Nat) (j : Int32) (st : List Value) (M : Mm) (Q : Option Value → Mm → Prop), wp F_Law_law 233 [l0, l1, l2, l3] (.int j :: .ref a :: st) M Q = (ixI M a j ∧ wp F_Law_law 234 [l0, l1, l2, l3] (.int (gI M a (cl j)) :: st) M Q)) ∧
  (∀ (l0 l1 l2 l3 : Value) (b : Nat) (p0 : Int32) (M : Mm) (Q : Option Value → Mm → Prop), wp F_Law_law 234 [l0, l1, l2, l3] [.int p0, .ref b] M Q = (sh M b = some (.inl 11) ∧ wp F_Mr_word 0 [.ref b, .int p0, jk] [] M (fun r M1 => wp F_Law_law 237 [l0, l1, l2, l3] (r.toList ++ []) M1 Q))) ∧
  (∀ (l0 l1 l3 : Value) (x : Nat) (st : List Value) (M : Mm) (Q : Option Value → Mm → Prop), wp F_Law_law 237 [l0, l1, .ref x, l3] st M Q = wp F_Law_law 238 [l0, l1, .ref x, l3] (.ref x :: st) M Q) ∧
  (∀ (l0 l1 l3 : Value) (st : List Value) (M : Mm) (Q : Option Value → Mm → Prop), wp F_Law_law 237 [l0, l1, .null, l3] st M Q = wp F_Law_law 238 [l0, l1, .null, l3] (.null :: st) M Q) ∧
  (∀ (l1 l2 l3 : Value) (x : Nat) (st : List Value) (M : Mm) (Q : Option Value → Mm → Prop), wp F_Law_law 238 [.ref x, l1, l2, l3] st M Q = wp F_Law_law 239 [.ref x, l1, l2, l3] (.ref x :: st) M Q) ∧
  (∀ (l0 l1 l2 : Value) (x : Int32) (st : List Value) (M : Mm) (Q : Option Value → Mm → Prop), wp F_Law_law 239 [l0, l1, l2, .int x] st M Q = wp F_Law_law 240 [l0, l1, l2, .int x] (.int x :: st) M Q) ∧
  (∀ (l0 l1 l2 l3 : Value) (st : List Value) (M : Mm) (Q : Option Value → Mm → Prop), wp F_Law_law 240 [l0, l1, l2, l3] st M Q = wp F_Law_law 241 [l0, l1, l2, l3] (.int 1 :: st) M Q) ∧
  (∀ (l0 l1 l2 l3 : Value) (x y : Int32) (st : List Value) (M : Mm) (Q : Option Value → Mm → Prop), wp F_Law_law 241 [l0, l1, l2, l3] (.int y :: .int x :: st) M Q = wp F_Law_law 242 [l0, l1, l2, l3] (.int (x + y) :: st) M Q) ∧
  (∀ (l0 l1 l2 l3 : Value) (a : Nat) (j : Int32) (st : List Value) (M : Mm) (Q : Option Value → Mm → Prop), wp F_Law_law 242 [l0, l1, l2, l3] (.int j :: .ref a :: st) M Q = (ixI M a j ∧ wp F_Law_law 243 [l0, l1, l2, l3] (.int (gI M a (cl j)) :: st) M Q)) ∧
  (∀ (l0 l1 l2 l3 : Value) (b : Nat) (p0 : Int32) (r0 : Value) (M : Mm) (Q : Option Value → Mm → Prop), wp F_Law_law 243 [l0, l1, l2, l3] [.int p0, .ref b, r0] M Q = (sh M b = some (.inl 12) ∧ wp F_Md_word 0 [.ref b, .int p0, jk, jk] [] M (fun r M1 => wp F_Law_law 246 [l0, l1, l2, l3] (r.toList ++ [r0]) M1 Q))) ∧
  (∀ (l0 l1 l2 l3 : Value) (x y : Int32) (st : List Value) (M : Mm) (Q : Option Value → Mm → Prop), wp F_Law_law 246 [l0, l1, l2, l3] (.int y :: .int x :: st) M Q = if x = y then wp F_Law_law 882 [l0, l1, l2, l3] st M Q else wp F_Law_law 249 [l0, l1, l2, l3] st M Q) ∧
  (∀ (l0 l1 l2 l3 : Value) (st : List Value) (M : Mm) (Q : Option Value → Mm → Prop), wp F_Law_law 249 [l0, l1, l2, l3] st M Q = wp F_Law_law 250 [l0, l1, l2, l3] (.int 0 :: st) M Q) ∧
  (∀ (l0 l1 l2 l3 : Value) (v : Int32) (M : Mm) (Q : Option Value → Mm → Prop), wp F_Law_law 250 [l0, l1, l2, l3] [.int v] M Q = ((v = 0 ∨ v = 1) ∧ Q (some (.int v)) M)) := ⟨fun _ _ _ _ _ _ _ => wp_in d_Law_law_228 rfl rfl, fun _ _ _ _ _ _ => wp_in d_Law_law_228 rfl rfl, fun _ _ _ _ _ _ _ => wp_in d_Law_law_229 rfl rfl, fun _ _ _ _ _ _ _ => wp_in d_Law_law_230 rfl rfl, fun _ _ _ _ _ _ _ => wp_iconst d_Law_law_231 (by decide), fun _ _ _ _ _ _ _ _ _ => wp_in d_Law_law_232 rfl rfl, fun _ _ _ _ _ _ _ _ _ => wp_iald d_Law_law_233, fun _ _ _ _ _ _ _ _ => wp_callV d_Law_law_234 ml_13_25 rfl rfl rfl, fun _ _ _ _ _ _ _ => wp_in d_Law_law_237 rfl rfl, fun _ _ _ _ _ _ => wp_in d_Law_law_237 rfl rfl, fun _ _ _ _ _ _ _ => wp_in d_Law_law_238 rfl rfl, fun _ _ _ _ _ _ _ => wp_in d_Law_law_239 rfl rfl, fun _ _ _ _ _ _ _ => wp_iconst d_Law_law_240 (by decide), fun _ _ _ _ _ _ _ _ _ => wp_in d_Law_law_241 rfl rfl, fun _ _ _ _ _ _ _ _ _ => wp_iald d_Law_law_242, fun _ _ _ _ _ _ _ _ _ => wp_callV d_Law_law_243 ml_13_29 rfl rfl rfl, fun _ _ _ _ _ _ _ _ _ => wp_icmp_eq d_Law_law_246 rfl, fun _ _ _ _ _ _ _ => wp_iconst d_Law_law_249 (by decide), fun _ _ _ _ _ _ _ => wp_retZ d_Law_law_250 rfl⟩
theorem B_Law_law_251 : (∀ (l0 l2 l3 : Value) (x : Nat) (st : List Value) (M : Mm) (Q : Option Value → Mm → Prop), wp F_Law_law 251 [l0, .ref x, l2, l3] st M Q = wp F_Law_law 252 [l0, .ref x, l2, l3] (.ref x :: st) M Q) ∧
  (∀ (l0 l2 l3 : Value) (st : List Value) (M : Mm) (Q : Option Value → Mm → Prop), wp F_Law_law 251 [l0, .null, l2, l3] st M Q = wp F_Law_law 252 [l0, .null, l2, l3] (.null :: st) M Q) ∧
  (∀ (l0 l1 l2 l3 : Value) (b : Nat) (M : Mm) (Q : Option Value → Mm → Prop), wp F_Law_law 252 [l0, l1, l2, l3] [.ref b] M Q = (sh M b = some (.inl 11) ∧ wp F_Mr_fault 0 [.ref b] [] M (fun r M1 => wp F_Law_law 255 [l0, l1, l2, l3] (r.toList ++ []) M1 Q))) ∧
  (∀ (l0 l1 l3 : Value) (x : Nat) (st : List Value) (M : Mm) (Q : Option Value → Mm → Prop), wp F_Law_law 255 [l0, l1, .ref x, l3] st M Q = wp F_Law_law 256 [l0, l1, .ref x, l3] (.ref x :: st) M Q) ∧
  (∀ (l0 l1 l3 : Value) (st : List Value) (M : Mm) (Q : Option Value → Mm → Prop), wp F_Law_law 255 [l0, l1, .null, l3] st M Q = wp F_Law_law 256 [l0, l1, .null, l3] (.null :: st) M Q) ∧
  (∀ (l0 l1 l2 l3 : Value) (b : Nat) (r0 : Value) (M : Mm) (Q : Option Value → Mm → Prop), wp F_Law_law 256 [l0, l1, l2, l3] [.ref b, r0] M Q = (sh M b = some (.inl 12) ∧ wp F_Md_fault 0 [.ref b] [] M (fun r M1 => wp F_Law_law 259 [l0, l1, l2, l3] (r.toList ++ [r0]) M1 Q))) ∧
  (∀ (l0 l1 l2 l3 : Value) (x y : Int32) (st : List Value) (M : Mm) (Q : Option Value → Mm → Prop), wp F_Law_law 259 [l0, l1, l2, l3] (.int y :: .int x :: st) M Q = if x = y then wp F_Law_law 882 [l0, l1, l2, l3] st M Q else wp F_Law_law 262 [l0, l1, l2, l3] st M Q) ∧
  (∀ (l0 l1 l2 l3 : Value) (st : List Value) (M : Mm) (Q : Option Value → Mm → Prop), wp F_Law_law 262 [l0, l1, l2, l3] st M Q = wp F_Law_law 263 [l0, l1, l2, l3] (.int 0 :: st) M Q) ∧
  (∀ (l0 l1 l2 l3 : Value) (v : Int32) (M : Mm) (Q : Option Value → Mm → Prop), wp F_Law_law 263 [l0, l1, l2, l3] [.int v] M Q = ((v = 0 ∨ v = 1) ∧ Q (some (.int v)) M)) := ⟨fun _ _ _ _ _ _ _ => wp_in d_Law_law_251 rfl rfl, fun _ _ _ _ _ _ => wp_in d_Law_law_251 rfl rfl, fun _ _ _ _ _ _ _ => wp_callV d_Law_law_252 ml_13_30 rfl rfl rfl, fun _ _ _ _ _ _ _ => wp_in d_Law_law_255 rfl rfl, fun _ _ _ _ _ _ => wp_in d_Law_law_255 rfl rfl, fun _ _ _ _ _ _ _ _ => wp_callV d_Law_law_256 ml_13_33 rfl rfl rfl, fun _ _ _ _ _ _ _ _ _ => wp_icmp_eq d_Law_law_259 rfl, fun _ _ _ _ _ _ _ => wp_iconst d_Law_law_262 (by decide), fun _ _ _ _ _ _ _ => wp_retZ d_Law_law_263 rfl⟩
theorem B_Law_law_264 : (∀ (l0 l2 l3 : Value) (x : Nat) (st : List Value) (M : Mm) (Q : Option Value → Mm → Prop), wp F_Law_law 264 [l0, .ref x, l2, l3] st M Q = wp F_Law_law 265 [l0, .ref x, l2, l3] (.ref x :: st) M Q) ∧
  (∀ (l0 l2 l3 : Value) (st : List Value) (M : Mm) (Q : Option Value → Mm → Prop), wp F_Law_law 264 [l0, .null, l2, l3] st M Q = wp F_Law_law 265 [l0, .null, l2, l3] (.null :: st) M Q) ∧
  (∀ (l1 l2 l3 : Value) (x : Nat) (st : List Value) (M : Mm) (Q : Option Value → Mm → Prop), wp F_Law_law 265 [.ref x, l1, l2, l3] st M Q = wp F_Law_law 266 [.ref x, l1, l2, l3] (.ref x :: st) M Q) ∧
  (∀ (l0 l1 l2 : Value) (x : Int32) (st : List Value) (M : Mm) (Q : Option Value → Mm → Prop), wp F_Law_law 266 [l0, l1, l2, .int x] st M Q = wp F_Law_law 267 [l0, l1, l2, .int x] (.int x :: st) M Q) ∧
  (∀ (l0 l1 l2 l3 : Value) (st : List Value) (M : Mm) (Q : Option Value → Mm → Prop), wp F_Law_law 267 [l0, l1, l2, l3] st M Q = wp F_Law_law 268 [l0, l1, l2, l3] (.int 1 :: st) M Q) ∧
  (∀ (l0 l1 l2 l3 : Value) (x y : Int32) (st : List Value) (M : Mm) (Q : Option Value → Mm → Prop), wp F_Law_law 268 [l0, l1, l2, l3] (.int y :: .int x :: st) M Q = wp F_Law_law 269 [l0, l1, l2, l3] (.int (x + y) :: st) M Q) ∧
  (∀ (l0 l1 l2 l3 : Value) (a : Nat) (j : Int32) (st : List Value) (M : Mm) (Q : Option Value → Mm → Prop), wp F_Law_law 269 [l0, l1, l2, l3] (.int j :: .ref a :: st) M Q = (ixI M a j ∧ wp F_Law_law 270 [l0, l1, l2, l3] (.int (gI M a (cl j)) :: st) M Q)) ∧
  (∀ (l0 l1 l2 l3 : Value) (b : Nat) (p0 : Int32) (M : Mm) (Q : Option Value → Mm → Prop), wp F_Law_law 270 [l0, l1, l2, l3] [.int p0, .ref b] M Q = (sh M b = some (.inl 11) ∧ wp F_Mr_complete 0 [.ref b, .int p0, jk] [] M (fun r M1 => wp F_Law_law 273 [l0, l1, l2, l3] (r.toList ++ []) M1 Q))) ∧
  (∀ (l0 l1 l3 : Value) (x : Nat) (st : List Value) (M : Mm) (Q : Option Value → Mm → Prop), wp F_Law_law 273 [l0, l1, .ref x, l3] st M Q = wp F_Law_law 274 [l0, l1, .ref x, l3] (.ref x :: st) M Q) ∧
  (∀ (l0 l1 l3 : Value) (st : List Value) (M : Mm) (Q : Option Value → Mm → Prop), wp F_Law_law 273 [l0, l1, .null, l3] st M Q = wp F_Law_law 274 [l0, l1, .null, l3] (.null :: st) M Q) ∧
  (∀ (l1 l2 l3 : Value) (x : Nat) (st : List Value) (M : Mm) (Q : Option Value → Mm → Prop), wp F_Law_law 274 [.ref x, l1, l2, l3] st M Q = wp F_Law_law 275 [.ref x, l1, l2, l3] (.ref x :: st) M Q) ∧
  (∀ (l0 l1 l2 : Value) (x : Int32) (st : List Value) (M : Mm) (Q : Option Value → Mm → Prop), wp F_Law_law 275 [l0, l1, l2, .int x] st M Q = wp F_Law_law 276 [l0, l1, l2, .int x] (.int x :: st) M Q) ∧
  (∀ (l0 l1 l2 l3 : Value) (st : List Value) (M : Mm) (Q : Option Value → Mm → Prop), wp F_Law_law 276 [l0, l1, l2, l3] st M Q = wp F_Law_law 277 [l0, l1, l2, l3] (.int 1 :: st) M Q) ∧
  (∀ (l0 l1 l2 l3 : Value) (x y : Int32) (st : List Value) (M : Mm) (Q : Option Value → Mm → Prop), wp F_Law_law 277 [l0, l1, l2, l3] (.int y :: .int x :: st) M Q = wp F_Law_law 278 [l0, l1, l2, l3] (.int (x + y) :: st) M Q) ∧
  (∀ (l0 l1 l2 l3 : Value) (a : Nat) (j : Int32) (st : List Value) (M : Mm) (Q : Option Value → Mm → Prop), wp F_Law_law 278 [l0, l1, l2, l3] (.int j :: .ref a :: st) M Q = (ixI M a j ∧ wp F_Law_law 279 [l0, l1, l2, l3] (.int (gI M a (cl j)) :: st) M Q)) ∧
  (∀ (l0 l1 l2 l3 : Value) (b : Nat) (p0 : Int32) (r0 : Value) (M : Mm) (Q : Option Value → Mm → Prop), wp F_Law_law 279 [l0, l1, l2, l3] [.int p0, .ref b, r0] M Q = (sh M b = some (.inl 12) ∧ wp F_Md_complete 0 [.ref b, .int p0, jk] [] M (fun r M1 => wp F_Law_law 282 [l0, l1, l2, l3] (r.toList ++ [r0]) M1 Q))) ∧
  (∀ (l0 l1 l2 l3 : Value) (x y : Int32) (st : List Value) (M : Mm) (Q : Option Value → Mm → Prop), wp F_Law_law 282 [l0, l1, l2, l3] (.int y :: .int x :: st) M Q = if x = y then wp F_Law_law 882 [l0, l1, l2, l3] st M Q else wp F_Law_law 285 [l0, l1, l2, l3] st M Q) ∧
  (∀ (l0 l1 l2 l3 : Value) (st : List Value) (M : Mm) (Q : Option Value → Mm → Prop), wp F_Law_law 285 [l0, l1, l2, l3] st M Q = wp F_Law_law 286 [l0, l1, l2, l3] (.int 0 :: st) M Q) ∧
  (∀ (l0 l1 l2 l3 : Value) (v : Int32) (M : Mm) (Q : Option Value → Mm → Prop), wp F_Law_law 286 [l0, l1, l2, l3] [.int v] M Q = ((v = 0 ∨ v = 1) ∧ Q (some (.int v)) M)) := ⟨fun _ _ _ _ _ _ _ => wp_in d_Law_law_264 rfl rfl, fun _ _ _ _ _ _ => wp_in d_Law_law_264 rfl rfl, fun _ _ _ _ _ _ _ => wp_in d_Law_law_265 rfl rfl, fun _ _ _ _ _ _ _ => wp_in d_Law_law_266 rfl rfl, fun _ _ _ _ _ _ _ => wp_iconst d_Law_law_267 (by decide), fun _ _ _ _ _ _ _ _ _ => wp_in d_Law_law_268 rfl rfl, fun _ _ _ _ _ _ _ _ _ => wp_iald d_Law_law_269, fun _ _ _ _ _ _ _ _ => wp_callV d_Law_law_270 ml_13_34 rfl rfl rfl, fun _ _ _ _ _ _ _ => wp_in d_Law_law_273 rfl rfl, fun _ _ _ _ _ _ => wp_in d_Law_law_273 rfl rfl, fun _ _ _ _ _ _ _ => wp_in d_Law_law_274 rfl rfl, fun _ _ _ _ _ _ _ => wp_in d_Law_law_275 rfl rfl, fun _ _ _ _ _ _ _ => wp_iconst d_Law_law_276 (by decide), fun _ _ _ _ _ _ _ _ _ => wp_in d_Law_law_277 rfl rfl, fun _ _ _ _ _ _ _ _ _ => wp_iald d_Law_law_278, fun _ _ _ _ _ _ _ _ _ => wp_callV d_Law_law_279 ml_13_37 rfl rfl rfl, fun _ _ _ _ _ _ _ _ _ => wp_icmp_eq d_Law_law_282 rfl, fun _ _ _ _ _ _ _ => wp_iconst d_Law_law_285 (by decide), fun _ _ _ _ _ _ _ => wp_retZ d_Law_law_286 rfl⟩
theorem B_Law_law_287 : (∀ (l0 l2 l3 : Value) (x : Nat) (st : List Value) (M : Mm) (Q : Option Value → Mm → Prop), wp F_Law_law 287 [l0, .ref x, l2, l3] st M Q = wp F_Law_law 288 [l0, .ref x, l2, l3] (.ref x :: st) M Q) ∧
  (∀ (l0 l2 l3 : Value) (st : List Value) (M : Mm) (Q : Option Value → Mm → Prop), wp F_Law_law 287 [l0, .null, l2, l3] st M Q = wp F_Law_law 288 [l0, .null, l2, l3] (.null :: st) M Q) ∧
  (∀ (l1 l2 l3 : Value) (x : Nat) (st : List Value) (M : Mm) (Q : Option Value → Mm → Prop), wp F_Law_law 288 [.ref x, l1, l2, l3] st M Q = wp F_Law_law 289 [.ref x, l1, l2, l3] (.ref x :: st) M Q) ∧
  (∀ (l0 l1 l2 : Value) (x : Int32) (st : List Value) (M : Mm) (Q : Option Value → Mm → Prop), wp F_Law_law 289 [l0, l1, l2, .int x] st M Q = wp F_Law_law 290 [l0, l1, l2, .int x] (.int x :: st) M Q) ∧
  (∀ (l0 l1 l2 l3 : Value) (st : List Value) (M : Mm) (Q : Option Value → Mm → Prop), wp F_Law_law 290 [l0, l1, l2, l3] st M Q = wp F_Law_law 291 [l0, l1, l2, l3] (.int 1 :: st) M Q) ∧
  (∀ (l0 l1 l2 l3 : Value) (x y : Int32) (st : List Value) (M : Mm) (Q : Option Value → Mm → Prop), wp F_Law_law 291 [l0, l1, l2, l3] (.int y :: .int x :: st) M Q = wp F_Law_law 292 [l0, l1, l2, l3] (.int (x + y) :: st) M Q) ∧
  (∀ (l0 l1 l2 l3 : Value) (a : Nat) (j : Int32) (st : List Value) (M : Mm) (Q : Option Value → Mm → Prop), wp F_Law_law 292 [l0, l1, l2, l3] (.int j :: .ref a :: st) M Q = (ixI M a j ∧ wp F_Law_law 293 [l0, l1, l2, l3] (.int (gI M a (cl j)) :: st) M Q)) ∧
  (∀ (l0 l1 l2 l3 : Value) (b : Nat) (p0 : Int32) (M : Mm) (Q : Option Value → Mm → Prop), wp F_Law_law 293 [l0, l1, l2, l3] [.int p0, .ref b] M Q = (sh M b = some (.inl 11) ∧ wp F_Mr_count 0 [.ref b, .int p0] [] M (fun r M1 => wp F_Law_law 296 [l0, l1, l2, l3] (r.toList ++ []) M1 Q))) ∧
  (∀ (l0 l1 l3 : Value) (x : Nat) (st : List Value) (M : Mm) (Q : Option Value → Mm → Prop), wp F_Law_law 296 [l0, l1, .ref x, l3] st M Q = wp F_Law_law 297 [l0, l1, .ref x, l3] (.ref x :: st) M Q) ∧
  (∀ (l0 l1 l3 : Value) (st : List Value) (M : Mm) (Q : Option Value → Mm → Prop), wp F_Law_law 296 [l0, l1, .null, l3] st M Q = wp F_Law_law 297 [l0, l1, .null, l3] (.null :: st) M Q) ∧
  (∀ (l1 l2 l3 : Value) (x : Nat) (st : List Value) (M : Mm) (Q : Option Value → Mm → Prop), wp F_Law_law 297 [.ref x, l1, l2, l3] st M Q = wp F_Law_law 298 [.ref x, l1, l2, l3] (.ref x :: st) M Q) ∧
  (∀ (l0 l1 l2 : Value) (x : Int32) (st : List Value) (M : Mm) (Q : Option Value → Mm → Prop), wp F_Law_law 298 [l0, l1, l2, .int x] st M Q = wp F_Law_law 299 [l0, l1, l2, .int x] (.int x :: st) M Q) ∧
  (∀ (l0 l1 l2 l3 : Value) (st : List Value) (M : Mm) (Q : Option Value → Mm → Prop), wp F_Law_law 299 [l0, l1, l2, l3] st M Q = wp F_Law_law 300 [l0, l1, l2, l3] (.int 1 :: st) M Q) ∧
  (∀ (l0 l1 l2 l3 : Value) (x y : Int32) (st : List Value) (M : Mm) (Q : Option Value → Mm → Prop), wp F_Law_law 300 [l0, l1, l2, l3] (.int y :: .int x :: st) M Q = wp F_Law_law 301 [l0, l1, l2, l3] (.int (x + y) :: st) M Q) ∧
  (∀ (l0 l1 l2 l3 : Value) (a : Nat) (j : Int32) (st : List Value) (M : Mm) (Q : Option Value → Mm → Prop), wp F_Law_law 301 [l0, l1, l2, l3] (.int j :: .ref a :: st) M Q = (ixI M a j ∧ wp F_Law_law 302 [l0, l1, l2, l3] (.int (gI M a (cl j)) :: st) M Q)) ∧
  (∀ (l0 l1 l2 l3 : Value) (b : Nat) (p0 : Int32) (r0 : Value) (M : Mm) (Q : Option Value → Mm → Prop), wp F_Law_law 302 [l0, l1, l2, l3] [.int p0, .ref b, r0] M Q = (sh M b = some (.inl 12) ∧ wp F_Md_count 0 [.ref b, .int p0] [] M (fun r M1 => wp F_Law_law 305 [l0, l1, l2, l3] (r.toList ++ [r0]) M1 Q))) ∧
  (∀ (l0 l1 l2 l3 : Value) (x y : Int32) (st : List Value) (M : Mm) (Q : Option Value → Mm → Prop), wp F_Law_law 305 [l0, l1, l2, l3] (.int y :: .int x :: st) M Q = if x = y then wp F_Law_law 882 [l0, l1, l2, l3] st M Q else wp F_Law_law 308 [l0, l1, l2, l3] st M Q) ∧
  (∀ (l0 l1 l2 l3 : Value) (st : List Value) (M : Mm) (Q : Option Value → Mm → Prop), wp F_Law_law 308 [l0, l1, l2, l3] st M Q = wp F_Law_law 309 [l0, l1, l2, l3] (.int 0 :: st) M Q) ∧
  (∀ (l0 l1 l2 l3 : Value) (v : Int32) (M : Mm) (Q : Option Value → Mm → Prop), wp F_Law_law 309 [l0, l1, l2, l3] [.int v] M Q = ((v = 0 ∨ v = 1) ∧ Q (some (.int v)) M)) := ⟨fun _ _ _ _ _ _ _ => wp_in d_Law_law_287 rfl rfl, fun _ _ _ _ _ _ => wp_in d_Law_law_287 rfl rfl, fun _ _ _ _ _ _ _ => wp_in d_Law_law_288 rfl rfl, fun _ _ _ _ _ _ _ => wp_in d_Law_law_289 rfl rfl, fun _ _ _ _ _ _ _ => wp_iconst d_Law_law_290 (by decide), fun _ _ _ _ _ _ _ _ _ => wp_in d_Law_law_291 rfl rfl, fun _ _ _ _ _ _ _ _ _ => wp_iald d_Law_law_292, fun _ _ _ _ _ _ _ _ => wp_callV d_Law_law_293 ml_13_38 rfl rfl rfl, fun _ _ _ _ _ _ _ => wp_in d_Law_law_296 rfl rfl, fun _ _ _ _ _ _ => wp_in d_Law_law_296 rfl rfl, fun _ _ _ _ _ _ _ => wp_in d_Law_law_297 rfl rfl, fun _ _ _ _ _ _ _ => wp_in d_Law_law_298 rfl rfl, fun _ _ _ _ _ _ _ => wp_iconst d_Law_law_299 (by decide), fun _ _ _ _ _ _ _ _ _ => wp_in d_Law_law_300 rfl rfl, fun _ _ _ _ _ _ _ _ _ => wp_iald d_Law_law_301, fun _ _ _ _ _ _ _ _ _ => wp_callV d_Law_law_302 ml_13_41 rfl rfl rfl, fun _ _ _ _ _ _ _ _ _ => wp_icmp_eq d_Law_law_305 rfl, fun _ _ _ _ _ _ _ => wp_iconst d_Law_law_308 (by decide), fun _ _ _ _ _ _ _ => wp_retZ d_Law_law_309 rfl⟩
theorem B_Law_law_310 : (∀ (l0 l2 l3 : Value) (x : Nat) (st : List Value) (M : Mm) (Q : Option Value → Mm → Prop), wp F_Law_law 310 [l0, .ref x, l2, l3] st M Q = wp F_Law_law 311 [l0, .ref x, l2, l3] (.ref x :: st) M Q) ∧
  (∀ (l0 l2 l3 : Value) (st : List Value) (M : Mm) (Q : Option Value → Mm → Prop), wp F_Law_law 310 [l0, .null, l2, l3] st M Q = wp F_Law_law 311 [l0, .null, l2, l3] (.null :: st) M Q) ∧
  (∀ (l1 l2 l3 : Value) (x : Nat) (st : List Value) (M : Mm) (Q : Option Value → Mm → Prop), wp F_Law_law 311 [.ref x, l1, l2, l3] st M Q = wp F_Law_law 312 [.ref x, l1, l2, l3] (.ref x :: st) M Q) ∧
  (∀ (l0 l1 l2 : Value) (x : Int32) (st : List Value) (M : Mm) (Q : Option Value → Mm → Prop), wp F_Law_law 312 [l0, l1, l2, .int x] st M Q = wp F_Law_law 313 [l0, l1, l2, .int x] (.int x :: st) M Q) ∧
  (∀ (l0 l1 l2 l3 : Value) (st : List Value) (M : Mm) (Q : Option Value → Mm → Prop), wp F_Law_law 313 [l0, l1, l2, l3] st M Q = wp F_Law_law 314 [l0, l1, l2, l3] (.int 1 :: st) M Q) ∧
  (∀ (l0 l1 l2 l3 : Value) (x y : Int32) (st : List Value) (M : Mm) (Q : Option Value → Mm → Prop), wp F_Law_law 314 [l0, l1, l2, l3] (.int y :: .int x :: st) M Q = wp F_Law_law 315 [l0, l1, l2, l3] (.int (x + y) :: st) M Q) ∧
  (∀ (l0 l1 l2 l3 : Value) (a : Nat) (j : Int32) (st : List Value) (M : Mm) (Q : Option Value → Mm → Prop), wp F_Law_law 315 [l0, l1, l2, l3] (.int j :: .ref a :: st) M Q = (ixI M a j ∧ wp F_Law_law 316 [l0, l1, l2, l3] (.int (gI M a (cl j)) :: st) M Q)) ∧
  (∀ (l1 l2 l3 : Value) (x : Nat) (st : List Value) (M : Mm) (Q : Option Value → Mm → Prop), wp F_Law_law 316 [.ref x, l1, l2, l3] st M Q = wp F_Law_law 317 [.ref x, l1, l2, l3] (.ref x :: st) M Q) ∧
  (∀ (l0 l1 l2 : Value) (x : Int32) (st : List Value) (M : Mm) (Q : Option Value → Mm → Prop), wp F_Law_law 317 [l0, l1, l2, .int x] st M Q = wp F_Law_law 318 [l0, l1, l2, .int x] (.int x :: st) M Q) ∧
  (∀ (l0 l1 l2 l3 : Value) (st : List Value) (M : Mm) (Q : Option Value → Mm → Prop), wp F_Law_law 318 [l0, l1, l2, l3] st M Q = wp F_Law_law 319 [l0, l1, l2, l3] (.int 2 :: st) M Q) ∧
  (∀ (l0 l1 l2 l3 : Value) (x y : Int32) (st : List Value) (M : Mm) (Q : Option Value → Mm → Prop), wp F_Law_law 319 [l0, l1, l2, l3] (.int y :: .int x :: st) M Q = wp F_Law_law 320 [l0, l1, l2, l3] (.int (x + y) :: st) M Q) ∧
  (∀ (l0 l1 l2 l3 : Value) (a : Nat) (j : Int32) (st : List Value) (M : Mm) (Q : Option Value → Mm → Prop), wp F_Law_law 320 [l0, l1, l2, l3] (.int j :: .ref a :: st) M Q = (ixI M a j ∧ wp F_Law_law 321 [l0, l1, l2, l3] (.int (gI M a (cl j)) :: st) M Q)) ∧
  (∀ (l0 l1 l2 l3 : Value) (b : Nat) (p0 : Int32) (p1 : Int32) (M : Mm) (Q : Option Value → Mm → Prop), wp F_Law_law 321 [l0, l1, l2, l3] [.int p1, .int p0, .ref b] M Q = (sh M b = some (.inl 11) ∧ wp F_Mr_rule 0 [.ref b, .int p0, .int p1] [] M (fun r M1 => wp F_Law_law 324 [l0, l1, l2, l3] (r.toList ++ []) M1 Q))) ∧
  (∀ (l0 l1 l3 : Value) (x : Nat) (st : List Value) (M : Mm) (Q : Option Value → Mm → Prop), wp F_Law_law 324 [l0, l1, .ref x, l3] st M Q = wp F_Law_law 325 [l0, l1, .ref x, l3] (.ref x :: st) M Q) ∧
  (∀ (l0 l1 l3 : Value) (st : List Value) (M : Mm) (Q : Option Value → Mm → Prop), wp F_Law_law 324 [l0, l1, .null, l3] st M Q = wp F_Law_law 325 [l0, l1, .null, l3] (.null :: st) M Q) ∧
  (∀ (l1 l2 l3 : Value) (x : Nat) (st : List Value) (M : Mm) (Q : Option Value → Mm → Prop), wp F_Law_law 325 [.ref x, l1, l2, l3] st M Q = wp F_Law_law 326 [.ref x, l1, l2, l3] (.ref x :: st) M Q) ∧
  (∀ (l0 l1 l2 : Value) (x : Int32) (st : List Value) (M : Mm) (Q : Option Value → Mm → Prop), wp F_Law_law 326 [l0, l1, l2, .int x] st M Q = wp F_Law_law 327 [l0, l1, l2, .int x] (.int x :: st) M Q) ∧
  (∀ (l0 l1 l2 l3 : Value) (st : List Value) (M : Mm) (Q : Option Value → Mm → Prop), wp F_Law_law 327 [l0, l1, l2, l3] st M Q = wp F_Law_law 328 [l0, l1, l2, l3] (.int 1 :: st) M Q) ∧
  (∀ (l0 l1 l2 l3 : Value) (x y : Int32) (st : List Value) (M : Mm) (Q : Option Value → Mm → Prop), wp F_Law_law 328 [l0, l1, l2, l3] (.int y :: .int x :: st) M Q = wp F_Law_law 329 [l0, l1, l2, l3] (.int (x + y) :: st) M Q) ∧
  (∀ (l0 l1 l2 l3 : Value) (a : Nat) (j : Int32) (st : List Value) (M : Mm) (Q : Option Value → Mm → Prop), wp F_Law_law 329 [l0, l1, l2, l3] (.int j :: .ref a :: st) M Q = (ixI M a j ∧ wp F_Law_law 330 [l0, l1, l2, l3] (.int (gI M a (cl j)) :: st) M Q)) ∧
  (∀ (l1 l2 l3 : Value) (x : Nat) (st : List Value) (M : Mm) (Q : Option Value → Mm → Prop), wp F_Law_law 330 [.ref x, l1, l2, l3] st M Q = wp F_Law_law 331 [.ref x, l1, l2, l3] (.ref x :: st) M Q) ∧
  (∀ (l0 l1 l2 : Value) (x : Int32) (st : List Value) (M : Mm) (Q : Option Value → Mm → Prop), wp F_Law_law 331 [l0, l1, l2, .int x] st M Q = wp F_Law_law 332 [l0, l1, l2, .int x] (.int x :: st) M Q) ∧
  (∀ (l0 l1 l2 l3 : Value) (st : List Value) (M : Mm) (Q : Option Value → Mm → Prop), wp F_Law_law 332 [l0, l1, l2, l3] st M Q = wp F_Law_law 333 [l0, l1, l2, l3] (.int 2 :: st) M Q) ∧
  (∀ (l0 l1 l2 l3 : Value) (x y : Int32) (st : List Value) (M : Mm) (Q : Option Value → Mm → Prop), wp F_Law_law 333 [l0, l1, l2, l3] (.int y :: .int x :: st) M Q = wp F_Law_law 334 [l0, l1, l2, l3] (.int (x + y) :: st) M Q) ∧
  (∀ (l0 l1 l2 l3 : Value) (a : Nat) (j : Int32) (st : List Value) (M : Mm) (Q : Option Value → Mm → Prop), wp F_Law_law 334 [l0, l1, l2, l3] (.int j :: .ref a :: st) M Q = (ixI M a j ∧ wp F_Law_law 335 [l0, l1, l2, l3] (.int (gI M a (cl j)) :: st) M Q)) ∧
  (∀ (l0 l1 l2 l3 : Value) (b : Nat) (p0 : Int32) (p1 : Int32) (r0 : Value) (M : Mm) (Q : Option Value → Mm → Prop), wp F_Law_law 335 [l0, l1, l2, l3] [.int p1, .int p0, .ref b, r0] M Q = (sh M b = some (.inl 12) ∧ wp F_Md_rule 0 [.ref b, .int p0, .int p1] [] M (fun r M1 => wp F_Law_law 338 [l0, l1, l2, l3] (r.toList ++ [r0]) M1 Q))) ∧
  (∀ (l0 l1 l2 l3 : Value) (x y : Int32) (st : List Value) (M : Mm) (Q : Option Value → Mm → Prop), wp F_Law_law 338 [l0, l1, l2, l3] (.int y :: .int x :: st) M Q = if x = y then wp F_Law_law 882 [l0, l1, l2, l3] st M Q else wp F_Law_law 341 [l0, l1, l2, l3] st M Q) ∧
  (∀ (l0 l1 l2 l3 : Value) (st : List Value) (M : Mm) (Q : Option Value → Mm → Prop), wp F_Law_law 341 [l0, l1, l2, l3] st M Q = wp F_Law_law 342 [l0, l1, l2, l3] (.int 0 :: st) M Q) ∧
  (∀ (l0 l1 l2 l3 : Value) (v : Int32) (M : Mm) (Q : Option Value → Mm → Prop), wp F_Law_law 342 [l0, l1, l2, l3] [.int v] M Q = ((v = 0 ∨ v = 1) ∧ Q (some (.int v)) M)) := ⟨fun _ _ _ _ _ _ _ => wp_in d_Law_law_310 rfl rfl, fun _ _ _ _ _ _ => wp_in d_Law_law_310 rfl rfl, fun _ _ _ _ _ _ _ => wp_in d_Law_law_311 rfl rfl, fun _ _ _ _ _ _ _ => wp_in d_Law_law_312 rfl rfl, fun _ _ _ _ _ _ _ => wp_iconst d_Law_law_313 (by decide), fun _ _ _ _ _ _ _ _ _ => wp_in d_Law_law_314 rfl rfl, fun _ _ _ _ _ _ _ _ _ => wp_iald d_Law_law_315, fun _ _ _ _ _ _ _ => wp_in d_Law_law_316 rfl rfl, fun _ _ _ _ _ _ _ => wp_in d_Law_law_317 rfl rfl, fun _ _ _ _ _ _ _ => wp_iconst d_Law_law_318 (by decide), fun _ _ _ _ _ _ _ _ _ => wp_in d_Law_law_319 rfl rfl, fun _ _ _ _ _ _ _ _ _ => wp_iald d_Law_law_320, fun _ _ _ _ _ _ _ _ _ => wp_callV d_Law_law_321 ml_13_42 rfl rfl rfl, fun _ _ _ _ _ _ _ => wp_in d_Law_law_324 rfl rfl, fun _ _ _ _ _ _ => wp_in d_Law_law_324 rfl rfl, fun _ _ _ _ _ _ _ => wp_in d_Law_law_325 rfl rfl, fun _ _ _ _ _ _ _ => wp_in d_Law_law_326 rfl rfl, fun _ _ _ _ _ _ _ => wp_iconst d_Law_law_327 (by decide), fun _ _ _ _ _ _ _ _ _ => wp_in d_Law_law_328 rfl rfl, fun _ _ _ _ _ _ _ _ _ => wp_iald d_Law_law_329, fun _ _ _ _ _ _ _ => wp_in d_Law_law_330 rfl rfl, fun _ _ _ _ _ _ _ => wp_in d_Law_law_331 rfl rfl, fun _ _ _ _ _ _ _ => wp_iconst d_Law_law_332 (by decide), fun _ _ _ _ _ _ _ _ _ => wp_in d_Law_law_333 rfl rfl, fun _ _ _ _ _ _ _ _ _ => wp_iald d_Law_law_334, fun _ _ _ _ _ _ _ _ _ _ => wp_callV d_Law_law_335 ml_13_46 rfl rfl rfl, fun _ _ _ _ _ _ _ _ _ => wp_icmp_eq d_Law_law_338 rfl, fun _ _ _ _ _ _ _ => wp_iconst d_Law_law_341 (by decide), fun _ _ _ _ _ _ _ => wp_retZ d_Law_law_342 rfl⟩
theorem B_Law_law_343 : (∀ (l0 l2 l3 : Value) (x : Nat) (st : List Value) (M : Mm) (Q : Option Value → Mm → Prop), wp F_Law_law 343 [l0, .ref x, l2, l3] st M Q = wp F_Law_law 344 [l0, .ref x, l2, l3] (.ref x :: st) M Q) ∧
  (∀ (l0 l2 l3 : Value) (st : List Value) (M : Mm) (Q : Option Value → Mm → Prop), wp F_Law_law 343 [l0, .null, l2, l3] st M Q = wp F_Law_law 344 [l0, .null, l2, l3] (.null :: st) M Q) ∧
  (∀ (l1 l2 l3 : Value) (x : Nat) (st : List Value) (M : Mm) (Q : Option Value → Mm → Prop), wp F_Law_law 344 [.ref x, l1, l2, l3] st M Q = wp F_Law_law 345 [.ref x, l1, l2, l3] (.ref x :: st) M Q) ∧
  (∀ (l0 l1 l2 : Value) (x : Int32) (st : List Value) (M : Mm) (Q : Option Value → Mm → Prop), wp F_Law_law 345 [l0, l1, l2, .int x] st M Q = wp F_Law_law 346 [l0, l1, l2, .int x] (.int x :: st) M Q) ∧
  (∀ (l0 l1 l2 l3 : Value) (st : List Value) (M : Mm) (Q : Option Value → Mm → Prop), wp F_Law_law 346 [l0, l1, l2, l3] st M Q = wp F_Law_law 347 [l0, l1, l2, l3] (.int 1 :: st) M Q) ∧
  (∀ (l0 l1 l2 l3 : Value) (x y : Int32) (st : List Value) (M : Mm) (Q : Option Value → Mm → Prop), wp F_Law_law 347 [l0, l1, l2, l3] (.int y :: .int x :: st) M Q = wp F_Law_law 348 [l0, l1, l2, l3] (.int (x + y) :: st) M Q) ∧
  (∀ (l0 l1 l2 l3 : Value) (a : Nat) (j : Int32) (st : List Value) (M : Mm) (Q : Option Value → Mm → Prop), wp F_Law_law 348 [l0, l1, l2, l3] (.int j :: .ref a :: st) M Q = (ixI M a j ∧ wp F_Law_law 349 [l0, l1, l2, l3] (.int (gI M a (cl j)) :: st) M Q)) ∧
  (∀ (l1 l2 l3 : Value) (x : Nat) (st : List Value) (M : Mm) (Q : Option Value → Mm → Prop), wp F_Law_law 349 [.ref x, l1, l2, l3] st M Q = wp F_Law_law 350 [.ref x, l1, l2, l3] (.ref x :: st) M Q) ∧
  (∀ (l0 l1 l2 : Value) (x : Int32) (st : List Value) (M : Mm) (Q : Option Value → Mm → Prop), wp F_Law_law 350 [l0, l1, l2, .int x] st M Q = wp F_Law_law 351 [l0, l1, l2, .int x] (.int x :: st) M Q) ∧
  (∀ (l0 l1 l2 l3 : Value) (st : List Value) (M : Mm) (Q : Option Value → Mm → Prop), wp F_Law_law 351 [l0, l1, l2, l3] st M Q = wp F_Law_law 352 [l0, l1, l2, l3] (.int 2 :: st) M Q) ∧
  (∀ (l0 l1 l2 l3 : Value) (x y : Int32) (st : List Value) (M : Mm) (Q : Option Value → Mm → Prop), wp F_Law_law 352 [l0, l1, l2, l3] (.int y :: .int x :: st) M Q = wp F_Law_law 353 [l0, l1, l2, l3] (.int (x + y) :: st) M Q) ∧
  (∀ (l0 l1 l2 l3 : Value) (a : Nat) (j : Int32) (st : List Value) (M : Mm) (Q : Option Value → Mm → Prop), wp F_Law_law 353 [l0, l1, l2, l3] (.int j :: .ref a :: st) M Q = (ixI M a j ∧ wp F_Law_law 354 [l0, l1, l2, l3] (.int (gI M a (cl j)) :: st) M Q)) ∧
  (∀ (l1 l2 l3 : Value) (x : Nat) (st : List Value) (M : Mm) (Q : Option Value → Mm → Prop), wp F_Law_law 354 [.ref x, l1, l2, l3] st M Q = wp F_Law_law 355 [.ref x, l1, l2, l3] (.ref x :: st) M Q) ∧
  (∀ (l0 l1 l2 : Value) (x : Int32) (st : List Value) (M : Mm) (Q : Option Value → Mm → Prop), wp F_Law_law 355 [l0, l1, l2, .int x] st M Q = wp F_Law_law 356 [l0, l1, l2, .int x] (.int x :: st) M Q) ∧
  (∀ (l0 l1 l2 l3 : Value) (st : List Value) (M : Mm) (Q : Option Value → Mm → Prop), wp F_Law_law 356 [l0, l1, l2, l3] st M Q = wp F_Law_law 357 [l0, l1, l2, l3] (.int 3 :: st) M Q) ∧
  (∀ (l0 l1 l2 l3 : Value) (x y : Int32) (st : List Value) (M : Mm) (Q : Option Value → Mm → Prop), wp F_Law_law 357 [l0, l1, l2, l3] (.int y :: .int x :: st) M Q = wp F_Law_law 358 [l0, l1, l2, l3] (.int (x + y) :: st) M Q) ∧
  (∀ (l0 l1 l2 l3 : Value) (a : Nat) (j : Int32) (st : List Value) (M : Mm) (Q : Option Value → Mm → Prop), wp F_Law_law 358 [l0, l1, l2, l3] (.int j :: .ref a :: st) M Q = (ixI M a j ∧ wp F_Law_law 359 [l0, l1, l2, l3] (.int (gI M a (cl j)) :: st) M Q)) ∧
  (∀ (l0 l1 l2 l3 : Value) (b : Nat) (p0 : Int32) (p1 : Int32) (p2 : Int32) (M : Mm) (Q : Option Value → Mm → Prop), wp F_Law_law 359 [l0, l1, l2, l3] [.int p2, .int p1, .int p0, .ref b] M Q = (sh M b = some (.inl 11) ∧ wp F_Mr_ruleLetter 0 [.ref b, .int p0, .int p1, .int p2, jk] [] M (fun r M1 => wp F_Law_law 362 [l0, l1, l2, l3] (r.toList ++ []) M1 Q))) ∧
  (∀ (l0 l1 l3 : Value) (x : Nat) (st : List Value) (M : Mm) (Q : Option Value → Mm → Prop), wp F_Law_law 362 [l0, l1, .ref x, l3] st M Q = wp F_Law_law 363 [l0, l1, .ref x, l3] (.ref x :: st) M Q) ∧
  (∀ (l0 l1 l3 : Value) (st : List Value) (M : Mm) (Q : Option Value → Mm → Prop), wp F_Law_law 362 [l0, l1, .null, l3] st M Q = wp F_Law_law 363 [l0, l1, .null, l3] (.null :: st) M Q) ∧
  (∀ (l1 l2 l3 : Value) (x : Nat) (st : List Value) (M : Mm) (Q : Option Value → Mm → Prop), wp F_Law_law 363 [.ref x, l1, l2, l3] st M Q = wp F_Law_law 364 [.ref x, l1, l2, l3] (.ref x :: st) M Q) ∧
  (∀ (l0 l1 l2 : Value) (x : Int32) (st : List Value) (M : Mm) (Q : Option Value → Mm → Prop), wp F_Law_law 364 [l0, l1, l2, .int x] st M Q = wp F_Law_law 365 [l0, l1, l2, .int x] (.int x :: st) M Q) ∧
  (∀ (l0 l1 l2 l3 : Value) (st : List Value) (M : Mm) (Q : Option Value → Mm → Prop), wp F_Law_law 365 [l0, l1, l2, l3] st M Q = wp F_Law_law 366 [l0, l1, l2, l3] (.int 1 :: st) M Q) ∧
  (∀ (l0 l1 l2 l3 : Value) (x y : Int32) (st : List Value) (M : Mm) (Q : Option Value → Mm → Prop), wp F_Law_law 366 [l0, l1, l2, l3] (.int y :: .int x :: st) M Q = wp F_Law_law 367 [l0, l1, l2, l3] (.int (x + y) :: st) M Q) ∧
  (∀ (l0 l1 l2 l3 : Value) (a : Nat) (j : Int32) (st : List Value) (M : Mm) (Q : Option Value → Mm → Prop), wp F_Law_law 367 [l0, l1, l2, l3] (.int j :: .ref a :: st) M Q = (ixI M a j ∧ wp F_Law_law 368 [l0, l1, l2, l3] (.int (gI M a (cl j)) :: st) M Q)) ∧
  (∀ (l1 l2 l3 : Value) (x : Nat) (st : List Value) (M : Mm) (Q : Option Value → Mm → Prop), wp F_Law_law 368 [.ref x, l1, l2, l3] st M Q = wp F_Law_law 369 [.ref x, l1, l2, l3] (.ref x :: st) M Q) ∧
  (∀ (l0 l1 l2 : Value) (x : Int32) (st : List Value) (M : Mm) (Q : Option Value → Mm → Prop), wp F_Law_law 369 [l0, l1, l2, .int x] st M Q = wp F_Law_law 370 [l0, l1, l2, .int x] (.int x :: st) M Q) ∧
  (∀ (l0 l1 l2 l3 : Value) (st : List Value) (M : Mm) (Q : Option Value → Mm → Prop), wp F_Law_law 370 [l0, l1, l2, l3] st M Q = wp F_Law_law 371 [l0, l1, l2, l3] (.int 2 :: st) M Q) ∧
  (∀ (l0 l1 l2 l3 : Value) (x y : Int32) (st : List Value) (M : Mm) (Q : Option Value → Mm → Prop), wp F_Law_law 371 [l0, l1, l2, l3] (.int y :: .int x :: st) M Q = wp F_Law_law 372 [l0, l1, l2, l3] (.int (x + y) :: st) M Q) ∧
  (∀ (l0 l1 l2 l3 : Value) (a : Nat) (j : Int32) (st : List Value) (M : Mm) (Q : Option Value → Mm → Prop), wp F_Law_law 372 [l0, l1, l2, l3] (.int j :: .ref a :: st) M Q = (ixI M a j ∧ wp F_Law_law 373 [l0, l1, l2, l3] (.int (gI M a (cl j)) :: st) M Q)) ∧
  (∀ (l1 l2 l3 : Value) (x : Nat) (st : List Value) (M : Mm) (Q : Option Value → Mm → Prop), wp F_Law_law 373 [.ref x, l1, l2, l3] st M Q = wp F_Law_law 374 [.ref x, l1, l2, l3] (.ref x :: st) M Q) ∧
  (∀ (l0 l1 l2 : Value) (x : Int32) (st : List Value) (M : Mm) (Q : Option Value → Mm → Prop), wp F_Law_law 374 [l0, l1, l2, .int x] st M Q = wp F_Law_law 375 [l0, l1, l2, .int x] (.int x :: st) M Q) ∧
  (∀ (l0 l1 l2 l3 : Value) (st : List Value) (M : Mm) (Q : Option Value → Mm → Prop), wp F_Law_law 375 [l0, l1, l2, l3] st M Q = wp F_Law_law 376 [l0, l1, l2, l3] (.int 3 :: st) M Q) ∧
  (∀ (l0 l1 l2 l3 : Value) (x y : Int32) (st : List Value) (M : Mm) (Q : Option Value → Mm → Prop), wp F_Law_law 376 [l0, l1, l2, l3] (.int y :: .int x :: st) M Q = wp F_Law_law 377 [l0, l1, l2, l3] (.int (x + y) :: st) M Q) ∧
  (∀ (l0 l1 l2 l3 : Value) (a : Nat) (j : Int32) (st : List Value) (M : Mm) (Q : Option Value → Mm → Prop), wp F_Law_law 377 [l0, l1, l2, l3] (.int j :: .ref a :: st) M Q = (ixI M a j ∧ wp F_Law_law 378 [l0, l1, l2, l3] (.int (gI M a (cl j)) :: st) M Q)) ∧
  (∀ (l0 l1 l2 l3 : Value) (b : Nat) (p0 : Int32) (p1 : Int32) (p2 : Int32) (r0 : Value) (M : Mm) (Q : Option Value → Mm → Prop), wp F_Law_law 378 [l0, l1, l2, l3] [.int p2, .int p1, .int p0, .ref b, r0] M Q = (sh M b = some (.inl 12) ∧ wp F_Md_ruleLetter 0 [.ref b, .int p0, .int p1, .int p2, jk] [] M (fun r M1 => wp F_Law_law 381 [l0, l1, l2, l3] (r.toList ++ [r0]) M1 Q))) ∧
  (∀ (l0 l1 l2 l3 : Value) (x y : Int32) (st : List Value) (M : Mm) (Q : Option Value → Mm → Prop), wp F_Law_law 381 [l0, l1, l2, l3] (.int y :: .int x :: st) M Q = if x = y then wp F_Law_law 882 [l0, l1, l2, l3] st M Q else wp F_Law_law 384 [l0, l1, l2, l3] st M Q) ∧
  (∀ (l0 l1 l2 l3 : Value) (st : List Value) (M : Mm) (Q : Option Value → Mm → Prop), wp F_Law_law 384 [l0, l1, l2, l3] st M Q = wp F_Law_law 385 [l0, l1, l2, l3] (.int 0 :: st) M Q) ∧
  (∀ (l0 l1 l2 l3 : Value) (v : Int32) (M : Mm) (Q : Option Value → Mm → Prop), wp F_Law_law 385 [l0, l1, l2, l3] [.int v] M Q = ((v = 0 ∨ v = 1) ∧ Q (some (.int v)) M)) := ⟨fun _ _ _ _ _ _ _ => wp_in d_Law_law_343 rfl rfl, fun _ _ _ _ _ _ => wp_in d_Law_law_343 rfl rfl, fun _ _ _ _ _ _ _ => wp_in d_Law_law_344 rfl rfl, fun _ _ _ _ _ _ _ => wp_in d_Law_law_345 rfl rfl, fun _ _ _ _ _ _ _ => wp_iconst d_Law_law_346 (by decide), fun _ _ _ _ _ _ _ _ _ => wp_in d_Law_law_347 rfl rfl, fun _ _ _ _ _ _ _ _ _ => wp_iald d_Law_law_348, fun _ _ _ _ _ _ _ => wp_in d_Law_law_349 rfl rfl, fun _ _ _ _ _ _ _ => wp_in d_Law_law_350 rfl rfl, fun _ _ _ _ _ _ _ => wp_iconst d_Law_law_351 (by decide), fun _ _ _ _ _ _ _ _ _ => wp_in d_Law_law_352 rfl rfl, fun _ _ _ _ _ _ _ _ _ => wp_iald d_Law_law_353, fun _ _ _ _ _ _ _ => wp_in d_Law_law_354 rfl rfl, fun _ _ _ _ _ _ _ => wp_in d_Law_law_355 rfl rfl, fun _ _ _ _ _ _ _ => wp_iconst d_Law_law_356 (by decide), fun _ _ _ _ _ _ _ _ _ => wp_in d_Law_law_357 rfl rfl, fun _ _ _ _ _ _ _ _ _ => wp_iald d_Law_law_358, fun _ _ _ _ _ _ _ _ _ _ => wp_callV d_Law_law_359 ml_13_47 rfl rfl rfl, fun _ _ _ _ _ _ _ => wp_in d_Law_law_362 rfl rfl, fun _ _ _ _ _ _ => wp_in d_Law_law_362 rfl rfl, fun _ _ _ _ _ _ _ => wp_in d_Law_law_363 rfl rfl, fun _ _ _ _ _ _ _ => wp_in d_Law_law_364 rfl rfl, fun _ _ _ _ _ _ _ => wp_iconst d_Law_law_365 (by decide), fun _ _ _ _ _ _ _ _ _ => wp_in d_Law_law_366 rfl rfl, fun _ _ _ _ _ _ _ _ _ => wp_iald d_Law_law_367, fun _ _ _ _ _ _ _ => wp_in d_Law_law_368 rfl rfl, fun _ _ _ _ _ _ _ => wp_in d_Law_law_369 rfl rfl, fun _ _ _ _ _ _ _ => wp_iconst d_Law_law_370 (by decide), fun _ _ _ _ _ _ _ _ _ => wp_in d_Law_law_371 rfl rfl, fun _ _ _ _ _ _ _ _ _ => wp_iald d_Law_law_372, fun _ _ _ _ _ _ _ => wp_in d_Law_law_373 rfl rfl, fun _ _ _ _ _ _ _ => wp_in d_Law_law_374 rfl rfl, fun _ _ _ _ _ _ _ => wp_iconst d_Law_law_375 (by decide), fun _ _ _ _ _ _ _ _ _ => wp_in d_Law_law_376 rfl rfl, fun _ _ _ _ _ _ _ _ _ => wp_iald d_Law_law_377, fun _ _ _ _ _ _ _ _ _ _ _ => wp_callV d_Law_law_378 ml_13_51 rfl rfl rfl, fun _ _ _ _ _ _ _ _ _ => wp_icmp_eq d_Law_law_381 rfl, fun _ _ _ _ _ _ _ => wp_iconst d_Law_law_384 (by decide), fun _ _ _ _ _ _ _ => wp_retZ d_Law_law_385 rfl⟩
theorem B_Law_law_386 : (∀ (l0 l2 l3 : Value) (x : Nat) (st : List Value) (M : Mm) (Q : Option Value → Mm → Prop), wp F_Law_law 386 [l0, .ref x, l2, l3] st M Q = wp F_Law_law 387 [l0, .ref x, l2, l3] (.ref x :: st) M Q) ∧
  (∀ (l0 l2 l3 : Value) (st : List Value) (M : Mm) (Q : Option Value → Mm → Prop), wp F_Law_law 386 [l0, .null, l2, l3] st M Q = wp F_Law_law 387 [l0, .null, l2, l3] (.null :: st) M Q) ∧
  (∀ (l1 l2 l3 : Value) (x : Nat) (st : List Value) (M : Mm) (Q : Option Value → Mm → Prop), wp F_Law_law 387 [.ref x, l1, l2, l3] st M Q = wp F_Law_law 388 [.ref x, l1, l2, l3] (.ref x :: st) M Q) ∧
  (∀ (l0 l1 l2 : Value) (x : Int32) (st : List Value) (M : Mm) (Q : Option Value → Mm → Prop), wp F_Law_law 388 [l0, l1, l2, .int x] st M Q = wp F_Law_law 389 [l0, l1, l2, .int x] (.int x :: st) M Q) ∧
  (∀ (l0 l1 l2 l3 : Value) (st : List Value) (M : Mm) (Q : Option Value → Mm → Prop), wp F_Law_law 389 [l0, l1, l2, l3] st M Q = wp F_Law_law 390 [l0, l1, l2, l3] (.int 1 :: st) M Q) ∧
  (∀ (l0 l1 l2 l3 : Value) (x y : Int32) (st : List Value) (M : Mm) (Q : Option Value → Mm → Prop), wp F_Law_law 390 [l0, l1, l2, l3] (.int y :: .int x :: st) M Q = wp F_Law_law 391 [l0, l1, l2, l3] (.int (x + y) :: st) M Q) ∧
  (∀ (l0 l1 l2 l3 : Value) (a : Nat) (j : Int32) (st : List Value) (M : Mm) (Q : Option Value → Mm → Prop), wp F_Law_law 391 [l0, l1, l2, l3] (.int j :: .ref a :: st) M Q = (ixI M a j ∧ wp F_Law_law 392 [l0, l1, l2, l3] (.int (gI M a (cl j)) :: st) M Q)) ∧
  (∀ (l1 l2 l3 : Value) (x : Nat) (st : List Value) (M : Mm) (Q : Option Value → Mm → Prop), wp F_Law_law 392 [.ref x, l1, l2, l3] st M Q = wp F_Law_law 393 [.ref x, l1, l2, l3] (.ref x :: st) M Q) ∧
  (∀ (l0 l1 l2 : Value) (x : Int32) (st : List Value) (M : Mm) (Q : Option Value → Mm → Prop), wp F_Law_law 393 [l0, l1, l2, .int x] st M Q = wp F_Law_law 394 [l0, l1, l2, .int x] (.int x :: st) M Q) ∧
  (∀ (l0 l1 l2 l3 : Value) (st : List Value) (M : Mm) (Q : Option Value → Mm → Prop), wp F_Law_law 394 [l0, l1, l2, l3] st M Q = wp F_Law_law 395 [l0, l1, l2, l3] (.int 2 :: st) M Q) ∧
  (∀ (l0 l1 l2 l3 : Value) (x y : Int32) (st : List Value) (M : Mm) (Q : Option Value → Mm → Prop), wp F_Law_law 395 [l0, l1, l2, l3] (.int y :: .int x :: st) M Q = wp F_Law_law 396 [l0, l1, l2, l3] (.int (x + y) :: st) M Q) ∧
  (∀ (l0 l1 l2 l3 : Value) (a : Nat) (j : Int32) (st : List Value) (M : Mm) (Q : Option Value → Mm → Prop), wp F_Law_law 396 [l0, l1, l2, l3] (.int j :: .ref a :: st) M Q = (ixI M a j ∧ wp F_Law_law 397 [l0, l1, l2, l3] (.int (gI M a (cl j)) :: st) M Q)) ∧
  (∀ (l1 l2 l3 : Value) (x : Nat) (st : List Value) (M : Mm) (Q : Option Value → Mm → Prop), wp F_Law_law 397 [.ref x, l1, l2, l3] st M Q = wp F_Law_law 398 [.ref x, l1, l2, l3] (.ref x :: st) M Q) ∧
  (∀ (l0 l1 l2 : Value) (x : Int32) (st : List Value) (M : Mm) (Q : Option Value → Mm → Prop), wp F_Law_law 398 [l0, l1, l2, .int x] st M Q = wp F_Law_law 399 [l0, l1, l2, .int x] (.int x :: st) M Q) ∧
  (∀ (l0 l1 l2 l3 : Value) (st : List Value) (M : Mm) (Q : Option Value → Mm → Prop), wp F_Law_law 399 [l0, l1, l2, l3] st M Q = wp F_Law_law 400 [l0, l1, l2, l3] (.int 3 :: st) M Q) ∧
  (∀ (l0 l1 l2 l3 : Value) (x y : Int32) (st : List Value) (M : Mm) (Q : Option Value → Mm → Prop), wp F_Law_law 400 [l0, l1, l2, l3] (.int y :: .int x :: st) M Q = wp F_Law_law 401 [l0, l1, l2, l3] (.int (x + y) :: st) M Q) ∧
  (∀ (l0 l1 l2 l3 : Value) (a : Nat) (j : Int32) (st : List Value) (M : Mm) (Q : Option Value → Mm → Prop), wp F_Law_law 401 [l0, l1, l2, l3] (.int j :: .ref a :: st) M Q = (ixI M a j ∧ wp F_Law_law 402 [l0, l1, l2, l3] (.int (gI M a (cl j)) :: st) M Q)) ∧
  (∀ (l0 l1 l2 l3 : Value) (b : Nat) (p0 : Int32) (p1 : Int32) (p2 : Int32) (M : Mm) (Q : Option Value → Mm → Prop), wp F_Law_law 402 [l0, l1, l2, l3] [.int p2, .int p1, .int p0, .ref b] M Q = (sh M b = some (.inl 11) ∧ wp F_Mr_waiting 0 [.ref b, .int p0, .int p1, .int p2, jk] [] M (fun r M1 => wp F_Law_law 405 [l0, l1, l2, l3] (r.toList ++ []) M1 Q))) ∧
  (∀ (l0 l1 l3 : Value) (x : Nat) (st : List Value) (M : Mm) (Q : Option Value → Mm → Prop), wp F_Law_law 405 [l0, l1, .ref x, l3] st M Q = wp F_Law_law 406 [l0, l1, .ref x, l3] (.ref x :: st) M Q) ∧
  (∀ (l0 l1 l3 : Value) (st : List Value) (M : Mm) (Q : Option Value → Mm → Prop), wp F_Law_law 405 [l0, l1, .null, l3] st M Q = wp F_Law_law 406 [l0, l1, .null, l3] (.null :: st) M Q) ∧
  (∀ (l1 l2 l3 : Value) (x : Nat) (st : List Value) (M : Mm) (Q : Option Value → Mm → Prop), wp F_Law_law 406 [.ref x, l1, l2, l3] st M Q = wp F_Law_law 407 [.ref x, l1, l2, l3] (.ref x :: st) M Q) ∧
  (∀ (l0 l1 l2 : Value) (x : Int32) (st : List Value) (M : Mm) (Q : Option Value → Mm → Prop), wp F_Law_law 407 [l0, l1, l2, .int x] st M Q = wp F_Law_law 408 [l0, l1, l2, .int x] (.int x :: st) M Q) ∧
  (∀ (l0 l1 l2 l3 : Value) (st : List Value) (M : Mm) (Q : Option Value → Mm → Prop), wp F_Law_law 408 [l0, l1, l2, l3] st M Q = wp F_Law_law 409 [l0, l1, l2, l3] (.int 1 :: st) M Q) ∧
  (∀ (l0 l1 l2 l3 : Value) (x y : Int32) (st : List Value) (M : Mm) (Q : Option Value → Mm → Prop), wp F_Law_law 409 [l0, l1, l2, l3] (.int y :: .int x :: st) M Q = wp F_Law_law 410 [l0, l1, l2, l3] (.int (x + y) :: st) M Q) ∧
  (∀ (l0 l1 l2 l3 : Value) (a : Nat) (j : Int32) (st : List Value) (M : Mm) (Q : Option Value → Mm → Prop), wp F_Law_law 410 [l0, l1, l2, l3] (.int j :: .ref a :: st) M Q = (ixI M a j ∧ wp F_Law_law 411 [l0, l1, l2, l3] (.int (gI M a (cl j)) :: st) M Q)) ∧
  (∀ (l1 l2 l3 : Value) (x : Nat) (st : List Value) (M : Mm) (Q : Option Value → Mm → Prop), wp F_Law_law 411 [.ref x, l1, l2, l3] st M Q = wp F_Law_law 412 [.ref x, l1, l2, l3] (.ref x :: st) M Q) ∧
  (∀ (l0 l1 l2 : Value) (x : Int32) (st : List Value) (M : Mm) (Q : Option Value → Mm → Prop), wp F_Law_law 412 [l0, l1, l2, .int x] st M Q = wp F_Law_law 413 [l0, l1, l2, .int x] (.int x :: st) M Q) ∧
  (∀ (l0 l1 l2 l3 : Value) (st : List Value) (M : Mm) (Q : Option Value → Mm → Prop), wp F_Law_law 413 [l0, l1, l2, l3] st M Q = wp F_Law_law 414 [l0, l1, l2, l3] (.int 2 :: st) M Q) ∧
  (∀ (l0 l1 l2 l3 : Value) (x y : Int32) (st : List Value) (M : Mm) (Q : Option Value → Mm → Prop), wp F_Law_law 414 [l0, l1, l2, l3] (.int y :: .int x :: st) M Q = wp F_Law_law 415 [l0, l1, l2, l3] (.int (x + y) :: st) M Q) ∧
  (∀ (l0 l1 l2 l3 : Value) (a : Nat) (j : Int32) (st : List Value) (M : Mm) (Q : Option Value → Mm → Prop), wp F_Law_law 415 [l0, l1, l2, l3] (.int j :: .ref a :: st) M Q = (ixI M a j ∧ wp F_Law_law 416 [l0, l1, l2, l3] (.int (gI M a (cl j)) :: st) M Q)) ∧
  (∀ (l1 l2 l3 : Value) (x : Nat) (st : List Value) (M : Mm) (Q : Option Value → Mm → Prop), wp F_Law_law 416 [.ref x, l1, l2, l3] st M Q = wp F_Law_law 417 [.ref x, l1, l2, l3] (.ref x :: st) M Q) ∧
  (∀ (l0 l1 l2 : Value) (x : Int32) (st : List Value) (M : Mm) (Q : Option Value → Mm → Prop), wp F_Law_law 417 [l0, l1, l2, .int x] st M Q = wp F_Law_law 418 [l0, l1, l2, .int x] (.int x :: st) M Q) ∧
  (∀ (l0 l1 l2 l3 : Value) (st : List Value) (M : Mm) (Q : Option Value → Mm → Prop), wp F_Law_law 418 [l0, l1, l2, l3] st M Q = wp F_Law_law 419 [l0, l1, l2, l3] (.int 3 :: st) M Q) ∧
  (∀ (l0 l1 l2 l3 : Value) (x y : Int32) (st : List Value) (M : Mm) (Q : Option Value → Mm → Prop), wp F_Law_law 419 [l0, l1, l2, l3] (.int y :: .int x :: st) M Q = wp F_Law_law 420 [l0, l1, l2, l3] (.int (x + y) :: st) M Q) ∧
  (∀ (l0 l1 l2 l3 : Value) (a : Nat) (j : Int32) (st : List Value) (M : Mm) (Q : Option Value → Mm → Prop), wp F_Law_law 420 [l0, l1, l2, l3] (.int j :: .ref a :: st) M Q = (ixI M a j ∧ wp F_Law_law 421 [l0, l1, l2, l3] (.int (gI M a (cl j)) :: st) M Q)) ∧
  (∀ (l0 l1 l2 l3 : Value) (b : Nat) (p0 : Int32) (p1 : Int32) (p2 : Int32) (r0 : Value) (M : Mm) (Q : Option Value → Mm → Prop), wp F_Law_law 421 [l0, l1, l2, l3] [.int p2, .int p1, .int p0, .ref b, r0] M Q = (sh M b = some (.inl 12) ∧ wp F_Md_waiting 0 [.ref b, .int p0, .int p1, .int p2, jk] [] M (fun r M1 => wp F_Law_law 424 [l0, l1, l2, l3] (r.toList ++ [r0]) M1 Q))) ∧
  (∀ (l0 l1 l2 l3 : Value) (x y : Int32) (st : List Value) (M : Mm) (Q : Option Value → Mm → Prop), wp F_Law_law 424 [l0, l1, l2, l3] (.int y :: .int x :: st) M Q = if x = y then wp F_Law_law 882 [l0, l1, l2, l3] st M Q else wp F_Law_law 427 [l0, l1, l2, l3] st M Q) ∧
  (∀ (l0 l1 l2 l3 : Value) (st : List Value) (M : Mm) (Q : Option Value → Mm → Prop), wp F_Law_law 427 [l0, l1, l2, l3] st M Q = wp F_Law_law 428 [l0, l1, l2, l3] (.int 0 :: st) M Q) ∧
  (∀ (l0 l1 l2 l3 : Value) (v : Int32) (M : Mm) (Q : Option Value → Mm → Prop), wp F_Law_law 428 [l0, l1, l2, l3] [.int v] M Q = ((v = 0 ∨ v = 1) ∧ Q (some (.int v)) M)) := ⟨fun _ _ _ _ _ _ _ => wp_in d_Law_law_386 rfl rfl, fun _ _ _ _ _ _ => wp_in d_Law_law_386 rfl rfl, fun _ _ _ _ _ _ _ => wp_in d_Law_law_387 rfl rfl, fun _ _ _ _ _ _ _ => wp_in d_Law_law_388 rfl rfl, fun _ _ _ _ _ _ _ => wp_iconst d_Law_law_389 (by decide), fun _ _ _ _ _ _ _ _ _ => wp_in d_Law_law_390 rfl rfl, fun _ _ _ _ _ _ _ _ _ => wp_iald d_Law_law_391, fun _ _ _ _ _ _ _ => wp_in d_Law_law_392 rfl rfl, fun _ _ _ _ _ _ _ => wp_in d_Law_law_393 rfl rfl, fun _ _ _ _ _ _ _ => wp_iconst d_Law_law_394 (by decide), fun _ _ _ _ _ _ _ _ _ => wp_in d_Law_law_395 rfl rfl, fun _ _ _ _ _ _ _ _ _ => wp_iald d_Law_law_396, fun _ _ _ _ _ _ _ => wp_in d_Law_law_397 rfl rfl, fun _ _ _ _ _ _ _ => wp_in d_Law_law_398 rfl rfl, fun _ _ _ _ _ _ _ => wp_iconst d_Law_law_399 (by decide), fun _ _ _ _ _ _ _ _ _ => wp_in d_Law_law_400 rfl rfl, fun _ _ _ _ _ _ _ _ _ => wp_iald d_Law_law_401, fun _ _ _ _ _ _ _ _ _ _ => wp_callV d_Law_law_402 ml_13_52 rfl rfl rfl, fun _ _ _ _ _ _ _ => wp_in d_Law_law_405 rfl rfl, fun _ _ _ _ _ _ => wp_in d_Law_law_405 rfl rfl, fun _ _ _ _ _ _ _ => wp_in d_Law_law_406 rfl rfl, fun _ _ _ _ _ _ _ => wp_in d_Law_law_407 rfl rfl, fun _ _ _ _ _ _ _ => wp_iconst d_Law_law_408 (by decide), fun _ _ _ _ _ _ _ _ _ => wp_in d_Law_law_409 rfl rfl, fun _ _ _ _ _ _ _ _ _ => wp_iald d_Law_law_410, fun _ _ _ _ _ _ _ => wp_in d_Law_law_411 rfl rfl, fun _ _ _ _ _ _ _ => wp_in d_Law_law_412 rfl rfl, fun _ _ _ _ _ _ _ => wp_iconst d_Law_law_413 (by decide), fun _ _ _ _ _ _ _ _ _ => wp_in d_Law_law_414 rfl rfl, fun _ _ _ _ _ _ _ _ _ => wp_iald d_Law_law_415, fun _ _ _ _ _ _ _ => wp_in d_Law_law_416 rfl rfl, fun _ _ _ _ _ _ _ => wp_in d_Law_law_417 rfl rfl, fun _ _ _ _ _ _ _ => wp_iconst d_Law_law_418 (by decide), fun _ _ _ _ _ _ _ _ _ => wp_in d_Law_law_419 rfl rfl, fun _ _ _ _ _ _ _ _ _ => wp_iald d_Law_law_420, fun _ _ _ _ _ _ _ _ _ _ _ => wp_callV d_Law_law_421 ml_13_55 rfl rfl rfl, fun _ _ _ _ _ _ _ _ _ => wp_icmp_eq d_Law_law_424 rfl, fun _ _ _ _ _ _ _ => wp_iconst d_Law_law_427 (by decide), fun _ _ _ _ _ _ _ => wp_retZ d_Law_law_428 rfl⟩
theorem B_Law_law_429 : (∀ (l0 l2 l3 : Value) (x : Nat) (st : List Value) (M : Mm) (Q : Option Value → Mm → Prop), wp F_Law_law 429 [l0, .ref x, l2, l3] st M Q = wp F_Law_law 430 [l0, .ref x, l2, l3] (.ref x :: st) M Q) ∧
  (∀ (l0 l2 l3 : Value) (st : List Value) (M : Mm) (Q : Option Value → Mm → Prop), wp F_Law_law 429 [l0, .null, l2, l3] st M Q = wp F_Law_law 430 [l0, .null, l2, l3] (.null :: st) M Q) ∧
  (∀ (l0 l1 l2 l3 : Value) (b : Nat) (M : Mm) (Q : Option Value → Mm → Prop), wp F_Law_law 430 [l0, l1, l2, l3] [.ref b] M Q = (sh M b = some (.inl 11) ∧ wp F_Mr_open 0 [.ref b] [] M (fun r M1 => wp F_Law_law 433 [l0, l1, l2, l3] (r.toList ++ []) M1 Q))) ∧
  (∀ (l0 l1 l3 : Value) (x : Nat) (st : List Value) (M : Mm) (Q : Option Value → Mm → Prop), wp F_Law_law 433 [l0, l1, .ref x, l3] st M Q = wp F_Law_law 434 [l0, l1, .ref x, l3] (.ref x :: st) M Q) ∧
  (∀ (l0 l1 l3 : Value) (st : List Value) (M : Mm) (Q : Option Value → Mm → Prop), wp F_Law_law 433 [l0, l1, .null, l3] st M Q = wp F_Law_law 434 [l0, l1, .null, l3] (.null :: st) M Q) ∧
  (∀ (l0 l1 l2 l3 : Value) (b : Nat) (r0 : Value) (M : Mm) (Q : Option Value → Mm → Prop), wp F_Law_law 434 [l0, l1, l2, l3] [.ref b, r0] M Q = (sh M b = some (.inl 12) ∧ wp F_Md_open 0 [.ref b, jk, jk, jk, jk, jk, jk, jk] [] M (fun r M1 => wp F_Law_law 437 [l0, l1, l2, l3] (r.toList ++ [r0]) M1 Q))) ∧
  (∀ (l0 l1 l2 l3 : Value) (x y : Int32) (st : List Value) (M : Mm) (Q : Option Value → Mm → Prop), wp F_Law_law 437 [l0, l1, l2, l3] (.int y :: .int x :: st) M Q = if x = y then wp F_Law_law 882 [l0, l1, l2, l3] st M Q else wp F_Law_law 440 [l0, l1, l2, l3] st M Q) ∧
  (∀ (l0 l1 l2 l3 : Value) (st : List Value) (M : Mm) (Q : Option Value → Mm → Prop), wp F_Law_law 440 [l0, l1, l2, l3] st M Q = wp F_Law_law 441 [l0, l1, l2, l3] (.int 0 :: st) M Q) ∧
  (∀ (l0 l1 l2 l3 : Value) (v : Int32) (M : Mm) (Q : Option Value → Mm → Prop), wp F_Law_law 441 [l0, l1, l2, l3] [.int v] M Q = ((v = 0 ∨ v = 1) ∧ Q (some (.int v)) M)) := ⟨fun _ _ _ _ _ _ _ => wp_in d_Law_law_429 rfl rfl, fun _ _ _ _ _ _ => wp_in d_Law_law_429 rfl rfl, fun _ _ _ _ _ _ _ => wp_callV d_Law_law_430 ml_13_56 rfl rfl rfl, fun _ _ _ _ _ _ _ => wp_in d_Law_law_433 rfl rfl, fun _ _ _ _ _ _ => wp_in d_Law_law_433 rfl rfl, fun _ _ _ _ _ _ _ _ => wp_callV d_Law_law_434 ml_13_59 rfl rfl rfl, fun _ _ _ _ _ _ _ _ _ => wp_icmp_eq d_Law_law_437 rfl, fun _ _ _ _ _ _ _ => wp_iconst d_Law_law_440 (by decide), fun _ _ _ _ _ _ _ => wp_retZ d_Law_law_441 rfl⟩
theorem B_Law_law_442 : (∀ (l0 l2 l3 : Value) (x : Nat) (st : List Value) (M : Mm) (Q : Option Value → Mm → Prop), wp F_Law_law 442 [l0, .ref x, l2, l3] st M Q = wp F_Law_law 443 [l0, .ref x, l2, l3] (.ref x :: st) M Q) ∧
  (∀ (l0 l2 l3 : Value) (st : List Value) (M : Mm) (Q : Option Value → Mm → Prop), wp F_Law_law 442 [l0, .null, l2, l3] st M Q = wp F_Law_law 443 [l0, .null, l2, l3] (.null :: st) M Q) ∧
  (∀ (l1 l2 l3 : Value) (x : Nat) (st : List Value) (M : Mm) (Q : Option Value → Mm → Prop), wp F_Law_law 443 [.ref x, l1, l2, l3] st M Q = wp F_Law_law 444 [.ref x, l1, l2, l3] (.ref x :: st) M Q) ∧
  (∀ (l0 l1 l2 : Value) (x : Int32) (st : List Value) (M : Mm) (Q : Option Value → Mm → Prop), wp F_Law_law 444 [l0, l1, l2, .int x] st M Q = wp F_Law_law 445 [l0, l1, l2, .int x] (.int x :: st) M Q) ∧
  (∀ (l0 l1 l2 l3 : Value) (st : List Value) (M : Mm) (Q : Option Value → Mm → Prop), wp F_Law_law 445 [l0, l1, l2, l3] st M Q = wp F_Law_law 446 [l0, l1, l2, l3] (.int 1 :: st) M Q) ∧
  (∀ (l0 l1 l2 l3 : Value) (x y : Int32) (st : List Value) (M : Mm) (Q : Option Value → Mm → Prop), wp F_Law_law 446 [l0, l1, l2, l3] (.int y :: .int x :: st) M Q = wp F_Law_law 447 [l0, l1, l2, l3] (.int (x + y) :: st) M Q) ∧
  (∀ (l0 l1 l2 l3 : Value) (a : Nat) (j : Int32) (st : List Value) (M : Mm) (Q : Option Value → Mm → Prop), wp F_Law_law 447 [l0, l1, l2, l3] (.int j :: .ref a :: st) M Q = (ixI M a j ∧ wp F_Law_law 448 [l0, l1, l2, l3] (.int (gI M a (cl j)) :: st) M Q)) ∧
  (∀ (l0 l1 l2 l3 : Value) (b : Nat) (p0 : Int32) (M : Mm) (Q : Option Value → Mm → Prop), wp F_Law_law 448 [l0, l1, l2, l3] [.int p0, .ref b] M Q = (sh M b = some (.inl 11) ∧ wp F_Mr_overlap 0 [.ref b, .int p0] [] M (fun r M1 => wp F_Law_law 451 [l0, l1, l2, l3] (r.toList ++ []) M1 Q))) ∧
  (∀ (l0 l1 l3 : Value) (x : Nat) (st : List Value) (M : Mm) (Q : Option Value → Mm → Prop), wp F_Law_law 451 [l0, l1, .ref x, l3] st M Q = wp F_Law_law 452 [l0, l1, .ref x, l3] (.ref x :: st) M Q) ∧
  (∀ (l0 l1 l3 : Value) (st : List Value) (M : Mm) (Q : Option Value → Mm → Prop), wp F_Law_law 451 [l0, l1, .null, l3] st M Q = wp F_Law_law 452 [l0, l1, .null, l3] (.null :: st) M Q) ∧
  (∀ (l1 l2 l3 : Value) (x : Nat) (st : List Value) (M : Mm) (Q : Option Value → Mm → Prop), wp F_Law_law 452 [.ref x, l1, l2, l3] st M Q = wp F_Law_law 453 [.ref x, l1, l2, l3] (.ref x :: st) M Q) ∧
  (∀ (l0 l1 l2 : Value) (x : Int32) (st : List Value) (M : Mm) (Q : Option Value → Mm → Prop), wp F_Law_law 453 [l0, l1, l2, .int x] st M Q = wp F_Law_law 454 [l0, l1, l2, .int x] (.int x :: st) M Q) ∧
  (∀ (l0 l1 l2 l3 : Value) (st : List Value) (M : Mm) (Q : Option Value → Mm → Prop), wp F_Law_law 454 [l0, l1, l2, l3] st M Q = wp F_Law_law 455 [l0, l1, l2, l3] (.int 1 :: st) M Q) ∧
  (∀ (l0 l1 l2 l3 : Value) (x y : Int32) (st : List Value) (M : Mm) (Q : Option Value → Mm → Prop), wp F_Law_law 455 [l0, l1, l2, l3] (.int y :: .int x :: st) M Q = wp F_Law_law 456 [l0, l1, l2, l3] (.int (x + y) :: st) M Q) ∧
  (∀ (l0 l1 l2 l3 : Value) (a : Nat) (j : Int32) (st : List Value) (M : Mm) (Q : Option Value → Mm → Prop), wp F_Law_law 456 [l0, l1, l2, l3] (.int j :: .ref a :: st) M Q = (ixI M a j ∧ wp F_Law_law 457 [l0, l1, l2, l3] (.int (gI M a (cl j)) :: st) M Q)) ∧
  (∀ (l0 l1 l2 l3 : Value) (b : Nat) (p0 : Int32) (r0 : Value) (M : Mm) (Q : Option Value → Mm → Prop), wp F_Law_law 457 [l0, l1, l2, l3] [.int p0, .ref b, r0] M Q = (sh M b = some (.inl 12) ∧ wp F_Md_overlap 0 [.ref b, .int p0] [] M (fun r M1 => wp F_Law_law 460 [l0, l1, l2, l3] (r.toList ++ [r0]) M1 Q))) ∧
  (∀ (l0 l1 l2 l3 : Value) (x y : Int32) (st : List Value) (M : Mm) (Q : Option Value → Mm → Prop), wp F_Law_law 460 [l0, l1, l2, l3] (.int y :: .int x :: st) M Q = if x = y then wp F_Law_law 882 [l0, l1, l2, l3] st M Q else wp F_Law_law 463 [l0, l1, l2, l3] st M Q) ∧
  (∀ (l0 l1 l2 l3 : Value) (st : List Value) (M : Mm) (Q : Option Value → Mm → Prop), wp F_Law_law 463 [l0, l1, l2, l3] st M Q = wp F_Law_law 464 [l0, l1, l2, l3] (.int 0 :: st) M Q) ∧
  (∀ (l0 l1 l2 l3 : Value) (v : Int32) (M : Mm) (Q : Option Value → Mm → Prop), wp F_Law_law 464 [l0, l1, l2, l3] [.int v] M Q = ((v = 0 ∨ v = 1) ∧ Q (some (.int v)) M)) := ⟨fun _ _ _ _ _ _ _ => wp_in d_Law_law_442 rfl rfl, fun _ _ _ _ _ _ => wp_in d_Law_law_442 rfl rfl, fun _ _ _ _ _ _ _ => wp_in d_Law_law_443 rfl rfl, fun _ _ _ _ _ _ _ => wp_in d_Law_law_444 rfl rfl, fun _ _ _ _ _ _ _ => wp_iconst d_Law_law_445 (by decide), fun _ _ _ _ _ _ _ _ _ => wp_in d_Law_law_446 rfl rfl, fun _ _ _ _ _ _ _ _ _ => wp_iald d_Law_law_447, fun _ _ _ _ _ _ _ _ => wp_callV d_Law_law_448 ml_13_60 rfl rfl rfl, fun _ _ _ _ _ _ _ => wp_in d_Law_law_451 rfl rfl, fun _ _ _ _ _ _ => wp_in d_Law_law_451 rfl rfl, fun _ _ _ _ _ _ _ => wp_in d_Law_law_452 rfl rfl, fun _ _ _ _ _ _ _ => wp_in d_Law_law_453 rfl rfl, fun _ _ _ _ _ _ _ => wp_iconst d_Law_law_454 (by decide), fun _ _ _ _ _ _ _ _ _ => wp_in d_Law_law_455 rfl rfl, fun _ _ _ _ _ _ _ _ _ => wp_iald d_Law_law_456, fun _ _ _ _ _ _ _ _ _ => wp_callV d_Law_law_457 ml_13_63 rfl rfl rfl, fun _ _ _ _ _ _ _ _ _ => wp_icmp_eq d_Law_law_460 rfl, fun _ _ _ _ _ _ _ => wp_iconst d_Law_law_463 (by decide), fun _ _ _ _ _ _ _ => wp_retZ d_Law_law_464 rfl⟩
theorem B_Law_law_465 : (∀ (l0 l2 l3 : Value) (x : Nat) (st : List Value) (M : Mm) (Q : Option Value → Mm → Prop), wp F_Law_law 465 [l0, .ref x, l2, l3] st M Q = wp F_Law_law 466 [l0, .ref x, l2, l3] (.ref x :: st) M Q) ∧
  (∀ (l0 l2 l3 : Value) (st : List Value) (M : Mm) (Q : Option Value → Mm → Prop), wp F_Law_law 465 [l0, .null, l2, l3] st M Q = wp F_Law_law 466 [l0, .null, l2, l3] (.null :: st) M Q) ∧
  (∀ (l1 l2 l3 : Value) (x : Nat) (st : List Value) (M : Mm) (Q : Option Value → Mm → Prop), wp F_Law_law 466 [.ref x, l1, l2, l3] st M Q = wp F_Law_law 467 [.ref x, l1, l2, l3] (.ref x :: st) M Q) ∧
  (∀ (l0 l1 l2 : Value) (x : Int32) (st : List Value) (M : Mm) (Q : Option Value → Mm → Prop), wp F_Law_law 467 [l0, l1, l2, .int x] st M Q = wp F_Law_law 468 [l0, l1, l2, .int x] (.int x :: st) M Q) ∧
  (∀ (l0 l1 l2 l3 : Value) (st : List Value) (M : Mm) (Q : Option Value → Mm → Prop), wp F_Law_law 468 [l0, l1, l2, l3] st M Q = wp F_Law_law 469 [l0, l1, l2, l3] (.int 1 :: st) M Q) ∧
  (∀ (l0 l1 l2 l3 : Value) (x y : Int32) (st : List Value) (M : Mm) (Q : Option Value → Mm → Prop), wp F_Law_law 469 [l0, l1, l2, l3] (.int y :: .int x :: st) M Q = wp F_Law_law 470 [l0, l1, l2, l3] (.int (x + y) :: st) M Q) ∧
  (∀ (l0 l1 l2 l3 : Value) (a : Nat) (j : Int32) (st : List Value) (M : Mm) (Q : Option Value → Mm → Prop), wp F_Law_law 470 [l0, l1, l2, l3] (.int j :: .ref a :: st) M Q = (ixI M a j ∧ wp F_Law_law 471 [l0, l1, l2, l3] (.int (gI M a (cl j)) :: st) M Q)) ∧
  (∀ (l0 l1 l2 l3 : Value) (b : Nat) (p0 : Int32) (M : Mm) (Q : Option Value → Mm → Prop), wp F_Law_law 471 [l0, l1, l2, l3] [.int p0, .ref b] M Q = (sh M b = some (.inl 11) ∧ wp F_Mr_length 0 [.ref b, .int p0] [] M (fun r M1 => wp F_Law_law 474 [l0, l1, l2, l3] (r.toList ++ []) M1 Q))) ∧
  (∀ (l0 l1 l3 : Value) (x : Nat) (st : List Value) (M : Mm) (Q : Option Value → Mm → Prop), wp F_Law_law 474 [l0, l1, .ref x, l3] st M Q = wp F_Law_law 475 [l0, l1, .ref x, l3] (.ref x :: st) M Q) ∧
  (∀ (l0 l1 l3 : Value) (st : List Value) (M : Mm) (Q : Option Value → Mm → Prop), wp F_Law_law 474 [l0, l1, .null, l3] st M Q = wp F_Law_law 475 [l0, l1, .null, l3] (.null :: st) M Q) ∧
  (∀ (l1 l2 l3 : Value) (x : Nat) (st : List Value) (M : Mm) (Q : Option Value → Mm → Prop), wp F_Law_law 475 [.ref x, l1, l2, l3] st M Q = wp F_Law_law 476 [.ref x, l1, l2, l3] (.ref x :: st) M Q) ∧
  (∀ (l0 l1 l2 : Value) (x : Int32) (st : List Value) (M : Mm) (Q : Option Value → Mm → Prop), wp F_Law_law 476 [l0, l1, l2, .int x] st M Q = wp F_Law_law 477 [l0, l1, l2, .int x] (.int x :: st) M Q) ∧
  (∀ (l0 l1 l2 l3 : Value) (st : List Value) (M : Mm) (Q : Option Value → Mm → Prop), wp F_Law_law 477 [l0, l1, l2, l3] st M Q = wp F_Law_law 478 [l0, l1, l2, l3] (.int 1 :: st) M Q) ∧
  (∀ (l0 l1 l2 l3 : Value) (x y : Int32) (st : List Value) (M : Mm) (Q : Option Value → Mm → Prop), wp F_Law_law 478 [l0, l1, l2, l3] (.int y :: .int x :: st) M Q = wp F_Law_law 479 [l0, l1, l2, l3] (.int (x + y) :: st) M Q) ∧
  (∀ (l0 l1 l2 l3 : Value) (a : Nat) (j : Int32) (st : List Value) (M : Mm) (Q : Option Value → Mm → Prop), wp F_Law_law 479 [l0, l1, l2, l3] (.int j :: .ref a :: st) M Q = (ixI M a j ∧ wp F_Law_law 480 [l0, l1, l2, l3] (.int (gI M a (cl j)) :: st) M Q)) ∧
  (∀ (l0 l1 l2 l3 : Value) (b : Nat) (p0 : Int32) (r0 : Value) (M : Mm) (Q : Option Value → Mm → Prop), wp F_Law_law 480 [l0, l1, l2, l3] [.int p0, .ref b, r0] M Q = (sh M b = some (.inl 12) ∧ wp F_Md_length 0 [.ref b, .int p0] [] M (fun r M1 => wp F_Law_law 483 [l0, l1, l2, l3] (r.toList ++ [r0]) M1 Q))) ∧
  (∀ (l0 l1 l2 l3 : Value) (x y : Int32) (st : List Value) (M : Mm) (Q : Option Value → Mm → Prop), wp F_Law_law 483 [l0, l1, l2, l3] (.int y :: .int x :: st) M Q = if x = y then wp F_Law_law 882 [l0, l1, l2, l3] st M Q else wp F_Law_law 486 [l0, l1, l2, l3] st M Q) ∧
  (∀ (l0 l1 l2 l3 : Value) (st : List Value) (M : Mm) (Q : Option Value → Mm → Prop), wp F_Law_law 486 [l0, l1, l2, l3] st M Q = wp F_Law_law 487 [l0, l1, l2, l3] (.int 0 :: st) M Q) ∧
  (∀ (l0 l1 l2 l3 : Value) (v : Int32) (M : Mm) (Q : Option Value → Mm → Prop), wp F_Law_law 487 [l0, l1, l2, l3] [.int v] M Q = ((v = 0 ∨ v = 1) ∧ Q (some (.int v)) M)) := ⟨fun _ _ _ _ _ _ _ => wp_in d_Law_law_465 rfl rfl, fun _ _ _ _ _ _ => wp_in d_Law_law_465 rfl rfl, fun _ _ _ _ _ _ _ => wp_in d_Law_law_466 rfl rfl, fun _ _ _ _ _ _ _ => wp_in d_Law_law_467 rfl rfl, fun _ _ _ _ _ _ _ => wp_iconst d_Law_law_468 (by decide), fun _ _ _ _ _ _ _ _ _ => wp_in d_Law_law_469 rfl rfl, fun _ _ _ _ _ _ _ _ _ => wp_iald d_Law_law_470, fun _ _ _ _ _ _ _ _ => wp_callV d_Law_law_471 ml_13_64 rfl rfl rfl, fun _ _ _ _ _ _ _ => wp_in d_Law_law_474 rfl rfl, fun _ _ _ _ _ _ => wp_in d_Law_law_474 rfl rfl, fun _ _ _ _ _ _ _ => wp_in d_Law_law_475 rfl rfl, fun _ _ _ _ _ _ _ => wp_in d_Law_law_476 rfl rfl, fun _ _ _ _ _ _ _ => wp_iconst d_Law_law_477 (by decide), fun _ _ _ _ _ _ _ _ _ => wp_in d_Law_law_478 rfl rfl, fun _ _ _ _ _ _ _ _ _ => wp_iald d_Law_law_479, fun _ _ _ _ _ _ _ _ _ => wp_callV d_Law_law_480 ml_13_67 rfl rfl rfl, fun _ _ _ _ _ _ _ _ _ => wp_icmp_eq d_Law_law_483 rfl, fun _ _ _ _ _ _ _ => wp_iconst d_Law_law_486 (by decide), fun _ _ _ _ _ _ _ => wp_retZ d_Law_law_487 rfl⟩
theorem B_Law_law_488 : (∀ (l0 l2 l3 : Value) (x : Nat) (st : List Value) (M : Mm) (Q : Option Value → Mm → Prop), wp F_Law_law 488 [l0, .ref x, l2, l3] st M Q = wp F_Law_law 489 [l0, .ref x, l2, l3] (.ref x :: st) M Q) ∧
  (∀ (l0 l2 l3 : Value) (st : List Value) (M : Mm) (Q : Option Value → Mm → Prop), wp F_Law_law 488 [l0, .null, l2, l3] st M Q = wp F_Law_law 489 [l0, .null, l2, l3] (.null :: st) M Q) ∧
  (∀ (l1 l2 l3 : Value) (x : Nat) (st : List Value) (M : Mm) (Q : Option Value → Mm → Prop), wp F_Law_law 489 [.ref x, l1, l2, l3] st M Q = wp F_Law_law 490 [.ref x, l1, l2, l3] (.ref x :: st) M Q) ∧
  (∀ (l0 l1 l2 : Value) (x : Int32) (st : List Value) (M : Mm) (Q : Option Value → Mm → Prop), wp F_Law_law 490 [l0, l1, l2, .int x] st M Q = wp F_Law_law 491 [l0, l1, l2, .int x] (.int x :: st) M Q) ∧
  (∀ (l0 l1 l2 l3 : Value) (st : List Value) (M : Mm) (Q : Option Value → Mm → Prop), wp F_Law_law 491 [l0, l1, l2, l3] st M Q = wp F_Law_law 492 [l0, l1, l2, l3] (.int 1 :: st) M Q) ∧
  (∀ (l0 l1 l2 l3 : Value) (x y : Int32) (st : List Value) (M : Mm) (Q : Option Value → Mm → Prop), wp F_Law_law 492 [l0, l1, l2, l3] (.int y :: .int x :: st) M Q = wp F_Law_law 493 [l0, l1, l2, l3] (.int (x + y) :: st) M Q) ∧
  (∀ (l0 l1 l2 l3 : Value) (a : Nat) (j : Int32) (st : List Value) (M : Mm) (Q : Option Value → Mm → Prop), wp F_Law_law 493 [l0, l1, l2, l3] (.int j :: .ref a :: st) M Q = (ixI M a j ∧ wp F_Law_law 494 [l0, l1, l2, l3] (.int (gI M a (cl j)) :: st) M Q)) ∧
  (∀ (l1 l2 l3 : Value) (x : Nat) (st : List Value) (M : Mm) (Q : Option Value → Mm → Prop), wp F_Law_law 494 [.ref x, l1, l2, l3] st M Q = wp F_Law_law 495 [.ref x, l1, l2, l3] (.ref x :: st) M Q) ∧
  (∀ (l0 l1 l2 : Value) (x : Int32) (st : List Value) (M : Mm) (Q : Option Value → Mm → Prop), wp F_Law_law 495 [l0, l1, l2, .int x] st M Q = wp F_Law_law 496 [l0, l1, l2, .int x] (.int x :: st) M Q) ∧
  (∀ (l0 l1 l2 l3 : Value) (st : List Value) (M : Mm) (Q : Option Value → Mm → Prop), wp F_Law_law 496 [l0, l1, l2, l3] st M Q = wp F_Law_law 497 [l0, l1, l2, l3] (.int 2 :: st) M Q) ∧
  (∀ (l0 l1 l2 l3 : Value) (x y : Int32) (st : List Value) (M : Mm) (Q : Option Value → Mm → Prop), wp F_Law_law 497 [l0, l1, l2, l3] (.int y :: .int x :: st) M Q = wp F_Law_law 498 [l0, l1, l2, l3] (.int (x + y) :: st) M Q) ∧
  (∀ (l0 l1 l2 l3 : Value) (a : Nat) (j : Int32) (st : List Value) (M : Mm) (Q : Option Value → Mm → Prop), wp F_Law_law 498 [l0, l1, l2, l3] (.int j :: .ref a :: st) M Q = (ixI M a j ∧ wp F_Law_law 499 [l0, l1, l2, l3] (.int (gI M a (cl j)) :: st) M Q)) ∧
  (∀ (l0 l1 l2 l3 : Value) (b : Nat) (p0 : Int32) (p1 : Int32) (M : Mm) (Q : Option Value → Mm → Prop), wp F_Law_law 499 [l0, l1, l2, l3] [.int p1, .int p0, .ref b] M Q = (sh M b = some (.inl 11) ∧ wp F_Mr_letter 0 [.ref b, .int p0, .int p1] [] M (fun r M1 => wp F_Law_law 502 [l0, l1, l2, l3] (r.toList ++ []) M1 Q))) ∧
  (∀ (l0 l1 l3 : Value) (x : Nat) (st : List Value) (M : Mm) (Q : Option Value → Mm → Prop), wp F_Law_law 502 [l0, l1, .ref x, l3] st M Q = wp F_Law_law 503 [l0, l1, .ref x, l3] (.ref x :: st) M Q) ∧
  (∀ (l0 l1 l3 : Value) (st : List Value) (M : Mm) (Q : Option Value → Mm → Prop), wp F_Law_law 502 [l0, l1, .null, l3] st M Q = wp F_Law_law 503 [l0, l1, .null, l3] (.null :: st) M Q) ∧
  (∀ (l1 l2 l3 : Value) (x : Nat) (st : List Value) (M : Mm) (Q : Option Value → Mm → Prop), wp F_Law_law 503 [.ref x, l1, l2, l3] st M Q = wp F_Law_law 504 [.ref x, l1, l2, l3] (.ref x :: st) M Q) ∧
  (∀ (l0 l1 l2 : Value) (x : Int32) (st : List Value) (M : Mm) (Q : Option Value → Mm → Prop), wp F_Law_law 504 [l0, l1, l2, .int x] st M Q = wp F_Law_law 505 [l0, l1, l2, .int x] (.int x :: st) M Q) ∧
  (∀ (l0 l1 l2 l3 : Value) (st : List Value) (M : Mm) (Q : Option Value → Mm → Prop), wp F_Law_law 505 [l0, l1, l2, l3] st M Q = wp F_Law_law 506 [l0, l1, l2, l3] (.int 1 :: st) M Q) ∧
  (∀ (l0 l1 l2 l3 : Value) (x y : Int32) (st : List Value) (M : Mm) (Q : Option Value → Mm → Prop), wp F_Law_law 506 [l0, l1, l2, l3] (.int y :: .int x :: st) M Q = wp F_Law_law 507 [l0, l1, l2, l3] (.int (x + y) :: st) M Q) ∧
  (∀ (l0 l1 l2 l3 : Value) (a : Nat) (j : Int32) (st : List Value) (M : Mm) (Q : Option Value → Mm → Prop), wp F_Law_law 507 [l0, l1, l2, l3] (.int j :: .ref a :: st) M Q = (ixI M a j ∧ wp F_Law_law 508 [l0, l1, l2, l3] (.int (gI M a (cl j)) :: st) M Q)) ∧
  (∀ (l1 l2 l3 : Value) (x : Nat) (st : List Value) (M : Mm) (Q : Option Value → Mm → Prop), wp F_Law_law 508 [.ref x, l1, l2, l3] st M Q = wp F_Law_law 509 [.ref x, l1, l2, l3] (.ref x :: st) M Q) ∧
  (∀ (l0 l1 l2 : Value) (x : Int32) (st : List Value) (M : Mm) (Q : Option Value → Mm → Prop), wp F_Law_law 509 [l0, l1, l2, .int x] st M Q = wp F_Law_law 510 [l0, l1, l2, .int x] (.int x :: st) M Q) ∧
  (∀ (l0 l1 l2 l3 : Value) (st : List Value) (M : Mm) (Q : Option Value → Mm → Prop), wp F_Law_law 510 [l0, l1, l2, l3] st M Q = wp F_Law_law 511 [l0, l1, l2, l3] (.int 2 :: st) M Q) ∧
  (∀ (l0 l1 l2 l3 : Value) (x y : Int32) (st : List Value) (M : Mm) (Q : Option Value → Mm → Prop), wp F_Law_law 511 [l0, l1, l2, l3] (.int y :: .int x :: st) M Q = wp F_Law_law 512 [l0, l1, l2, l3] (.int (x + y) :: st) M Q) ∧
  (∀ (l0 l1 l2 l3 : Value) (a : Nat) (j : Int32) (st : List Value) (M : Mm) (Q : Option Value → Mm → Prop), wp F_Law_law 512 [l0, l1, l2, l3] (.int j :: .ref a :: st) M Q = (ixI M a j ∧ wp F_Law_law 513 [l0, l1, l2, l3] (.int (gI M a (cl j)) :: st) M Q)) ∧
  (∀ (l0 l1 l2 l3 : Value) (b : Nat) (p0 : Int32) (p1 : Int32) (r0 : Value) (M : Mm) (Q : Option Value → Mm → Prop), wp F_Law_law 513 [l0, l1, l2, l3] [.int p1, .int p0, .ref b, r0] M Q = (sh M b = some (.inl 12) ∧ wp F_Md_letter 0 [.ref b, .int p0, .int p1] [] M (fun r M1 => wp F_Law_law 516 [l0, l1, l2, l3] (r.toList ++ [r0]) M1 Q))) ∧
  (∀ (l0 l1 l2 l3 : Value) (x y : Int32) (st : List Value) (M : Mm) (Q : Option Value → Mm → Prop), wp F_Law_law 516 [l0, l1, l2, l3] (.int y :: .int x :: st) M Q = if x = y then wp F_Law_law 882 [l0, l1, l2, l3] st M Q else wp F_Law_law 519 [l0, l1, l2, l3] st M Q) ∧
  (∀ (l0 l1 l2 l3 : Value) (st : List Value) (M : Mm) (Q : Option Value → Mm → Prop), wp F_Law_law 519 [l0, l1, l2, l3] st M Q = wp F_Law_law 520 [l0, l1, l2, l3] (.int 0 :: st) M Q) ∧
  (∀ (l0 l1 l2 l3 : Value) (v : Int32) (M : Mm) (Q : Option Value → Mm → Prop), wp F_Law_law 520 [l0, l1, l2, l3] [.int v] M Q = ((v = 0 ∨ v = 1) ∧ Q (some (.int v)) M)) := ⟨fun _ _ _ _ _ _ _ => wp_in d_Law_law_488 rfl rfl, fun _ _ _ _ _ _ => wp_in d_Law_law_488 rfl rfl, fun _ _ _ _ _ _ _ => wp_in d_Law_law_489 rfl rfl, fun _ _ _ _ _ _ _ => wp_in d_Law_law_490 rfl rfl, fun _ _ _ _ _ _ _ => wp_iconst d_Law_law_491 (by decide), fun _ _ _ _ _ _ _ _ _ => wp_in d_Law_law_492 rfl rfl, fun _ _ _ _ _ _ _ _ _ => wp_iald d_Law_law_493, fun _ _ _ _ _ _ _ => wp_in d_Law_law_494 rfl rfl, fun _ _ _ _ _ _ _ => wp_in d_Law_law_495 rfl rfl, fun _ _ _ _ _ _ _ => wp_iconst d_Law_law_496 (by decide), fun _ _ _ _ _ _ _ _ _ => wp_in d_Law_law_497 rfl rfl, fun _ _ _ _ _ _ _ _ _ => wp_iald d_Law_law_498, fun _ _ _ _ _ _ _ _ _ => wp_callV d_Law_law_499 ml_13_68 rfl rfl rfl, fun _ _ _ _ _ _ _ => wp_in d_Law_law_502 rfl rfl, fun _ _ _ _ _ _ => wp_in d_Law_law_502 rfl rfl, fun _ _ _ _ _ _ _ => wp_in d_Law_law_503 rfl rfl, fun _ _ _ _ _ _ _ => wp_in d_Law_law_504 rfl rfl, fun _ _ _ _ _ _ _ => wp_iconst d_Law_law_505 (by decide), fun _ _ _ _ _ _ _ _ _ => wp_in d_Law_law_506 rfl rfl, fun _ _ _ _ _ _ _ _ _ => wp_iald d_Law_law_507, fun _ _ _ _ _ _ _ => wp_in d_Law_law_508 rfl rfl, fun _ _ _ _ _ _ _ => wp_in d_Law_law_509 rfl rfl, fun _ _ _ _ _ _ _ => wp_iconst d_Law_law_510 (by decide), fun _ _ _ _ _ _ _ _ _ => wp_in d_Law_law_511 rfl rfl, fun _ _ _ _ _ _ _ _ _ => wp_iald d_Law_law_512, fun _ _ _ _ _ _ _ _ _ _ => wp_callV d_Law_law_513 ml_13_71 rfl rfl rfl, fun _ _ _ _ _ _ _ _ _ => wp_icmp_eq d_Law_law_516 rfl, fun _ _ _ _ _ _ _ => wp_iconst d_Law_law_519 (by decide), fun _ _ _ _ _ _ _ => wp_retZ d_Law_law_520 rfl⟩
theorem B_Law_law_521 : (∀ (l0 l2 l3 : Value) (x : Nat) (st : List Value) (M : Mm) (Q : Option Value → Mm → Prop), wp F_Law_law 521 [l0, .ref x, l2, l3] st M Q = wp F_Law_law 522 [l0, .ref x, l2, l3] (.ref x :: st) M Q) ∧
  (∀ (l0 l2 l3 : Value) (st : List Value) (M : Mm) (Q : Option Value → Mm → Prop), wp F_Law_law 521 [l0, .null, l2, l3] st M Q = wp F_Law_law 522 [l0, .null, l2, l3] (.null :: st) M Q) ∧
  (∀ (l1 l2 l3 : Value) (x : Nat) (st : List Value) (M : Mm) (Q : Option Value → Mm → Prop), wp F_Law_law 522 [.ref x, l1, l2, l3] st M Q = wp F_Law_law 523 [.ref x, l1, l2, l3] (.ref x :: st) M Q) ∧
  (∀ (l0 l1 l2 : Value) (x : Int32) (st : List Value) (M : Mm) (Q : Option Value → Mm → Prop), wp F_Law_law 523 [l0, l1, l2, .int x] st M Q = wp F_Law_law 524 [l0, l1, l2, .int x] (.int x :: st) M Q) ∧
  (∀ (l0 l1 l2 l3 : Value) (st : List Value) (M : Mm) (Q : Option Value → Mm → Prop), wp F_Law_law 524 [l0, l1, l2, l3] st M Q = wp F_Law_law 525 [l0, l1, l2, l3] (.int 1 :: st) M Q) ∧
  (∀ (l0 l1 l2 l3 : Value) (x y : Int32) (st : List Value) (M : Mm) (Q : Option Value → Mm → Prop), wp F_Law_law 525 [l0, l1, l2, l3] (.int y :: .int x :: st) M Q = wp F_Law_law 526 [l0, l1, l2, l3] (.int (x + y) :: st) M Q) ∧
  (∀ (l0 l1 l2 l3 : Value) (a : Nat) (j : Int32) (st : List Value) (M : Mm) (Q : Option Value → Mm → Prop), wp F_Law_law 526 [l0, l1, l2, l3] (.int j :: .ref a :: st) M Q = (ixI M a j ∧ wp F_Law_law 527 [l0, l1, l2, l3] (.int (gI M a (cl j)) :: st) M Q)) ∧
  (∀ (l1 l2 l3 : Value) (x : Nat) (st : List Value) (M : Mm) (Q : Option Value → Mm → Prop), wp F_Law_law 527 [.ref x, l1, l2, l3] st M Q = wp F_Law_law 528 [.ref x, l1, l2, l3] (.ref x :: st) M Q) ∧
  (∀ (l0 l1 l2 : Value) (x : Int32) (st : List Value) (M : Mm) (Q : Option Value → Mm → Prop), wp F_Law_law 528 [l0, l1, l2, .int x] st M Q = wp F_Law_law 529 [l0, l1, l2, .int x] (.int x :: st) M Q) ∧
  (∀ (l0 l1 l2 l3 : Value) (st : List Value) (M : Mm) (Q : Option Value → Mm → Prop), wp F_Law_law 529 [l0, l1, l2, l3] st M Q = wp F_Law_law 530 [l0, l1, l2, l3] (.int 2 :: st) M Q) ∧
  (∀ (l0 l1 l2 l3 : Value) (x y : Int32) (st : List Value) (M : Mm) (Q : Option Value → Mm → Prop), wp F_Law_law 530 [l0, l1, l2, l3] (.int y :: .int x :: st) M Q = wp F_Law_law 531 [l0, l1, l2, l3] (.int (x + y) :: st) M Q) ∧
  (∀ (l0 l1 l2 l3 : Value) (a : Nat) (j : Int32) (st : List Value) (M : Mm) (Q : Option Value → Mm → Prop), wp F_Law_law 531 [l0, l1, l2, l3] (.int j :: .ref a :: st) M Q = (ixI M a j ∧ wp F_Law_law 532 [l0, l1, l2, l3] (.int (gI M a (cl j)) :: st) M Q)) ∧
  (∀ (l1 l2 l3 : Value) (x : Nat) (st : List Value) (M : Mm) (Q : Option Value → Mm → Prop), wp F_Law_law 532 [.ref x, l1, l2, l3] st M Q = wp F_Law_law 533 [.ref x, l1, l2, l3] (.ref x :: st) M Q) ∧
  (∀ (l0 l1 l2 : Value) (x : Int32) (st : List Value) (M : Mm) (Q : Option Value → Mm → Prop), wp F_Law_law 533 [l0, l1, l2, .int x] st M Q = wp F_Law_law 534 [l0, l1, l2, .int x] (.int x :: st) M Q) ∧
  (∀ (l0 l1 l2 l3 : Value) (st : List Value) (M : Mm) (Q : Option Value → Mm → Prop), wp F_Law_law 534 [l0, l1, l2, l3] st M Q = wp F_Law_law 535 [l0, l1, l2, l3] (.int 3 :: st) M Q) ∧
  (∀ (l0 l1 l2 l3 : Value) (x y : Int32) (st : List Value) (M : Mm) (Q : Option Value → Mm → Prop), wp F_Law_law 535 [l0, l1, l2, l3] (.int y :: .int x :: st) M Q = wp F_Law_law 536 [l0, l1, l2, l3] (.int (x + y) :: st) M Q) ∧
  (∀ (l0 l1 l2 l3 : Value) (a : Nat) (j : Int32) (st : List Value) (M : Mm) (Q : Option Value → Mm → Prop), wp F_Law_law 536 [l0, l1, l2, l3] (.int j :: .ref a :: st) M Q = (ixI M a j ∧ wp F_Law_law 537 [l0, l1, l2, l3] (.int (gI M a (cl j)) :: st) M Q)) ∧
  (∀ (l0 l1 l2 l3 : Value) (b : Nat) (p0 : Int32) (p1 : Int32) (p2 : Int32) (M : Mm) (Q : Option Value → Mm → Prop), wp F_Law_law 537 [l0, l1, l2, l3] [.int p2, .int p1, .int p0, .ref b] M Q = (sh M b = some (.inl 11) ∧ wp F_Mr_join 0 [.ref b, .int p0, .int p1, .int p2] [] M (fun r M1 => wp F_Law_law 540 [l0, l1, l2, l3] (r.toList ++ []) M1 Q))) ∧
  (∀ (l0 l1 l3 : Value) (x : Nat) (st : List Value) (M : Mm) (Q : Option Value → Mm → Prop), wp F_Law_law 540 [l0, l1, .ref x, l3] st M Q = wp F_Law_law 541 [l0, l1, .ref x, l3] (.ref x :: st) M Q) ∧
  (∀ (l0 l1 l3 : Value) (st : List Value) (M : Mm) (Q : Option Value → Mm → Prop), wp F_Law_law 540 [l0, l1, .null, l3] st M Q = wp F_Law_law 541 [l0, l1, .null, l3] (.null :: st) M Q) ∧
  (∀ (l1 l2 l3 : Value) (x : Nat) (st : List Value) (M : Mm) (Q : Option Value → Mm → Prop), wp F_Law_law 541 [.ref x, l1, l2, l3] st M Q = wp F_Law_law 542 [.ref x, l1, l2, l3] (.ref x :: st) M Q) ∧
  (∀ (l0 l1 l2 : Value) (x : Int32) (st : List Value) (M : Mm) (Q : Option Value → Mm → Prop), wp F_Law_law 542 [l0, l1, l2, .int x] st M Q = wp F_Law_law 543 [l0, l1, l2, .int x] (.int x :: st) M Q) ∧
  (∀ (l0 l1 l2 l3 : Value) (st : List Value) (M : Mm) (Q : Option Value → Mm → Prop), wp F_Law_law 543 [l0, l1, l2, l3] st M Q = wp F_Law_law 544 [l0, l1, l2, l3] (.int 1 :: st) M Q) ∧
  (∀ (l0 l1 l2 l3 : Value) (x y : Int32) (st : List Value) (M : Mm) (Q : Option Value → Mm → Prop), wp F_Law_law 544 [l0, l1, l2, l3] (.int y :: .int x :: st) M Q = wp F_Law_law 545 [l0, l1, l2, l3] (.int (x + y) :: st) M Q) ∧
  (∀ (l0 l1 l2 l3 : Value) (a : Nat) (j : Int32) (st : List Value) (M : Mm) (Q : Option Value → Mm → Prop), wp F_Law_law 545 [l0, l1, l2, l3] (.int j :: .ref a :: st) M Q = (ixI M a j ∧ wp F_Law_law 546 [l0, l1, l2, l3] (.int (gI M a (cl j)) :: st) M Q)) ∧
  (∀ (l1 l2 l3 : Value) (x : Nat) (st : List Value) (M : Mm) (Q : Option Value → Mm → Prop), wp F_Law_law 546 [.ref x, l1, l2, l3] st M Q = wp F_Law_law 547 [.ref x, l1, l2, l3] (.ref x :: st) M Q) ∧
  (∀ (l0 l1 l2 : Value) (x : Int32) (st : List Value) (M : Mm) (Q : Option Value → Mm → Prop), wp F_Law_law 547 [l0, l1, l2, .int x] st M Q = wp F_Law_law 548 [l0, l1, l2, .int x] (.int x :: st) M Q) ∧
  (∀ (l0 l1 l2 l3 : Value) (st : List Value) (M : Mm) (Q : Option Value → Mm → Prop), wp F_Law_law 548 [l0, l1, l2, l3] st M Q = wp F_Law_law 549 [l0, l1, l2, l3] (.int 2 :: st) M Q) ∧
  (∀ (l0 l1 l2 l3 : Value) (x y : Int32) (st : List Value) (M : Mm) (Q : Option Value → Mm → Prop), wp F_Law_law 549 [l0, l1, l2, l3] (.int y :: .int x :: st) M Q = wp F_Law_law 550 [l0, l1, l2, l3] (.int (x + y) :: st) M Q) ∧
  (∀ (l0 l1 l2 l3 : Value) (a : Nat) (j : Int32) (st : List Value) (M : Mm) (Q : Option Value → Mm → Prop), wp F_Law_law 550 [l0, l1, l2, l3] (.int j :: .ref a :: st) M Q = (ixI M a j ∧ wp F_Law_law 551 [l0, l1, l2, l3] (.int (gI M a (cl j)) :: st) M Q)) ∧
  (∀ (l1 l2 l3 : Value) (x : Nat) (st : List Value) (M : Mm) (Q : Option Value → Mm → Prop), wp F_Law_law 551 [.ref x, l1, l2, l3] st M Q = wp F_Law_law 552 [.ref x, l1, l2, l3] (.ref x :: st) M Q) ∧
  (∀ (l0 l1 l2 : Value) (x : Int32) (st : List Value) (M : Mm) (Q : Option Value → Mm → Prop), wp F_Law_law 552 [l0, l1, l2, .int x] st M Q = wp F_Law_law 553 [l0, l1, l2, .int x] (.int x :: st) M Q) ∧
  (∀ (l0 l1 l2 l3 : Value) (st : List Value) (M : Mm) (Q : Option Value → Mm → Prop), wp F_Law_law 553 [l0, l1, l2, l3] st M Q = wp F_Law_law 554 [l0, l1, l2, l3] (.int 3 :: st) M Q) ∧
  (∀ (l0 l1 l2 l3 : Value) (x y : Int32) (st : List Value) (M : Mm) (Q : Option Value → Mm → Prop), wp F_Law_law 554 [l0, l1, l2, l3] (.int y :: .int x :: st) M Q = wp F_Law_law 555 [l0, l1, l2, l3] (.int (x + y) :: st) M Q) ∧
  (∀ (l0 l1 l2 l3 : Value) (a : Nat) (j : Int32) (st : List Value) (M : Mm) (Q : Option Value → Mm → Prop), wp F_Law_law 555 [l0, l1, l2, l3] (.int j :: .ref a :: st) M Q = (ixI M a j ∧ wp F_Law_law 556 [l0, l1, l2, l3] (.int (gI M a (cl j)) :: st) M Q)) ∧
  (∀ (l0 l1 l2 l3 : Value) (b : Nat) (p0 : Int32) (p1 : Int32) (p2 : Int32) (r0 : Value) (M : Mm) (Q : Option Value → Mm → Prop), wp F_Law_law 556 [l0, l1, l2, l3] [.int p2, .int p1, .int p0, .ref b, r0] M Q = (sh M b = some (.inl 12) ∧ wp F_Md_join 0 [.ref b, .int p0, .int p1, .int p2, jk] [] M (fun r M1 => wp F_Law_law 559 [l0, l1, l2, l3] (r.toList ++ [r0]) M1 Q))) ∧
  (∀ (l0 l1 l2 l3 : Value) (x y : Int32) (st : List Value) (M : Mm) (Q : Option Value → Mm → Prop), wp F_Law_law 559 [l0, l1, l2, l3] (.int y :: .int x :: st) M Q = if x = y then wp F_Law_law 882 [l0, l1, l2, l3] st M Q else wp F_Law_law 562 [l0, l1, l2, l3] st M Q) ∧
  (∀ (l0 l1 l2 l3 : Value) (st : List Value) (M : Mm) (Q : Option Value → Mm → Prop), wp F_Law_law 562 [l0, l1, l2, l3] st M Q = wp F_Law_law 563 [l0, l1, l2, l3] (.int 0 :: st) M Q) ∧
  (∀ (l0 l1 l2 l3 : Value) (v : Int32) (M : Mm) (Q : Option Value → Mm → Prop), wp F_Law_law 563 [l0, l1, l2, l3] [.int v] M Q = ((v = 0 ∨ v = 1) ∧ Q (some (.int v)) M)) := ⟨fun _ _ _ _ _ _ _ => wp_in d_Law_law_521 rfl rfl, fun _ _ _ _ _ _ => wp_in d_Law_law_521 rfl rfl, fun _ _ _ _ _ _ _ => wp_in d_Law_law_522 rfl rfl, fun _ _ _ _ _ _ _ => wp_in d_Law_law_523 rfl rfl, fun _ _ _ _ _ _ _ => wp_iconst d_Law_law_524 (by decide), fun _ _ _ _ _ _ _ _ _ => wp_in d_Law_law_525 rfl rfl, fun _ _ _ _ _ _ _ _ _ => wp_iald d_Law_law_526, fun _ _ _ _ _ _ _ => wp_in d_Law_law_527 rfl rfl, fun _ _ _ _ _ _ _ => wp_in d_Law_law_528 rfl rfl, fun _ _ _ _ _ _ _ => wp_iconst d_Law_law_529 (by decide), fun _ _ _ _ _ _ _ _ _ => wp_in d_Law_law_530 rfl rfl, fun _ _ _ _ _ _ _ _ _ => wp_iald d_Law_law_531, fun _ _ _ _ _ _ _ => wp_in d_Law_law_532 rfl rfl, fun _ _ _ _ _ _ _ => wp_in d_Law_law_533 rfl rfl, fun _ _ _ _ _ _ _ => wp_iconst d_Law_law_534 (by decide), fun _ _ _ _ _ _ _ _ _ => wp_in d_Law_law_535 rfl rfl, fun _ _ _ _ _ _ _ _ _ => wp_iald d_Law_law_536, fun _ _ _ _ _ _ _ _ _ _ => wp_callV d_Law_law_537 ml_13_72 rfl rfl rfl, fun _ _ _ _ _ _ _ => wp_in d_Law_law_540 rfl rfl, fun _ _ _ _ _ _ => wp_in d_Law_law_540 rfl rfl, fun _ _ _ _ _ _ _ => wp_in d_Law_law_541 rfl rfl, fun _ _ _ _ _ _ _ => wp_in d_Law_law_542 rfl rfl, fun _ _ _ _ _ _ _ => wp_iconst d_Law_law_543 (by decide), fun _ _ _ _ _ _ _ _ _ => wp_in d_Law_law_544 rfl rfl, fun _ _ _ _ _ _ _ _ _ => wp_iald d_Law_law_545, fun _ _ _ _ _ _ _ => wp_in d_Law_law_546 rfl rfl, fun _ _ _ _ _ _ _ => wp_in d_Law_law_547 rfl rfl, fun _ _ _ _ _ _ _ => wp_iconst d_Law_law_548 (by decide), fun _ _ _ _ _ _ _ _ _ => wp_in d_Law_law_549 rfl rfl, fun _ _ _ _ _ _ _ _ _ => wp_iald d_Law_law_550, fun _ _ _ _ _ _ _ => wp_in d_Law_law_551 rfl rfl, fun _ _ _ _ _ _ _ => wp_in d_Law_law_552 rfl rfl, fun _ _ _ _ _ _ _ => wp_iconst d_Law_law_553 (by decide), fun _ _ _ _ _ _ _ _ _ => wp_in d_Law_law_554 rfl rfl, fun _ _ _ _ _ _ _ _ _ => wp_iald d_Law_law_555, fun _ _ _ _ _ _ _ _ _ _ _ => wp_callV d_Law_law_556 ml_13_75 rfl rfl rfl, fun _ _ _ _ _ _ _ _ _ => wp_icmp_eq d_Law_law_559 rfl, fun _ _ _ _ _ _ _ => wp_iconst d_Law_law_562 (by decide), fun _ _ _ _ _ _ _ => wp_retZ d_Law_law_563 rfl⟩
theorem B_Law_law_564 : (∀ (l0 l2 l3 : Value) (x : Nat) (st : List Value) (M : Mm) (Q : Option Value → Mm → Prop), wp F_Law_law 564 [l0, .ref x, l2, l3] st M Q = wp F_Law_law 565 [l0, .ref x, l2, l3] (.ref x :: st) M Q) ∧
  (∀ (l0 l2 l3 : Value) (st : List Value) (M : Mm) (Q : Option Value → Mm → Prop), wp F_Law_law 564 [l0, .null, l2, l3] st M Q = wp F_Law_law 565 [l0, .null, l2, l3] (.null :: st) M Q) ∧
  (∀ (l1 l2 l3 : Value) (x : Nat) (st : List Value) (M : Mm) (Q : Option Value → Mm → Prop), wp F_Law_law 565 [.ref x, l1, l2, l3] st M Q = wp F_Law_law 566 [.ref x, l1, l2, l3] (.ref x :: st) M Q) ∧
  (∀ (l0 l1 l2 : Value) (x : Int32) (st : List Value) (M : Mm) (Q : Option Value → Mm → Prop), wp F_Law_law 566 [l0, l1, l2, .int x] st M Q = wp F_Law_law 567 [l0, l1, l2, .int x] (.int x :: st) M Q) ∧
  (∀ (l0 l1 l2 l3 : Value) (st : List Value) (M : Mm) (Q : Option Value → Mm → Prop), wp F_Law_law 567 [l0, l1, l2, l3] st M Q = wp F_Law_law 568 [l0, l1, l2, l3] (.int 1 :: st) M Q) ∧
  (∀ (l0 l1 l2 l3 : Value) (x y : Int32) (st : List Value) (M : Mm) (Q : Option Value → Mm → Prop), wp F_Law_law 568 [l0, l1, l2, l3] (.int y :: .int x :: st) M Q = wp F_Law_law 569 [l0, l1, l2, l3] (.int (x + y) :: st) M Q) ∧
  (∀ (l0 l1 l2 l3 : Value) (a : Nat) (j : Int32) (st : List Value) (M : Mm) (Q : Option Value → Mm → Prop), wp F_Law_law 569 [l0, l1, l2, l3] (.int j :: .ref a :: st) M Q = (ixI M a j ∧ wp F_Law_law 570 [l0, l1, l2, l3] (.int (gI M a (cl j)) :: st) M Q)) ∧
  (∀ (l0 l1 l2 l3 : Value) (b : Nat) (p0 : Int32) (M : Mm) (Q : Option Value → Mm → Prop), wp F_Law_law 570 [l0, l1, l2, l3] [.int p0, .ref b] M Q = (sh M b = some (.inl 11) ∧ wp F_Mr_reduce 0 [.ref b, .int p0] [] M (fun r M1 => wp F_Law_law 573 [l0, l1, l2, l3] (r.toList ++ []) M1 Q))) ∧
  (∀ (l0 l1 l3 : Value) (x : Nat) (st : List Value) (M : Mm) (Q : Option Value → Mm → Prop), wp F_Law_law 573 [l0, l1, .ref x, l3] st M Q = wp F_Law_law 574 [l0, l1, .ref x, l3] (.ref x :: st) M Q) ∧
  (∀ (l0 l1 l3 : Value) (st : List Value) (M : Mm) (Q : Option Value → Mm → Prop), wp F_Law_law 573 [l0, l1, .null, l3] st M Q = wp F_Law_law 574 [l0, l1, .null, l3] (.null :: st) M Q) ∧
  (∀ (l1 l2 l3 : Value) (x : Nat) (st : List Value) (M : Mm) (Q : Option Value → Mm → Prop), wp F_Law_law 574 [.ref x, l1, l2, l3] st M Q = wp F_Law_law 575 [.ref x, l1, l2, l3] (.ref x :: st) M Q) ∧
  (∀ (l0 l1 l2 : Value) (x : Int32) (st : List Value) (M : Mm) (Q : Option Value → Mm → Prop), wp F_Law_law 575 [l0, l1, l2, .int x] st M Q = wp F_Law_law 576 [l0, l1, l2, .int x] (.int x :: st) M Q) ∧
  (∀ (l0 l1 l2 l3 : Value) (st : List Value) (M : Mm) (Q : Option Value → Mm → Prop), wp F_Law_law 576 [l0, l1, l2, l3] st M Q = wp F_Law_law 577 [l0, l1, l2, l3] (.int 1 :: st) M Q) ∧
  (∀ (l0 l1 l2 l3 : Value) (x y : Int32) (st : List Value) (M : Mm) (Q : Option Value → Mm → Prop), wp F_Law_law 577 [l0, l1, l2, l3] (.int y :: .int x :: st) M Q = wp F_Law_law 578 [l0, l1, l2, l3] (.int (x + y) :: st) M Q) ∧
  (∀ (l0 l1 l2 l3 : Value) (a : Nat) (j : Int32) (st : List Value) (M : Mm) (Q : Option Value → Mm → Prop), wp F_Law_law 578 [l0, l1, l2, l3] (.int j :: .ref a :: st) M Q = (ixI M a j ∧ wp F_Law_law 579 [l0, l1, l2, l3] (.int (gI M a (cl j)) :: st) M Q)) ∧
  (∀ (l0 l1 l2 l3 : Value) (b : Nat) (p0 : Int32) (r0 : Value) (M : Mm) (Q : Option Value → Mm → Prop), wp F_Law_law 579 [l0, l1, l2, l3] [.int p0, .ref b, r0] M Q = (sh M b = some (.inl 12) ∧ wp F_Md_reduce 0 [.ref b, .int p0, jk, jk] [] M (fun r M1 => wp F_Law_law 582 [l0, l1, l2, l3] (r.toList ++ [r0]) M1 Q))) ∧
  (∀ (l0 l1 l2 l3 : Value) (x y : Int32) (st : List Value) (M : Mm) (Q : Option Value → Mm → Prop), wp F_Law_law 582 [l0, l1, l2, l3] (.int y :: .int x :: st) M Q = if x = y then wp F_Law_law 882 [l0, l1, l2, l3] st M Q else wp F_Law_law 585 [l0, l1, l2, l3] st M Q) ∧
  (∀ (l0 l1 l2 l3 : Value) (st : List Value) (M : Mm) (Q : Option Value → Mm → Prop), wp F_Law_law 585 [l0, l1, l2, l3] st M Q = wp F_Law_law 586 [l0, l1, l2, l3] (.int 0 :: st) M Q) ∧
  (∀ (l0 l1 l2 l3 : Value) (v : Int32) (M : Mm) (Q : Option Value → Mm → Prop), wp F_Law_law 586 [l0, l1, l2, l3] [.int v] M Q = ((v = 0 ∨ v = 1) ∧ Q (some (.int v)) M)) := ⟨fun _ _ _ _ _ _ _ => wp_in d_Law_law_564 rfl rfl, fun _ _ _ _ _ _ => wp_in d_Law_law_564 rfl rfl, fun _ _ _ _ _ _ _ => wp_in d_Law_law_565 rfl rfl, fun _ _ _ _ _ _ _ => wp_in d_Law_law_566 rfl rfl, fun _ _ _ _ _ _ _ => wp_iconst d_Law_law_567 (by decide), fun _ _ _ _ _ _ _ _ _ => wp_in d_Law_law_568 rfl rfl, fun _ _ _ _ _ _ _ _ _ => wp_iald d_Law_law_569, fun _ _ _ _ _ _ _ _ => wp_callV d_Law_law_570 ml_13_76 rfl rfl rfl, fun _ _ _ _ _ _ _ => wp_in d_Law_law_573 rfl rfl, fun _ _ _ _ _ _ => wp_in d_Law_law_573 rfl rfl, fun _ _ _ _ _ _ _ => wp_in d_Law_law_574 rfl rfl, fun _ _ _ _ _ _ _ => wp_in d_Law_law_575 rfl rfl, fun _ _ _ _ _ _ _ => wp_iconst d_Law_law_576 (by decide), fun _ _ _ _ _ _ _ _ _ => wp_in d_Law_law_577 rfl rfl, fun _ _ _ _ _ _ _ _ _ => wp_iald d_Law_law_578, fun _ _ _ _ _ _ _ _ _ => wp_callV d_Law_law_579 ml_13_79 rfl rfl rfl, fun _ _ _ _ _ _ _ _ _ => wp_icmp_eq d_Law_law_582 rfl, fun _ _ _ _ _ _ _ => wp_iconst d_Law_law_585 (by decide), fun _ _ _ _ _ _ _ => wp_retZ d_Law_law_586 rfl⟩
theorem B_Law_law_587 : (∀ (l0 l2 l3 : Value) (x : Nat) (st : List Value) (M : Mm) (Q : Option Value → Mm → Prop), wp F_Law_law 587 [l0, .ref x, l2, l3] st M Q = wp F_Law_law 588 [l0, .ref x, l2, l3] (.ref x :: st) M Q) ∧
  (∀ (l0 l2 l3 : Value) (st : List Value) (M : Mm) (Q : Option Value → Mm → Prop), wp F_Law_law 587 [l0, .null, l2, l3] st M Q = wp F_Law_law 588 [l0, .null, l2, l3] (.null :: st) M Q) ∧
  (∀ (l1 l2 l3 : Value) (x : Nat) (st : List Value) (M : Mm) (Q : Option Value → Mm → Prop), wp F_Law_law 588 [.ref x, l1, l2, l3] st M Q = wp F_Law_law 589 [.ref x, l1, l2, l3] (.ref x :: st) M Q) ∧
  (∀ (l0 l1 l2 : Value) (x : Int32) (st : List Value) (M : Mm) (Q : Option Value → Mm → Prop), wp F_Law_law 589 [l0, l1, l2, .int x] st M Q = wp F_Law_law 590 [l0, l1, l2, .int x] (.int x :: st) M Q) ∧
  (∀ (l0 l1 l2 l3 : Value) (st : List Value) (M : Mm) (Q : Option Value → Mm → Prop), wp F_Law_law 590 [l0, l1, l2, l3] st M Q = wp F_Law_law 591 [l0, l1, l2, l3] (.int 1 :: st) M Q) ∧
  (∀ (l0 l1 l2 l3 : Value) (x y : Int32) (st : List Value) (M : Mm) (Q : Option Value → Mm → Prop), wp F_Law_law 591 [l0, l1, l2, l3] (.int y :: .int x :: st) M Q = wp F_Law_law 592 [l0, l1, l2, l3] (.int (x + y) :: st) M Q) ∧
  (∀ (l0 l1 l2 l3 : Value) (a : Nat) (j : Int32) (st : List Value) (M : Mm) (Q : Option Value → Mm → Prop), wp F_Law_law 592 [l0, l1, l2, l3] (.int j :: .ref a :: st) M Q = (ixI M a j ∧ wp F_Law_law 593 [l0, l1, l2, l3] (.int (gI M a (cl j)) :: st) M Q)) ∧
  (∀ (l1 l2 l3 : Value) (x : Nat) (st : List Value) (M : Mm) (Q : Option Value → Mm → Prop), wp F_Law_law 593 [.ref x, l1, l2, l3] st M Q = wp F_Law_law 594 [.ref x, l1, l2, l3] (.ref x :: st) M Q) ∧
  (∀ (l0 l1 l2 : Value) (x : Int32) (st : List Value) (M : Mm) (Q : Option Value → Mm → Prop), wp F_Law_law 594 [l0, l1, l2, .int x] st M Q = wp F_Law_law 595 [l0, l1, l2, .int x] (.int x :: st) M Q) ∧
  (∀ (l0 l1 l2 l3 : Value) (st : List Value) (M : Mm) (Q : Option Value → Mm → Prop), wp F_Law_law 595 [l0, l1, l2, l3] st M Q = wp F_Law_law 596 [l0, l1, l2, l3] (.int 2 :: st) M Q) ∧
  (∀ (l0 l1 l2 l3 : Value) (x y : Int32) (st : List Value) (M : Mm) (Q : Option Value → Mm → Prop), wp F_Law_law 596 [l0, l1, l2, l3] (.int y :: .int x :: st) M Q = wp F_Law_law 597 [l0, l1, l2, l3] (.int (x + y) :: st) M Q) ∧
  (∀ (l0 l1 l2 l3 : Value) (a : Nat) (j : Int32) (st : List Value) (M : Mm) (Q : Option Value → Mm → Prop), wp F_Law_law 597 [l0, l1, l2, l3] (.int j :: .ref a :: st) M Q = (ixI M a j ∧ wp F_Law_law 598 [l0, l1, l2, l3] (.int (gI M a (cl j)) :: st) M Q)) ∧
  (∀ (l0 l1 l2 l3 : Value) (b : Nat) (p0 : Int32) (p1 : Int32) (M : Mm) (Q : Option Value → Mm → Prop), wp F_Law_law 598 [l0, l1, l2, l3] [.int p1, .int p0, .ref b] M Q = (sh M b = some (.inl 11) ∧ wp F_Mr_step 0 [.ref b, .int p0, .int p1] [] M (fun r M1 => wp F_Law_law 601 [l0, l1, l2, l3] (r.toList ++ []) M1 Q))) ∧
  (∀ (l0 l1 l3 : Value) (x : Nat) (st : List Value) (M : Mm) (Q : Option Value → Mm → Prop), wp F_Law_law 601 [l0, l1, .ref x, l3] st M Q = wp F_Law_law 602 [l0, l1, .ref x, l3] (.ref x :: st) M Q) ∧
  (∀ (l0 l1 l3 : Value) (st : List Value) (M : Mm) (Q : Option Value → Mm → Prop), wp F_Law_law 601 [l0, l1, .null, l3] st M Q = wp F_Law_law 602 [l0, l1, .null, l3] (.null :: st) M Q) ∧
  (∀ (l1 l2 l3 : Value) (x : Nat) (st : List Value) (M : Mm) (Q : Option Value → Mm → Prop), wp F_Law_law 602 [.ref x, l1, l2, l3] st M Q = wp F_Law_law 603 [.ref x, l1, l2, l3] (.ref x :: st) M Q) ∧
  (∀ (l0 l1 l2 : Value) (x : Int32) (st : List Value) (M : Mm) (Q : Option Value → Mm → Prop), wp F_Law_law 603 [l0, l1, l2, .int x] st M Q = wp F_Law_law 604 [l0, l1, l2, .int x] (.int x :: st) M Q) ∧
  (∀ (l0 l1 l2 l3 : Value) (st : List Value) (M : Mm) (Q : Option Value → Mm → Prop), wp F_Law_law 604 [l0, l1, l2, l3] st M Q = wp F_Law_law 605 [l0, l1, l2, l3] (.int 1 :: st) M Q) ∧
  (∀ (l0 l1 l2 l3 : Value) (x y : Int32) (st : List Value) (M : Mm) (Q : Option Value → Mm → Prop), wp F_Law_law 605 [l0, l1, l2, l3] (.int y :: .int x :: st) M Q = wp F_Law_law 606 [l0, l1, l2, l3] (.int (x + y) :: st) M Q) ∧
  (∀ (l0 l1 l2 l3 : Value) (a : Nat) (j : Int32) (st : List Value) (M : Mm) (Q : Option Value → Mm → Prop), wp F_Law_law 606 [l0, l1, l2, l3] (.int j :: .ref a :: st) M Q = (ixI M a j ∧ wp F_Law_law 607 [l0, l1, l2, l3] (.int (gI M a (cl j)) :: st) M Q)) ∧
  (∀ (l1 l2 l3 : Value) (x : Nat) (st : List Value) (M : Mm) (Q : Option Value → Mm → Prop), wp F_Law_law 607 [.ref x, l1, l2, l3] st M Q = wp F_Law_law 608 [.ref x, l1, l2, l3] (.ref x :: st) M Q) ∧
  (∀ (l0 l1 l2 : Value) (x : Int32) (st : List Value) (M : Mm) (Q : Option Value → Mm → Prop), wp F_Law_law 608 [l0, l1, l2, .int x] st M Q = wp F_Law_law 609 [l0, l1, l2, .int x] (.int x :: st) M Q) ∧
  (∀ (l0 l1 l2 l3 : Value) (st : List Value) (M : Mm) (Q : Option Value → Mm → Prop), wp F_Law_law 609 [l0, l1, l2, l3] st M Q = wp F_Law_law 610 [l0, l1, l2, l3] (.int 2 :: st) M Q) ∧
  (∀ (l0 l1 l2 l3 : Value) (x y : Int32) (st : List Value) (M : Mm) (Q : Option Value → Mm → Prop), wp F_Law_law 610 [l0, l1, l2, l3] (.int y :: .int x :: st) M Q = wp F_Law_law 611 [l0, l1, l2, l3] (.int (x + y) :: st) M Q) ∧
  (∀ (l0 l1 l2 l3 : Value) (a : Nat) (j : Int32) (st : List Value) (M : Mm) (Q : Option Value → Mm → Prop), wp F_Law_law 611 [l0, l1, l2, l3] (.int j :: .ref a :: st) M Q = (ixI M a j ∧ wp F_Law_law 612 [l0, l1, l2, l3] (.int (gI M a (cl j)) :: st) M Q)) ∧
  (∀ (l0 l1 l2 l3 : Value) (b : Nat) (p0 : Int32) (p1 : Int32) (r0 : Value) (M : Mm) (Q : Option Value → Mm → Prop), wp F_Law_law 612 [l0, l1, l2, l3] [.int p1, .int p0, .ref b, r0] M Q = (sh M b = some (.inl 12) ∧ wp F_Md_step 0 [.ref b, .int p0, .int p1] [] M (fun r M1 => wp F_Law_law 615 [l0, l1, l2, l3] (r.toList ++ [r0]) M1 Q))) ∧
  (∀ (l0 l1 l2 l3 : Value) (x y : Int32) (st : List Value) (M : Mm) (Q : Option Value → Mm → Prop), wp F_Law_law 615 [l0, l1, l2, l3] (.int y :: .int x :: st) M Q = if x = y then wp F_Law_law 882 [l0, l1, l2, l3] st M Q else wp F_Law_law 618 [l0, l1, l2, l3] st M Q) ∧
  (∀ (l0 l1 l2 l3 : Value) (st : List Value) (M : Mm) (Q : Option Value → Mm → Prop), wp F_Law_law 618 [l0, l1, l2, l3] st M Q = wp F_Law_law 619 [l0, l1, l2, l3] (.int 0 :: st) M Q) ∧
  (∀ (l0 l1 l2 l3 : Value) (v : Int32) (M : Mm) (Q : Option Value → Mm → Prop), wp F_Law_law 619 [l0, l1, l2, l3] [.int v] M Q = ((v = 0 ∨ v = 1) ∧ Q (some (.int v)) M)) := ⟨fun _ _ _ _ _ _ _ => wp_in d_Law_law_587 rfl rfl, fun _ _ _ _ _ _ => wp_in d_Law_law_587 rfl rfl, fun _ _ _ _ _ _ _ => wp_in d_Law_law_588 rfl rfl, fun _ _ _ _ _ _ _ => wp_in d_Law_law_589 rfl rfl, fun _ _ _ _ _ _ _ => wp_iconst d_Law_law_590 (by decide), fun _ _ _ _ _ _ _ _ _ => wp_in d_Law_law_591 rfl rfl, fun _ _ _ _ _ _ _ _ _ => wp_iald d_Law_law_592, fun _ _ _ _ _ _ _ => wp_in d_Law_law_593 rfl rfl, fun _ _ _ _ _ _ _ => wp_in d_Law_law_594 rfl rfl, fun _ _ _ _ _ _ _ => wp_iconst d_Law_law_595 (by decide), fun _ _ _ _ _ _ _ _ _ => wp_in d_Law_law_596 rfl rfl, fun _ _ _ _ _ _ _ _ _ => wp_iald d_Law_law_597, fun _ _ _ _ _ _ _ _ _ => wp_callV d_Law_law_598 ml_13_80 rfl rfl rfl, fun _ _ _ _ _ _ _ => wp_in d_Law_law_601 rfl rfl, fun _ _ _ _ _ _ => wp_in d_Law_law_601 rfl rfl, fun _ _ _ _ _ _ _ => wp_in d_Law_law_602 rfl rfl, fun _ _ _ _ _ _ _ => wp_in d_Law_law_603 rfl rfl, fun _ _ _ _ _ _ _ => wp_iconst d_Law_law_604 (by decide), fun _ _ _ _ _ _ _ _ _ => wp_in d_Law_law_605 rfl rfl, fun _ _ _ _ _ _ _ _ _ => wp_iald d_Law_law_606, fun _ _ _ _ _ _ _ => wp_in d_Law_law_607 rfl rfl, fun _ _ _ _ _ _ _ => wp_in d_Law_law_608 rfl rfl, fun _ _ _ _ _ _ _ => wp_iconst d_Law_law_609 (by decide), fun _ _ _ _ _ _ _ _ _ => wp_in d_Law_law_610 rfl rfl, fun _ _ _ _ _ _ _ _ _ => wp_iald d_Law_law_611, fun _ _ _ _ _ _ _ _ _ _ => wp_callV d_Law_law_612 ml_13_83 rfl rfl rfl, fun _ _ _ _ _ _ _ _ _ => wp_icmp_eq d_Law_law_615 rfl, fun _ _ _ _ _ _ _ => wp_iconst d_Law_law_618 (by decide), fun _ _ _ _ _ _ _ => wp_retZ d_Law_law_619 rfl⟩
theorem B_Law_law_620 : (∀ (l0 l2 l3 : Value) (x : Nat) (st : List Value) (M : Mm) (Q : Option Value → Mm → Prop), wp F_Law_law 620 [l0, .ref x, l2, l3] st M Q = wp F_Law_law 621 [l0, .ref x, l2, l3] (.ref x :: st) M Q) ∧
  (∀ (l0 l2 l3 : Value) (st : List Value) (M : Mm) (Q : Option Value → Mm → Prop), wp F_Law_law 620 [l0, .null, l2, l3] st M Q = wp F_Law_law 621 [l0, .null, l2, l3] (.null :: st) M Q) ∧
  (∀ (l1 l2 l3 : Value) (x : Nat) (st : List Value) (M : Mm) (Q : Option Value → Mm → Prop), wp F_Law_law 621 [.ref x, l1, l2, l3] st M Q = wp F_Law_law 622 [.ref x, l1, l2, l3] (.ref x :: st) M Q) ∧
  (∀ (l0 l1 l2 : Value) (x : Int32) (st : List Value) (M : Mm) (Q : Option Value → Mm → Prop), wp F_Law_law 622 [l0, l1, l2, .int x] st M Q = wp F_Law_law 623 [l0, l1, l2, .int x] (.int x :: st) M Q) ∧
  (∀ (l0 l1 l2 l3 : Value) (st : List Value) (M : Mm) (Q : Option Value → Mm → Prop), wp F_Law_law 623 [l0, l1, l2, l3] st M Q = wp F_Law_law 624 [l0, l1, l2, l3] (.int 1 :: st) M Q) ∧
  (∀ (l0 l1 l2 l3 : Value) (x y : Int32) (st : List Value) (M : Mm) (Q : Option Value → Mm → Prop), wp F_Law_law 624 [l0, l1, l2, l3] (.int y :: .int x :: st) M Q = wp F_Law_law 625 [l0, l1, l2, l3] (.int (x + y) :: st) M Q) ∧
  (∀ (l0 l1 l2 l3 : Value) (a : Nat) (j : Int32) (st : List Value) (M : Mm) (Q : Option Value → Mm → Prop), wp F_Law_law 625 [l0, l1, l2, l3] (.int j :: .ref a :: st) M Q = (ixI M a j ∧ wp F_Law_law 626 [l0, l1, l2, l3] (.int (gI M a (cl j)) :: st) M Q)) ∧
  (∀ (l1 l2 l3 : Value) (x : Nat) (st : List Value) (M : Mm) (Q : Option Value → Mm → Prop), wp F_Law_law 626 [.ref x, l1, l2, l3] st M Q = wp F_Law_law 627 [.ref x, l1, l2, l3] (.ref x :: st) M Q) ∧
  (∀ (l0 l1 l2 : Value) (x : Int32) (st : List Value) (M : Mm) (Q : Option Value → Mm → Prop), wp F_Law_law 627 [l0, l1, l2, .int x] st M Q = wp F_Law_law 628 [l0, l1, l2, .int x] (.int x :: st) M Q) ∧
  (∀ (l0 l1 l2 l3 : Value) (st : List Value) (M : Mm) (Q : Option Value → Mm → Prop), wp F_Law_law 628 [l0, l1, l2, l3] st M Q = wp F_Law_law 629 [l0, l1, l2, l3] (.int 2 :: st) M Q) ∧
  (∀ (l0 l1 l2 l3 : Value) (x y : Int32) (st : List Value) (M : Mm) (Q : Option Value → Mm → Prop), wp F_Law_law 629 [l0, l1, l2, l3] (.int y :: .int x :: st) M Q = wp F_Law_law 630 [l0, l1, l2, l3] (.int (x + y) :: st) M Q) ∧
  (∀ (l0 l1 l2 l3 : Value) (a : Nat) (j : Int32) (st : List Value) (M : Mm) (Q : Option Value → Mm → Prop), wp F_Law_law 630 [l0, l1, l2, l3] (.int j :: .ref a :: st) M Q = (ixI M a j ∧ wp F_Law_law 631 [l0, l1, l2, l3] (.int (gI M a (cl j)) :: st) M Q)) ∧
  (∀ (l0 l1 l2 l3 : Value) (b : Nat) (p0 : Int32) (p1 : Int32) (M : Mm) (Q : Option Value → Mm → Prop), wp F_Law_law 631 [l0, l1, l2, l3] [.int p1, .int p0, .ref b] M Q = (sh M b = some (.inl 11) ∧ wp F_Mr_same 0 [.ref b, .int p0, .int p1] [] M (fun r M1 => wp F_Law_law 634 [l0, l1, l2, l3] (r.toList ++ []) M1 Q))) ∧
  (∀ (l0 l1 l3 : Value) (x : Nat) (st : List Value) (M : Mm) (Q : Option Value → Mm → Prop), wp F_Law_law 634 [l0, l1, .ref x, l3] st M Q = wp F_Law_law 635 [l0, l1, .ref x, l3] (.ref x :: st) M Q) ∧
  (∀ (l0 l1 l3 : Value) (st : List Value) (M : Mm) (Q : Option Value → Mm → Prop), wp F_Law_law 634 [l0, l1, .null, l3] st M Q = wp F_Law_law 635 [l0, l1, .null, l3] (.null :: st) M Q) ∧
  (∀ (l1 l2 l3 : Value) (x : Nat) (st : List Value) (M : Mm) (Q : Option Value → Mm → Prop), wp F_Law_law 635 [.ref x, l1, l2, l3] st M Q = wp F_Law_law 636 [.ref x, l1, l2, l3] (.ref x :: st) M Q) ∧
  (∀ (l0 l1 l2 : Value) (x : Int32) (st : List Value) (M : Mm) (Q : Option Value → Mm → Prop), wp F_Law_law 636 [l0, l1, l2, .int x] st M Q = wp F_Law_law 637 [l0, l1, l2, .int x] (.int x :: st) M Q) ∧
  (∀ (l0 l1 l2 l3 : Value) (st : List Value) (M : Mm) (Q : Option Value → Mm → Prop), wp F_Law_law 637 [l0, l1, l2, l3] st M Q = wp F_Law_law 638 [l0, l1, l2, l3] (.int 1 :: st) M Q) ∧
  (∀ (l0 l1 l2 l3 : Value) (x y : Int32) (st : List Value) (M : Mm) (Q : Option Value → Mm → Prop), wp F_Law_law 638 [l0, l1, l2, l3] (.int y :: .int x :: st) M Q = wp F_Law_law 639 [l0, l1, l2, l3] (.int (x + y) :: st) M Q) ∧
  (∀ (l0 l1 l2 l3 : Value) (a : Nat) (j : Int32) (st : List Value) (M : Mm) (Q : Option Value → Mm → Prop), wp F_Law_law 639 [l0, l1, l2, l3] (.int j :: .ref a :: st) M Q = (ixI M a j ∧ wp F_Law_law 640 [l0, l1, l2, l3] (.int (gI M a (cl j)) :: st) M Q)) ∧
  (∀ (l1 l2 l3 : Value) (x : Nat) (st : List Value) (M : Mm) (Q : Option Value → Mm → Prop), wp F_Law_law 640 [.ref x, l1, l2, l3] st M Q = wp F_Law_law 641 [.ref x, l1, l2, l3] (.ref x :: st) M Q) ∧
  (∀ (l0 l1 l2 : Value) (x : Int32) (st : List Value) (M : Mm) (Q : Option Value → Mm → Prop), wp F_Law_law 641 [l0, l1, l2, .int x] st M Q = wp F_Law_law 642 [l0, l1, l2, .int x] (.int x :: st) M Q) ∧
  (∀ (l0 l1 l2 l3 : Value) (st : List Value) (M : Mm) (Q : Option Value → Mm → Prop), wp F_Law_law 642 [l0, l1, l2, l3] st M Q = wp F_Law_law 643 [l0, l1, l2, l3] (.int 2 :: st) M Q) ∧
  (∀ (l0 l1 l2 l3 : Value) (x y : Int32) (st : List Value) (M : Mm) (Q : Option Value → Mm → Prop), wp F_Law_law 643 [l0, l1, l2, l3] (.int y :: .int x :: st) M Q = wp F_Law_law 644 [l0, l1, l2, l3] (.int (x + y) :: st) M Q) ∧
  (∀ (l0 l1 l2 l3 : Value) (a : Nat) (j : Int32) (st : List Value) (M : Mm) (Q : Option Value → Mm → Prop), wp F_Law_law 644 [l0, l1, l2, l3] (.int j :: .ref a :: st) M Q = (ixI M a j ∧ wp F_Law_law 645 [l0, l1, l2, l3] (.int (gI M a (cl j)) :: st) M Q)) ∧
  (∀ (l0 l1 l2 l3 : Value) (b : Nat) (p0 : Int32) (p1 : Int32) (r0 : Value) (M : Mm) (Q : Option Value → Mm → Prop), wp F_Law_law 645 [l0, l1, l2, l3] [.int p1, .int p0, .ref b, r0] M Q = (sh M b = some (.inl 12) ∧ wp F_Md_same 0 [.ref b, .int p0, .int p1, jk, jk] [] M (fun r M1 => wp F_Law_law 648 [l0, l1, l2, l3] (r.toList ++ [r0]) M1 Q))) ∧
  (∀ (l0 l1 l2 l3 : Value) (x y : Int32) (st : List Value) (M : Mm) (Q : Option Value → Mm → Prop), wp F_Law_law 648 [l0, l1, l2, l3] (.int y :: .int x :: st) M Q = if x = y then wp F_Law_law 882 [l0, l1, l2, l3] st M Q else wp F_Law_law 651 [l0, l1, l2, l3] st M Q) ∧
  (∀ (l0 l1 l2 l3 : Value) (st : List Value) (M : Mm) (Q : Option Value → Mm → Prop), wp F_Law_law 651 [l0, l1, l2, l3] st M Q = wp F_Law_law 652 [l0, l1, l2, l3] (.int 0 :: st) M Q) ∧
  (∀ (l0 l1 l2 l3 : Value) (v : Int32) (M : Mm) (Q : Option Value → Mm → Prop), wp F_Law_law 652 [l0, l1, l2, l3] [.int v] M Q = ((v = 0 ∨ v = 1) ∧ Q (some (.int v)) M)) := ⟨fun _ _ _ _ _ _ _ => wp_in d_Law_law_620 rfl rfl, fun _ _ _ _ _ _ => wp_in d_Law_law_620 rfl rfl, fun _ _ _ _ _ _ _ => wp_in d_Law_law_621 rfl rfl, fun _ _ _ _ _ _ _ => wp_in d_Law_law_622 rfl rfl, fun _ _ _ _ _ _ _ => wp_iconst d_Law_law_623 (by decide), fun _ _ _ _ _ _ _ _ _ => wp_in d_Law_law_624 rfl rfl, fun _ _ _ _ _ _ _ _ _ => wp_iald d_Law_law_625, fun _ _ _ _ _ _ _ => wp_in d_Law_law_626 rfl rfl, fun _ _ _ _ _ _ _ => wp_in d_Law_law_627 rfl rfl, fun _ _ _ _ _ _ _ => wp_iconst d_Law_law_628 (by decide), fun _ _ _ _ _ _ _ _ _ => wp_in d_Law_law_629 rfl rfl, fun _ _ _ _ _ _ _ _ _ => wp_iald d_Law_law_630, fun _ _ _ _ _ _ _ _ _ => wp_callV d_Law_law_631 ml_13_84 rfl rfl rfl, fun _ _ _ _ _ _ _ => wp_in d_Law_law_634 rfl rfl, fun _ _ _ _ _ _ => wp_in d_Law_law_634 rfl rfl, fun _ _ _ _ _ _ _ => wp_in d_Law_law_635 rfl rfl, fun _ _ _ _ _ _ _ => wp_in d_Law_law_636 rfl rfl, fun _ _ _ _ _ _ _ => wp_iconst d_Law_law_637 (by decide), fun _ _ _ _ _ _ _ _ _ => wp_in d_Law_law_638 rfl rfl, fun _ _ _ _ _ _ _ _ _ => wp_iald d_Law_law_639, fun _ _ _ _ _ _ _ => wp_in d_Law_law_640 rfl rfl, fun _ _ _ _ _ _ _ => wp_in d_Law_law_641 rfl rfl, fun _ _ _ _ _ _ _ => wp_iconst d_Law_law_642 (by decide), fun _ _ _ _ _ _ _ _ _ => wp_in d_Law_law_643 rfl rfl, fun _ _ _ _ _ _ _ _ _ => wp_iald d_Law_law_644, fun _ _ _ _ _ _ _ _ _ _ => wp_callV d_Law_law_645 ml_13_87 rfl rfl rfl, fun _ _ _ _ _ _ _ _ _ => wp_icmp_eq d_Law_law_648 rfl, fun _ _ _ _ _ _ _ => wp_iconst d_Law_law_651 (by decide), fun _ _ _ _ _ _ _ => wp_retZ d_Law_law_652 rfl⟩
theorem B_Law_law_653 : (∀ (l0 l2 l3 : Value) (x : Nat) (st : List Value) (M : Mm) (Q : Option Value → Mm → Prop), wp F_Law_law 653 [l0, .ref x, l2, l3] st M Q = wp F_Law_law 654 [l0, .ref x, l2, l3] (.ref x :: st) M Q) ∧
  (∀ (l0 l2 l3 : Value) (st : List Value) (M : Mm) (Q : Option Value → Mm → Prop), wp F_Law_law 653 [l0, .null, l2, l3] st M Q = wp F_Law_law 654 [l0, .null, l2, l3] (.null :: st) M Q) ∧
  (∀ (l1 l2 l3 : Value) (x : Nat) (st : List Value) (M : Mm) (Q : Option Value → Mm → Prop), wp F_Law_law 654 [.ref x, l1, l2, l3] st M Q = wp F_Law_law 655 [.ref x, l1, l2, l3] (.ref x :: st) M Q) ∧
  (∀ (l0 l1 l2 : Value) (x : Int32) (st : List Value) (M : Mm) (Q : Option Value → Mm → Prop), wp F_Law_law 655 [l0, l1, l2, .int x] st M Q = wp F_Law_law 656 [l0, l1, l2, .int x] (.int x :: st) M Q) ∧
  (∀ (l0 l1 l2 l3 : Value) (st : List Value) (M : Mm) (Q : Option Value → Mm → Prop), wp F_Law_law 656 [l0, l1, l2, l3] st M Q = wp F_Law_law 657 [l0, l1, l2, l3] (.int 1 :: st) M Q) ∧
  (∀ (l0 l1 l2 l3 : Value) (x y : Int32) (st : List Value) (M : Mm) (Q : Option Value → Mm → Prop), wp F_Law_law 657 [l0, l1, l2, l3] (.int y :: .int x :: st) M Q = wp F_Law_law 658 [l0, l1, l2, l3] (.int (x + y) :: st) M Q) ∧
  (∀ (l0 l1 l2 l3 : Value) (a : Nat) (j : Int32) (st : List Value) (M : Mm) (Q : Option Value → Mm → Prop), wp F_Law_law 658 [l0, l1, l2, l3] (.int j :: .ref a :: st) M Q = (ixI M a j ∧ wp F_Law_law 659 [l0, l1, l2, l3] (.int (gI M a (cl j)) :: st) M Q)) ∧
  (∀ (l1 l2 l3 : Value) (x : Nat) (st : List Value) (M : Mm) (Q : Option Value → Mm → Prop), wp F_Law_law 659 [.ref x, l1, l2, l3] st M Q = wp F_Law_law 660 [.ref x, l1, l2, l3] (.ref x :: st) M Q) ∧
  (∀ (l0 l1 l2 : Value) (x : Int32) (st : List Value) (M : Mm) (Q : Option Value → Mm → Prop), wp F_Law_law 660 [l0, l1, l2, .int x] st M Q = wp F_Law_law 661 [l0, l1, l2, .int x] (.int x :: st) M Q) ∧
  (∀ (l0 l1 l2 l3 : Value) (st : List Value) (M : Mm) (Q : Option Value → Mm → Prop), wp F_Law_law 661 [l0, l1, l2, l3] st M Q = wp F_Law_law 662 [l0, l1, l2, l3] (.int 2 :: st) M Q) ∧
  (∀ (l0 l1 l2 l3 : Value) (x y : Int32) (st : List Value) (M : Mm) (Q : Option Value → Mm → Prop), wp F_Law_law 662 [l0, l1, l2, l3] (.int y :: .int x :: st) M Q = wp F_Law_law 663 [l0, l1, l2, l3] (.int (x + y) :: st) M Q) ∧
  (∀ (l0 l1 l2 l3 : Value) (a : Nat) (j : Int32) (st : List Value) (M : Mm) (Q : Option Value → Mm → Prop), wp F_Law_law 663 [l0, l1, l2, l3] (.int j :: .ref a :: st) M Q = (ixI M a j ∧ wp F_Law_law 664 [l0, l1, l2, l3] (.int (gI M a (cl j)) :: st) M Q)) ∧
  (∀ (l0 l1 l2 l3 : Value) (b : Nat) (p0 : Int32) (p1 : Int32) (M : Mm) (Q : Option Value → Mm → Prop), wp F_Law_law 664 [l0, l1, l2, l3] [.int p1, .int p0, .ref b] M Q = (sh M b = some (.inl 11) ∧ wp F_Mr_compare 0 [.ref b, .int p0, .int p1] [] M (fun r M1 => wp F_Law_law 667 [l0, l1, l2, l3] (r.toList ++ []) M1 Q))) ∧
  (∀ (l0 l1 l3 : Value) (x : Nat) (st : List Value) (M : Mm) (Q : Option Value → Mm → Prop), wp F_Law_law 667 [l0, l1, .ref x, l3] st M Q = wp F_Law_law 668 [l0, l1, .ref x, l3] (.ref x :: st) M Q) ∧
  (∀ (l0 l1 l3 : Value) (st : List Value) (M : Mm) (Q : Option Value → Mm → Prop), wp F_Law_law 667 [l0, l1, .null, l3] st M Q = wp F_Law_law 668 [l0, l1, .null, l3] (.null :: st) M Q) ∧
  (∀ (l1 l2 l3 : Value) (x : Nat) (st : List Value) (M : Mm) (Q : Option Value → Mm → Prop), wp F_Law_law 668 [.ref x, l1, l2, l3] st M Q = wp F_Law_law 669 [.ref x, l1, l2, l3] (.ref x :: st) M Q) ∧
  (∀ (l0 l1 l2 : Value) (x : Int32) (st : List Value) (M : Mm) (Q : Option Value → Mm → Prop), wp F_Law_law 669 [l0, l1, l2, .int x] st M Q = wp F_Law_law 670 [l0, l1, l2, .int x] (.int x :: st) M Q) ∧
  (∀ (l0 l1 l2 l3 : Value) (st : List Value) (M : Mm) (Q : Option Value → Mm → Prop), wp F_Law_law 670 [l0, l1, l2, l3] st M Q = wp F_Law_law 671 [l0, l1, l2, l3] (.int 1 :: st) M Q) ∧
  (∀ (l0 l1 l2 l3 : Value) (x y : Int32) (st : List Value) (M : Mm) (Q : Option Value → Mm → Prop), wp F_Law_law 671 [l0, l1, l2, l3] (.int y :: .int x :: st) M Q = wp F_Law_law 672 [l0, l1, l2, l3] (.int (x + y) :: st) M Q) ∧
  (∀ (l0 l1 l2 l3 : Value) (a : Nat) (j : Int32) (st : List Value) (M : Mm) (Q : Option Value → Mm → Prop), wp F_Law_law 672 [l0, l1, l2, l3] (.int j :: .ref a :: st) M Q = (ixI M a j ∧ wp F_Law_law 673 [l0, l1, l2, l3] (.int (gI M a (cl j)) :: st) M Q)) ∧
  (∀ (l1 l2 l3 : Value) (x : Nat) (st : List Value) (M : Mm) (Q : Option Value → Mm → Prop), wp F_Law_law 673 [.ref x, l1, l2, l3] st M Q = wp F_Law_law 674 [.ref x, l1, l2, l3] (.ref x :: st) M Q) ∧
  (∀ (l0 l1 l2 : Value) (x : Int32) (st : List Value) (M : Mm) (Q : Option Value → Mm → Prop), wp F_Law_law 674 [l0, l1, l2, .int x] st M Q = wp F_Law_law 675 [l0, l1, l2, .int x] (.int x :: st) M Q) ∧
  (∀ (l0 l1 l2 l3 : Value) (st : List Value) (M : Mm) (Q : Option Value → Mm → Prop), wp F_Law_law 675 [l0, l1, l2, l3] st M Q = wp F_Law_law 676 [l0, l1, l2, l3] (.int 2 :: st) M Q) ∧
  (∀ (l0 l1 l2 l3 : Value) (x y : Int32) (st : List Value) (M : Mm) (Q : Option Value → Mm → Prop), wp F_Law_law 676 [l0, l1, l2, l3] (.int y :: .int x :: st) M Q = wp F_Law_law 677 [l0, l1, l2, l3] (.int (x + y) :: st) M Q) ∧
  (∀ (l0 l1 l2 l3 : Value) (a : Nat) (j : Int32) (st : List Value) (M : Mm) (Q : Option Value → Mm → Prop), wp F_Law_law 677 [l0, l1, l2, l3] (.int j :: .ref a :: st) M Q = (ixI M a j ∧ wp F_Law_law 678 [l0, l1, l2, l3] (.int (gI M a (cl j)) :: st) M Q)) ∧
  (∀ (l0 l1 l2 l3 : Value) (b : Nat) (p0 : Int32) (p1 : Int32) (r0 : Value) (M : Mm) (Q : Option Value → Mm → Prop), wp F_Law_law 678 [l0, l1, l2, l3] [.int p1, .int p0, .ref b, r0] M Q = (sh M b = some (.inl 12) ∧ wp F_Md_compare 0 [.ref b, .int p0, .int p1] [] M (fun r M1 => wp F_Law_law 681 [l0, l1, l2, l3] (r.toList ++ [r0]) M1 Q))) ∧
  (∀ (l0 l1 l2 l3 : Value) (x y : Int32) (st : List Value) (M : Mm) (Q : Option Value → Mm → Prop), wp F_Law_law 681 [l0, l1, l2, l3] (.int y :: .int x :: st) M Q = if x = y then wp F_Law_law 882 [l0, l1, l2, l3] st M Q else wp F_Law_law 684 [l0, l1, l2, l3] st M Q) ∧
  (∀ (l0 l1 l2 l3 : Value) (st : List Value) (M : Mm) (Q : Option Value → Mm → Prop), wp F_Law_law 684 [l0, l1, l2, l3] st M Q = wp F_Law_law 685 [l0, l1, l2, l3] (.int 0 :: st) M Q) ∧
  (∀ (l0 l1 l2 l3 : Value) (v : Int32) (M : Mm) (Q : Option Value → Mm → Prop), wp F_Law_law 685 [l0, l1, l2, l3] [.int v] M Q = ((v = 0 ∨ v = 1) ∧ Q (some (.int v)) M)) := ⟨fun _ _ _ _ _ _ _ => wp_in d_Law_law_653 rfl rfl, fun _ _ _ _ _ _ => wp_in d_Law_law_653 rfl rfl, fun _ _ _ _ _ _ _ => wp_in d_Law_law_654 rfl rfl, fun _ _ _ _ _ _ _ => wp_in d_Law_law_655 rfl rfl, fun _ _ _ _ _ _ _ => wp_iconst d_Law_law_656 (by decide), fun _ _ _ _ _ _ _ _ _ => wp_in d_Law_law_657 rfl rfl, fun _ _ _ _ _ _ _ _ _ => wp_iald d_Law_law_658, fun _ _ _ _ _ _ _ => wp_in d_Law_law_659 rfl rfl, fun _ _ _ _ _ _ _ => wp_in d_Law_law_660 rfl rfl, fun _ _ _ _ _ _ _ => wp_iconst d_Law_law_661 (by decide), fun _ _ _ _ _ _ _ _ _ => wp_in d_Law_law_662 rfl rfl, fun _ _ _ _ _ _ _ _ _ => wp_iald d_Law_law_663, fun _ _ _ _ _ _ _ _ _ => wp_callV d_Law_law_664 ml_13_88 rfl rfl rfl, fun _ _ _ _ _ _ _ => wp_in d_Law_law_667 rfl rfl, fun _ _ _ _ _ _ => wp_in d_Law_law_667 rfl rfl, fun _ _ _ _ _ _ _ => wp_in d_Law_law_668 rfl rfl, fun _ _ _ _ _ _ _ => wp_in d_Law_law_669 rfl rfl, fun _ _ _ _ _ _ _ => wp_iconst d_Law_law_670 (by decide), fun _ _ _ _ _ _ _ _ _ => wp_in d_Law_law_671 rfl rfl, fun _ _ _ _ _ _ _ _ _ => wp_iald d_Law_law_672, fun _ _ _ _ _ _ _ => wp_in d_Law_law_673 rfl rfl, fun _ _ _ _ _ _ _ => wp_in d_Law_law_674 rfl rfl, fun _ _ _ _ _ _ _ => wp_iconst d_Law_law_675 (by decide), fun _ _ _ _ _ _ _ _ _ => wp_in d_Law_law_676 rfl rfl, fun _ _ _ _ _ _ _ _ _ => wp_iald d_Law_law_677, fun _ _ _ _ _ _ _ _ _ _ => wp_callV d_Law_law_678 ml_13_91 rfl rfl rfl, fun _ _ _ _ _ _ _ _ _ => wp_icmp_eq d_Law_law_681 rfl, fun _ _ _ _ _ _ _ => wp_iconst d_Law_law_684 (by decide), fun _ _ _ _ _ _ _ => wp_retZ d_Law_law_685 rfl⟩
theorem B_Law_law_686 : (∀ (l0 l2 l3 : Value) (x : Nat) (st : List Value) (M : Mm) (Q : Option Value → Mm → Prop), wp F_Law_law 686 [l0, .ref x, l2, l3] st M Q = wp F_Law_law 687 [l0, .ref x, l2, l3] (.ref x :: st) M Q) ∧
  (∀ (l0 l2 l3 : Value) (st : List Value) (M : Mm) (Q : Option Value → Mm → Prop), wp F_Law_law 686 [l0, .null, l2, l3] st M Q = wp F_Law_law 687 [l0, .null, l2, l3] (.null :: st) M Q) ∧
  (∀ (l1 l2 l3 : Value) (x : Nat) (st : List Value) (M : Mm) (Q : Option Value → Mm → Prop), wp F_Law_law 687 [.ref x, l1, l2, l3] st M Q = wp F_Law_law 688 [.ref x, l1, l2, l3] (.ref x :: st) M Q) ∧
  (∀ (l0 l1 l2 : Value) (x : Int32) (st : List Value) (M : Mm) (Q : Option Value → Mm → Prop), wp F_Law_law 688 [l0, l1, l2, .int x] st M Q = wp F_Law_law 689 [l0, l1, l2, .int x] (.int x :: st) M Q) ∧
  (∀ (l0 l1 l2 l3 : Value) (st : List Value) (M : Mm) (Q : Option Value → Mm → Prop), wp F_Law_law 689 [l0, l1, l2, l3] st M Q = wp F_Law_law 690 [l0, l1, l2, l3] (.int 1 :: st) M Q) ∧
  (∀ (l0 l1 l2 l3 : Value) (x y : Int32) (st : List Value) (M : Mm) (Q : Option Value → Mm → Prop), wp F_Law_law 690 [l0, l1, l2, l3] (.int y :: .int x :: st) M Q = wp F_Law_law 691 [l0, l1, l2, l3] (.int (x + y) :: st) M Q) ∧
  (∀ (l0 l1 l2 l3 : Value) (a : Nat) (j : Int32) (st : List Value) (M : Mm) (Q : Option Value → Mm → Prop), wp F_Law_law 691 [l0, l1, l2, l3] (.int j :: .ref a :: st) M Q = (ixI M a j ∧ wp F_Law_law 692 [l0, l1, l2, l3] (.int (gI M a (cl j)) :: st) M Q)) ∧
  (∀ (l0 l1 l2 l3 : Value) (b : Nat) (p0 : Int32) (M : Mm) (Q : Option Value → Mm → Prop), wp F_Law_law 692 [l0, l1, l2, l3] [.int p0, .ref b] M Q = (sh M b = some (.inl 11) ∧ wp F_Mr_many 0 [.ref b, .int p0, jk, jk] [] M (fun r M1 => wp F_Law_law 695 [l0, l1, l2, l3] (r.toList ++ []) M1 Q))) ∧
  (∀ (l0 l1 l3 : Value) (x : Nat) (st : List Value) (M : Mm) (Q : Option Value → Mm → Prop), wp F_Law_law 695 [l0, l1, .ref x, l3] st M Q = wp F_Law_law 696 [l0, l1, .ref x, l3] (.ref x :: st) M Q) ∧
  (∀ (l0 l1 l3 : Value) (st : List Value) (M : Mm) (Q : Option Value → Mm → Prop), wp F_Law_law 695 [l0, l1, .null, l3] st M Q = wp F_Law_law 696 [l0, l1, .null, l3] (.null :: st) M Q) ∧
  (∀ (l1 l2 l3 : Value) (x : Nat) (st : List Value) (M : Mm) (Q : Option Value → Mm → Prop), wp F_Law_law 696 [.ref x, l1, l2, l3] st M Q = wp F_Law_law 697 [.ref x, l1, l2, l3] (.ref x :: st) M Q) ∧
  (∀ (l0 l1 l2 : Value) (x : Int32) (st : List Value) (M : Mm) (Q : Option Value → Mm → Prop), wp F_Law_law 697 [l0, l1, l2, .int x] st M Q = wp F_Law_law 698 [l0, l1, l2, .int x] (.int x :: st) M Q) ∧
  (∀ (l0 l1 l2 l3 : Value) (st : List Value) (M : Mm) (Q : Option Value → Mm → Prop), wp F_Law_law 698 [l0, l1, l2, l3] st M Q = wp F_Law_law 699 [l0, l1, l2, l3] (.int 1 :: st) M Q) ∧
  (∀ (l0 l1 l2 l3 : Value) (x y : Int32) (st : List Value) (M : Mm) (Q : Option Value → Mm → Prop), wp F_Law_law 699 [l0, l1, l2, l3] (.int y :: .int x :: st) M Q = wp F_Law_law 700 [l0, l1, l2, l3] (.int (x + y) :: st) M Q) ∧
  (∀ (l0 l1 l2 l3 : Value) (a : Nat) (j : Int32) (st : List Value) (M : Mm) (Q : Option Value → Mm → Prop), wp F_Law_law 700 [l0, l1, l2, l3] (.int j :: .ref a :: st) M Q = (ixI M a j ∧ wp F_Law_law 701 [l0, l1, l2, l3] (.int (gI M a (cl j)) :: st) M Q)) ∧
  (∀ (l0 l1 l2 l3 : Value) (b : Nat) (p0 : Int32) (r0 : Value) (M : Mm) (Q : Option Value → Mm → Prop), wp F_Law_law 701 [l0, l1, l2, l3] [.int p0, .ref b, r0] M Q = (sh M b = some (.inl 12) ∧ wp F_Md_many 0 [.ref b, .int p0, jk, jk] [] M (fun r M1 => wp F_Law_law 704 [l0, l1, l2, l3] (r.toList ++ [r0]) M1 Q))) ∧
  (∀ (l0 l1 l2 l3 : Value) (x y : Int64) (st : List Value) (M : Mm) (Q : Option Value → Mm → Prop), wp F_Law_law 704 [l0, l1, l2, l3] (.long y :: .long x :: st) M Q = wp F_Law_law 705 [l0, l1, l2, l3] (.int (lg_cmp x y) :: st) M Q) ∧
  (∀ (l0 l1 l2 l3 : Value) (x : Int32) (st : List Value) (M : Mm) (Q : Option Value → Mm → Prop), wp F_Law_law 705 [l0, l1, l2, l3] (.int x :: st) M Q = if x = 0 then wp F_Law_law 882 [l0, l1, l2, l3] st M Q else wp F_Law_law 708 [l0, l1, l2, l3] st M Q) ∧
  (∀ (l0 l1 l2 l3 : Value) (st : List Value) (M : Mm) (Q : Option Value → Mm → Prop), wp F_Law_law 708 [l0, l1, l2, l3] st M Q = wp F_Law_law 709 [l0, l1, l2, l3] (.int 0 :: st) M Q) ∧
  (∀ (l0 l1 l2 l3 : Value) (v : Int32) (M : Mm) (Q : Option Value → Mm → Prop), wp F_Law_law 709 [l0, l1, l2, l3] [.int v] M Q = ((v = 0 ∨ v = 1) ∧ Q (some (.int v)) M)) := ⟨fun _ _ _ _ _ _ _ => wp_in d_Law_law_686 rfl rfl, fun _ _ _ _ _ _ => wp_in d_Law_law_686 rfl rfl, fun _ _ _ _ _ _ _ => wp_in d_Law_law_687 rfl rfl, fun _ _ _ _ _ _ _ => wp_in d_Law_law_688 rfl rfl, fun _ _ _ _ _ _ _ => wp_iconst d_Law_law_689 (by decide), fun _ _ _ _ _ _ _ _ _ => wp_in d_Law_law_690 rfl rfl, fun _ _ _ _ _ _ _ _ _ => wp_iald d_Law_law_691, fun _ _ _ _ _ _ _ _ => wp_callV d_Law_law_692 ml_13_92 rfl rfl rfl, fun _ _ _ _ _ _ _ => wp_in d_Law_law_695 rfl rfl, fun _ _ _ _ _ _ => wp_in d_Law_law_695 rfl rfl, fun _ _ _ _ _ _ _ => wp_in d_Law_law_696 rfl rfl, fun _ _ _ _ _ _ _ => wp_in d_Law_law_697 rfl rfl, fun _ _ _ _ _ _ _ => wp_iconst d_Law_law_698 (by decide), fun _ _ _ _ _ _ _ _ _ => wp_in d_Law_law_699 rfl rfl, fun _ _ _ _ _ _ _ _ _ => wp_iald d_Law_law_700, fun _ _ _ _ _ _ _ _ _ => wp_callV d_Law_law_701 ml_13_96 rfl rfl rfl, fun _ _ _ _ _ _ _ _ _ => wp_in d_Law_law_704 rfl rfl, fun _ _ _ _ _ _ _ _ => wp_if_eq d_Law_law_705 rfl, fun _ _ _ _ _ _ _ => wp_iconst d_Law_law_708 (by decide), fun _ _ _ _ _ _ _ => wp_retZ d_Law_law_709 rfl⟩
theorem B_Law_law_710 : (∀ (l0 l2 l3 : Value) (x : Nat) (st : List Value) (M : Mm) (Q : Option Value → Mm → Prop), wp F_Law_law 710 [l0, .ref x, l2, l3] st M Q = wp F_Law_law 711 [l0, .ref x, l2, l3] (.ref x :: st) M Q) ∧
  (∀ (l0 l2 l3 : Value) (st : List Value) (M : Mm) (Q : Option Value → Mm → Prop), wp F_Law_law 710 [l0, .null, l2, l3] st M Q = wp F_Law_law 711 [l0, .null, l2, l3] (.null :: st) M Q) ∧
  (∀ (l0 l1 l2 l3 : Value) (b : Nat) (M : Mm) (Q : Option Value → Mm → Prop), wp F_Law_law 711 [l0, l1, l2, l3] [.ref b] M Q = (sh M b = some (.inl 11) ∧ wp F_Mr_size 0 [.ref b] [] M (fun r M1 => wp F_Law_law 714 [l0, l1, l2, l3] (r.toList ++ []) M1 Q))) ∧
  (∀ (l0 l1 l3 : Value) (x : Nat) (st : List Value) (M : Mm) (Q : Option Value → Mm → Prop), wp F_Law_law 714 [l0, l1, .ref x, l3] st M Q = wp F_Law_law 715 [l0, l1, .ref x, l3] (.ref x :: st) M Q) ∧
  (∀ (l0 l1 l3 : Value) (st : List Value) (M : Mm) (Q : Option Value → Mm → Prop), wp F_Law_law 714 [l0, l1, .null, l3] st M Q = wp F_Law_law 715 [l0, l1, .null, l3] (.null :: st) M Q) ∧
  (∀ (l0 l1 l2 l3 : Value) (b : Nat) (r0 : Value) (M : Mm) (Q : Option Value → Mm → Prop), wp F_Law_law 715 [l0, l1, l2, l3] [.ref b, r0] M Q = (sh M b = some (.inl 12) ∧ wp F_Md_size 0 [.ref b] [] M (fun r M1 => wp F_Law_law 718 [l0, l1, l2, l3] (r.toList ++ [r0]) M1 Q))) ∧
  (∀ (l0 l1 l2 l3 : Value) (x y : Int64) (st : List Value) (M : Mm) (Q : Option Value → Mm → Prop), wp F_Law_law 718 [l0, l1, l2, l3] (.long y :: .long x :: st) M Q = wp F_Law_law 719 [l0, l1, l2, l3] (.int (lg_cmp x y) :: st) M Q) ∧
  (∀ (l0 l1 l2 l3 : Value) (x : Int32) (st : List Value) (M : Mm) (Q : Option Value → Mm → Prop), wp F_Law_law 719 [l0, l1, l2, l3] (.int x :: st) M Q = if x = 0 then wp F_Law_law 882 [l0, l1, l2, l3] st M Q else wp F_Law_law 722 [l0, l1, l2, l3] st M Q) ∧
  (∀ (l0 l1 l2 l3 : Value) (st : List Value) (M : Mm) (Q : Option Value → Mm → Prop), wp F_Law_law 722 [l0, l1, l2, l3] st M Q = wp F_Law_law 723 [l0, l1, l2, l3] (.int 0 :: st) M Q) ∧
  (∀ (l0 l1 l2 l3 : Value) (v : Int32) (M : Mm) (Q : Option Value → Mm → Prop), wp F_Law_law 723 [l0, l1, l2, l3] [.int v] M Q = ((v = 0 ∨ v = 1) ∧ Q (some (.int v)) M)) := ⟨fun _ _ _ _ _ _ _ => wp_in d_Law_law_710 rfl rfl, fun _ _ _ _ _ _ => wp_in d_Law_law_710 rfl rfl, fun _ _ _ _ _ _ _ => wp_callV d_Law_law_711 ml_13_97 rfl rfl rfl, fun _ _ _ _ _ _ _ => wp_in d_Law_law_714 rfl rfl, fun _ _ _ _ _ _ => wp_in d_Law_law_714 rfl rfl, fun _ _ _ _ _ _ _ _ => wp_callV d_Law_law_715 ml_13_101 rfl rfl rfl, fun _ _ _ _ _ _ _ _ _ => wp_in d_Law_law_718 rfl rfl, fun _ _ _ _ _ _ _ _ => wp_if_eq d_Law_law_719 rfl, fun _ _ _ _ _ _ _ => wp_iconst d_Law_law_722 (by decide), fun _ _ _ _ _ _ _ => wp_retZ d_Law_law_723 rfl⟩
theorem B_Law_law_724 : (∀ (l0 l2 l3 : Value) (x : Nat) (st : List Value) (M : Mm) (Q : Option Value → Mm → Prop), wp F_Law_law 724 [l0, .ref x, l2, l3] st M Q = wp F_Law_law 725 [l0, .ref x, l2, l3] (.ref x :: st) M Q) ∧
  (∀ (l0 l2 l3 : Value) (st : List Value) (M : Mm) (Q : Option Value → Mm → Prop), wp F_Law_law 724 [l0, .null, l2, l3] st M Q = wp F_Law_law 725 [l0, .null, l2, l3] (.null :: st) M Q) ∧
  (∀ (l1 l2 l3 : Value) (x : Nat) (st : List Value) (M : Mm) (Q : Option Value → Mm → Prop), wp F_Law_law 725 [.ref x, l1, l2, l3] st M Q = wp F_Law_law 726 [.ref x, l1, l2, l3] (.ref x :: st) M Q) ∧
  (∀ (l0 l1 l2 : Value) (x : Int32) (st : List Value) (M : Mm) (Q : Option Value → Mm → Prop), wp F_Law_law 726 [l0, l1, l2, .int x] st M Q = wp F_Law_law 727 [l0, l1, l2, .int x] (.int x :: st) M Q) ∧
  (∀ (l0 l1 l2 l3 : Value) (st : List Value) (M : Mm) (Q : Option Value → Mm → Prop), wp F_Law_law 727 [l0, l1, l2, l3] st M Q = wp F_Law_law 728 [l0, l1, l2, l3] (.int 1 :: st) M Q) ∧
  (∀ (l0 l1 l2 l3 : Value) (x y : Int32) (st : List Value) (M : Mm) (Q : Option Value → Mm → Prop), wp F_Law_law 728 [l0, l1, l2, l3] (.int y :: .int x :: st) M Q = wp F_Law_law 729 [l0, l1, l2, l3] (.int (x + y) :: st) M Q) ∧
  (∀ (l0 l1 l2 l3 : Value) (a : Nat) (j : Int32) (st : List Value) (M : Mm) (Q : Option Value → Mm → Prop), wp F_Law_law 729 [l0, l1, l2, l3] (.int j :: .ref a :: st) M Q = (ixI M a j ∧ wp F_Law_law 730 [l0, l1, l2, l3] (.int (gI M a (cl j)) :: st) M Q)) ∧
  (∀ (l1 l2 l3 : Value) (x : Nat) (st : List Value) (M : Mm) (Q : Option Value → Mm → Prop), wp F_Law_law 730 [.ref x, l1, l2, l3] st M Q = wp F_Law_law 731 [.ref x, l1, l2, l3] (.ref x :: st) M Q) ∧
  (∀ (l0 l1 l2 : Value) (x : Int32) (st : List Value) (M : Mm) (Q : Option Value → Mm → Prop), wp F_Law_law 731 [l0, l1, l2, .int x] st M Q = wp F_Law_law 732 [l0, l1, l2, .int x] (.int x :: st) M Q) ∧
  (∀ (l0 l1 l2 l3 : Value) (st : List Value) (M : Mm) (Q : Option Value → Mm → Prop), wp F_Law_law 732 [l0, l1, l2, l3] st M Q = wp F_Law_law 733 [l0, l1, l2, l3] (.int 2 :: st) M Q) ∧
  (∀ (l0 l1 l2 l3 : Value) (x y : Int32) (st : List Value) (M : Mm) (Q : Option Value → Mm → Prop), wp F_Law_law 733 [l0, l1, l2, l3] (.int y :: .int x :: st) M Q = wp F_Law_law 734 [l0, l1, l2, l3] (.int (x + y) :: st) M Q) ∧
  (∀ (l0 l1 l2 l3 : Value) (a : Nat) (j : Int32) (st : List Value) (M : Mm) (Q : Option Value → Mm → Prop), wp F_Law_law 734 [l0, l1, l2, l3] (.int j :: .ref a :: st) M Q = (ixI M a j ∧ wp F_Law_law 735 [l0, l1, l2, l3] (.int (gI M a (cl j)) :: st) M Q)) ∧
  (∀ (l0 l1 l2 l3 : Value) (b : Nat) (p0 : Int32) (p1 : Int32) (M : Mm) (Q : Option Value → Mm → Prop), wp F_Law_law 735 [l0, l1, l2, l3] [.int p1, .int p0, .ref b] M Q = (sh M b = some (.inl 11) ∧ wp F_Mr_element 0 [.ref b, .int p0, .int p1, jk] [] M (fun r M1 => wp F_Law_law 738 [l0, l1, l2, l3] (r.toList ++ []) M1 Q))) ∧
  (∀ (l0 l1 l3 : Value) (x : Nat) (st : List Value) (M : Mm) (Q : Option Value → Mm → Prop), wp F_Law_law 738 [l0, l1, .ref x, l3] st M Q = wp F_Law_law 739 [l0, l1, .ref x, l3] (.ref x :: st) M Q) ∧
  (∀ (l0 l1 l3 : Value) (st : List Value) (M : Mm) (Q : Option Value → Mm → Prop), wp F_Law_law 738 [l0, l1, .null, l3] st M Q = wp F_Law_law 739 [l0, l1, .null, l3] (.null :: st) M Q) ∧
  (∀ (l1 l2 l3 : Value) (x : Nat) (st : List Value) (M : Mm) (Q : Option Value → Mm → Prop), wp F_Law_law 739 [.ref x, l1, l2, l3] st M Q = wp F_Law_law 740 [.ref x, l1, l2, l3] (.ref x :: st) M Q) ∧
  (∀ (l0 l1 l2 : Value) (x : Int32) (st : List Value) (M : Mm) (Q : Option Value → Mm → Prop), wp F_Law_law 740 [l0, l1, l2, .int x] st M Q = wp F_Law_law 741 [l0, l1, l2, .int x] (.int x :: st) M Q) ∧
  (∀ (l0 l1 l2 l3 : Value) (st : List Value) (M : Mm) (Q : Option Value → Mm → Prop), wp F_Law_law 741 [l0, l1, l2, l3] st M Q = wp F_Law_law 742 [l0, l1, l2, l3] (.int 1 :: st) M Q) ∧
  (∀ (l0 l1 l2 l3 : Value) (x y : Int32) (st : List Value) (M : Mm) (Q : Option Value → Mm → Prop), wp F_Law_law 742 [l0, l1, l2, l3] (.int y :: .int x :: st) M Q = wp F_Law_law 743 [l0, l1, l2, l3] (.int (x + y) :: st) M Q) ∧
  (∀ (l0 l1 l2 l3 : Value) (a : Nat) (j : Int32) (st : List Value) (M : Mm) (Q : Option Value → Mm → Prop), wp F_Law_law 743 [l0, l1, l2, l3] (.int j :: .ref a :: st) M Q = (ixI M a j ∧ wp F_Law_law 744 [l0, l1, l2, l3] (.int (gI M a (cl j)) :: st) M Q)) ∧
  (∀ (l1 l2 l3 : Value) (x : Nat) (st : List Value) (M : Mm) (Q : Option Value → Mm → Prop), wp F_Law_law 744 [.ref x, l1, l2, l3] st M Q = wp F_Law_law 745 [.ref x, l1, l2, l3] (.ref x :: st) M Q) ∧
  (∀ (l0 l1 l2 : Value) (x : Int32) (st : List Value) (M : Mm) (Q : Option Value → Mm → Prop), wp F_Law_law 745 [l0, l1, l2, .int x] st M Q = wp F_Law_law 746 [l0, l1, l2, .int x] (.int x :: st) M Q) ∧
  (∀ (l0 l1 l2 l3 : Value) (st : List Value) (M : Mm) (Q : Option Value → Mm → Prop), wp F_Law_law 746 [l0, l1, l2, l3] st M Q = wp F_Law_law 747 [l0, l1, l2, l3] (.int 2 :: st) M Q) ∧
  (∀ (l0 l1 l2 l3 : Value) (x y : Int32) (st : List Value) (M : Mm) (Q : Option Value → Mm → Prop), wp F_Law_law 747 [l0, l1, l2, l3] (.int y :: .int x :: st) M Q = wp F_Law_law 748 [l0, l1, l2, l3] (.int (x + y) :: st) M Q) ∧
  (∀ (l0 l1 l2 l3 : Value) (a : Nat) (j : Int32) (st : List Value) (M : Mm) (Q : Option Value → Mm → Prop), wp F_Law_law 748 [l0, l1, l2, l3] (.int j :: .ref a :: st) M Q = (ixI M a j ∧ wp F_Law_law 749 [l0, l1, l2, l3] (.int (gI M a (cl j)) :: st) M Q)) ∧
  (∀ (l0 l1 l2 l3 : Value) (b : Nat) (p0 : Int32) (p1 : Int32) (r0 : Value) (M : Mm) (Q : Option Value → Mm → Prop), wp F_Law_law 749 [l0, l1, l2, l3] [.int p1, .int p0, .ref b, r0] M Q = (sh M b = some (.inl 12) ∧ wp F_Md_element 0 [.ref b, .int p0, .int p1, jk] [] M (fun r M1 => wp F_Law_law 752 [l0, l1, l2, l3] (r.toList ++ [r0]) M1 Q))) ∧
  (∀ (l0 l1 l2 l3 : Value) (x y : Int32) (st : List Value) (M : Mm) (Q : Option Value → Mm → Prop), wp F_Law_law 752 [l0, l1, l2, l3] (.int y :: .int x :: st) M Q = if x = y then wp F_Law_law 882 [l0, l1, l2, l3] st M Q else wp F_Law_law 755 [l0, l1, l2, l3] st M Q) ∧
  (∀ (l0 l1 l2 l3 : Value) (st : List Value) (M : Mm) (Q : Option Value → Mm → Prop), wp F_Law_law 755 [l0, l1, l2, l3] st M Q = wp F_Law_law 756 [l0, l1, l2, l3] (.int 0 :: st) M Q) ∧
  (∀ (l0 l1 l2 l3 : Value) (v : Int32) (M : Mm) (Q : Option Value → Mm → Prop), wp F_Law_law 756 [l0, l1, l2, l3] [.int v] M Q = ((v = 0 ∨ v = 1) ∧ Q (some (.int v)) M)) := ⟨fun _ _ _ _ _ _ _ => wp_in d_Law_law_724 rfl rfl, fun _ _ _ _ _ _ => wp_in d_Law_law_724 rfl rfl, fun _ _ _ _ _ _ _ => wp_in d_Law_law_725 rfl rfl, fun _ _ _ _ _ _ _ => wp_in d_Law_law_726 rfl rfl, fun _ _ _ _ _ _ _ => wp_iconst d_Law_law_727 (by decide), fun _ _ _ _ _ _ _ _ _ => wp_in d_Law_law_728 rfl rfl, fun _ _ _ _ _ _ _ _ _ => wp_iald d_Law_law_729, fun _ _ _ _ _ _ _ => wp_in d_Law_law_730 rfl rfl, fun _ _ _ _ _ _ _ => wp_in d_Law_law_731 rfl rfl, fun _ _ _ _ _ _ _ => wp_iconst d_Law_law_732 (by decide), fun _ _ _ _ _ _ _ _ _ => wp_in d_Law_law_733 rfl rfl, fun _ _ _ _ _ _ _ _ _ => wp_iald d_Law_law_734, fun _ _ _ _ _ _ _ _ _ => wp_callV d_Law_law_735 ml_13_102 rfl rfl rfl, fun _ _ _ _ _ _ _ => wp_in d_Law_law_738 rfl rfl, fun _ _ _ _ _ _ => wp_in d_Law_law_738 rfl rfl, fun _ _ _ _ _ _ _ => wp_in d_Law_law_739 rfl rfl, fun _ _ _ _ _ _ _ => wp_in d_Law_law_740 rfl rfl, fun _ _ _ _ _ _ _ => wp_iconst d_Law_law_741 (by decide), fun _ _ _ _ _ _ _ _ _ => wp_in d_Law_law_742 rfl rfl, fun _ _ _ _ _ _ _ _ _ => wp_iald d_Law_law_743, fun _ _ _ _ _ _ _ => wp_in d_Law_law_744 rfl rfl, fun _ _ _ _ _ _ _ => wp_in d_Law_law_745 rfl rfl, fun _ _ _ _ _ _ _ => wp_iconst d_Law_law_746 (by decide), fun _ _ _ _ _ _ _ _ _ => wp_in d_Law_law_747 rfl rfl, fun _ _ _ _ _ _ _ _ _ => wp_iald d_Law_law_748, fun _ _ _ _ _ _ _ _ _ _ => wp_callV d_Law_law_749 ml_13_105 rfl rfl rfl, fun _ _ _ _ _ _ _ _ _ => wp_icmp_eq d_Law_law_752 rfl, fun _ _ _ _ _ _ _ => wp_iconst d_Law_law_755 (by decide), fun _ _ _ _ _ _ _ => wp_retZ d_Law_law_756 rfl⟩
theorem B_Law_law_757 : (∀ (l0 l2 l3 : Value) (x : Nat) (st : List Value) (M : Mm) (Q : Option Value → Mm → Prop), wp F_Law_law 757 [l0, .ref x, l2, l3] st M Q = wp F_Law_law 758 [l0, .ref x, l2, l3] (.ref x :: st) M Q) ∧
  (∀ (l0 l2 l3 : Value) (st : List Value) (M : Mm) (Q : Option Value → Mm → Prop), wp F_Law_law 757 [l0, .null, l2, l3] st M Q = wp F_Law_law 758 [l0, .null, l2, l3] (.null :: st) M Q) ∧
  (∀ (l1 l2 l3 : Value) (x : Nat) (st : List Value) (M : Mm) (Q : Option Value → Mm → Prop), wp F_Law_law 758 [.ref x, l1, l2, l3] st M Q = wp F_Law_law 759 [.ref x, l1, l2, l3] (.ref x :: st) M Q) ∧
  (∀ (l0 l1 l2 : Value) (x : Int32) (st : List Value) (M : Mm) (Q : Option Value → Mm → Prop), wp F_Law_law 759 [l0, l1, l2, .int x] st M Q = wp F_Law_law 760 [l0, l1, l2, .int x] (.int x :: st) M Q) ∧
  (∀ (l0 l1 l2 l3 : Value) (st : List Value) (M : Mm) (Q : Option Value → Mm → Prop), wp F_Law_law 760 [l0, l1, l2, l3] st M Q = wp F_Law_law 761 [l0, l1, l2, l3] (.int 1 :: st) M Q) ∧
  (∀ (l0 l1 l2 l3 : Value) (x y : Int32) (st : List Value) (M : Mm) (Q : Option Value → Mm → Prop), wp F_Law_law 761 [l0, l1, l2, l3] (.int y :: .int x :: st) M Q = wp F_Law_law 762 [l0, l1, l2, l3] (.int (x + y) :: st) M Q) ∧
  (∀ (l0 l1 l2 l3 : Value) (a : Nat) (j : Int32) (st : List Value) (M : Mm) (Q : Option Value → Mm → Prop), wp F_Law_law 762 [l0, l1, l2, l3] (.int j :: .ref a :: st) M Q = (ixI M a j ∧ wp F_Law_law 763 [l0, l1, l2, l3] (.int (gI M a (cl j)) :: st) M Q)) ∧
  (∀ (l0 l1 l2 l3 : Value) (b : Nat) (p0 : Int32) (M : Mm) (Q : Option Value → Mm → Prop), wp F_Law_law 763 [l0, l1, l2, l3] [.int p0, .ref b] M Q = (sh M b = some (.inl 11) ∧ wp F_Mr_number 0 [.ref b, .int p0] [] M (fun r M1 => wp F_Law_law 766 [l0, l1, l2, l3] (r.toList ++ []) M1 Q))) ∧
  (∀ (l0 l1 l3 : Value) (x : Nat) (st : List Value) (M : Mm) (Q : Option Value → Mm → Prop), wp F_Law_law 766 [l0, l1, .ref x, l3] st M Q = wp F_Law_law 767 [l0, l1, .ref x, l3] (.ref x :: st) M Q) ∧
  (∀ (l0 l1 l3 : Value) (st : List Value) (M : Mm) (Q : Option Value → Mm → Prop), wp F_Law_law 766 [l0, l1, .null, l3] st M Q = wp F_Law_law 767 [l0, l1, .null, l3] (.null :: st) M Q) ∧
  (∀ (l1 l2 l3 : Value) (x : Nat) (st : List Value) (M : Mm) (Q : Option Value → Mm → Prop), wp F_Law_law 767 [.ref x, l1, l2, l3] st M Q = wp F_Law_law 768 [.ref x, l1, l2, l3] (.ref x :: st) M Q) ∧
  (∀ (l0 l1 l2 : Value) (x : Int32) (st : List Value) (M : Mm) (Q : Option Value → Mm → Prop), wp F_Law_law 768 [l0, l1, l2, .int x] st M Q = wp F_Law_law 769 [l0, l1, l2, .int x] (.int x :: st) M Q) ∧
  (∀ (l0 l1 l2 l3 : Value) (st : List Value) (M : Mm) (Q : Option Value → Mm → Prop), wp F_Law_law 769 [l0, l1, l2, l3] st M Q = wp F_Law_law 770 [l0, l1, l2, l3] (.int 1 :: st) M Q) ∧
  (∀ (l0 l1 l2 l3 : Value) (x y : Int32) (st : List Value) (M : Mm) (Q : Option Value → Mm → Prop), wp F_Law_law 770 [l0, l1, l2, l3] (.int y :: .int x :: st) M Q = wp F_Law_law 771 [l0, l1, l2, l3] (.int (x + y) :: st) M Q) ∧
  (∀ (l0 l1 l2 l3 : Value) (a : Nat) (j : Int32) (st : List Value) (M : Mm) (Q : Option Value → Mm → Prop), wp F_Law_law 771 [l0, l1, l2, l3] (.int j :: .ref a :: st) M Q = (ixI M a j ∧ wp F_Law_law 772 [l0, l1, l2, l3] (.int (gI M a (cl j)) :: st) M Q)) ∧
  (∀ (l0 l1 l2 l3 : Value) (b : Nat) (p0 : Int32) (r0 : Value) (M : Mm) (Q : Option Value → Mm → Prop), wp F_Law_law 772 [l0, l1, l2, l3] [.int p0, .ref b, r0] M Q = (sh M b = some (.inl 12) ∧ wp F_Md_number 0 [.ref b, .int p0] [] M (fun r M1 => wp F_Law_law 775 [l0, l1, l2, l3] (r.toList ++ [r0]) M1 Q))) ∧
  (∀ (l0 l1 l2 l3 : Value) (x y : Int32) (st : List Value) (M : Mm) (Q : Option Value → Mm → Prop), wp F_Law_law 775 [l0, l1, l2, l3] (.int y :: .int x :: st) M Q = if x = y then wp F_Law_law 882 [l0, l1, l2, l3] st M Q else wp F_Law_law 778 [l0, l1, l2, l3] st M Q) ∧
  (∀ (l0 l1 l2 l3 : Value) (st : List Value) (M : Mm) (Q : Option Value → Mm → Prop), wp F_Law_law 778 [l0, l1, l2, l3] st M Q = wp F_Law_law 779 [l0, l1, l2, l3] (.int 0 :: st) M Q) ∧
  (∀ (l0 l1 l2 l3 : Value) (v : Int32) (M : Mm) (Q : Option Value → Mm → Prop), wp F_Law_law 779 [l0, l1, l2, l3] [.int v] M Q = ((v = 0 ∨ v = 1) ∧ Q (some (.int v)) M)) := ⟨fun _ _ _ _ _ _ _ => wp_in d_Law_law_757 rfl rfl, fun _ _ _ _ _ _ => wp_in d_Law_law_757 rfl rfl, fun _ _ _ _ _ _ _ => wp_in d_Law_law_758 rfl rfl, fun _ _ _ _ _ _ _ => wp_in d_Law_law_759 rfl rfl, fun _ _ _ _ _ _ _ => wp_iconst d_Law_law_760 (by decide), fun _ _ _ _ _ _ _ _ _ => wp_in d_Law_law_761 rfl rfl, fun _ _ _ _ _ _ _ _ _ => wp_iald d_Law_law_762, fun _ _ _ _ _ _ _ _ => wp_callV d_Law_law_763 ml_13_106 rfl rfl rfl, fun _ _ _ _ _ _ _ => wp_in d_Law_law_766 rfl rfl, fun _ _ _ _ _ _ => wp_in d_Law_law_766 rfl rfl, fun _ _ _ _ _ _ _ => wp_in d_Law_law_767 rfl rfl, fun _ _ _ _ _ _ _ => wp_in d_Law_law_768 rfl rfl, fun _ _ _ _ _ _ _ => wp_iconst d_Law_law_769 (by decide), fun _ _ _ _ _ _ _ _ _ => wp_in d_Law_law_770 rfl rfl, fun _ _ _ _ _ _ _ _ _ => wp_iald d_Law_law_771, fun _ _ _ _ _ _ _ _ _ => wp_callV d_Law_law_772 ml_13_109 rfl rfl rfl, fun _ _ _ _ _ _ _ _ _ => wp_icmp_eq d_Law_law_775 rfl, fun _ _ _ _ _ _ _ => wp_iconst d_Law_law_778 (by decide), fun _ _ _ _ _ _ _ => wp_retZ d_Law_law_779 rfl⟩
theorem B_Law_law_780 : (∀ (l0 l2 l3 : Value) (x : Nat) (st : List Value) (M : Mm) (Q : Option Value → Mm → Prop), wp F_Law_law 780 [l0, .ref x, l2, l3] st M Q = wp F_Law_law 781 [l0, .ref x, l2, l3] (.ref x :: st) M Q) ∧
  (∀ (l0 l2 l3 : Value) (st : List Value) (M : Mm) (Q : Option Value → Mm → Prop), wp F_Law_law 780 [l0, .null, l2, l3] st M Q = wp F_Law_law 781 [l0, .null, l2, l3] (.null :: st) M Q) ∧
  (∀ (l1 l2 l3 : Value) (x : Nat) (st : List Value) (M : Mm) (Q : Option Value → Mm → Prop), wp F_Law_law 781 [.ref x, l1, l2, l3] st M Q = wp F_Law_law 782 [.ref x, l1, l2, l3] (.ref x :: st) M Q) ∧
  (∀ (l0 l1 l2 : Value) (x : Int32) (st : List Value) (M : Mm) (Q : Option Value → Mm → Prop), wp F_Law_law 782 [l0, l1, l2, .int x] st M Q = wp F_Law_law 783 [l0, l1, l2, .int x] (.int x :: st) M Q) ∧
  (∀ (l0 l1 l2 l3 : Value) (st : List Value) (M : Mm) (Q : Option Value → Mm → Prop), wp F_Law_law 783 [l0, l1, l2, l3] st M Q = wp F_Law_law 784 [l0, l1, l2, l3] (.int 1 :: st) M Q) ∧
  (∀ (l0 l1 l2 l3 : Value) (x y : Int32) (st : List Value) (M : Mm) (Q : Option Value → Mm → Prop), wp F_Law_law 784 [l0, l1, l2, l3] (.int y :: .int x :: st) M Q = wp F_Law_law 785 [l0, l1, l2, l3] (.int (x + y) :: st) M Q) ∧
  (∀ (l0 l1 l2 l3 : Value) (a : Nat) (j : Int32) (st : List Value) (M : Mm) (Q : Option Value → Mm → Prop), wp F_Law_law 785 [l0, l1, l2, l3] (.int j :: .ref a :: st) M Q = (ixI M a j ∧ wp F_Law_law 786 [l0, l1, l2, l3] (.int (gI M a (cl j)) :: st) M Q)) ∧
  (∀ (l1 l2 l3 : Value) (x : Nat) (st : List Value) (M : Mm) (Q : Option Value → Mm → Prop), wp F_Law_law 786 [.ref x, l1, l2, l3] st M Q = wp F_Law_law 787 [.ref x, l1, l2, l3] (.ref x :: st) M Q) ∧
  (∀ (l0 l1 l2 : Value) (x : Int32) (st : List Value) (M : Mm) (Q : Option Value → Mm → Prop), wp F_Law_law 787 [l0, l1, l2, .int x] st M Q = wp F_Law_law 788 [l0, l1, l2, .int x] (.int x :: st) M Q) ∧
  (∀ (l0 l1 l2 l3 : Value) (st : List Value) (M : Mm) (Q : Option Value → Mm → Prop), wp F_Law_law 788 [l0, l1, l2, l3] st M Q = wp F_Law_law 789 [l0, l1, l2, l3] (.int 2 :: st) M Q) ∧
  (∀ (l0 l1 l2 l3 : Value) (x y : Int32) (st : List Value) (M : Mm) (Q : Option Value → Mm → Prop), wp F_Law_law 789 [l0, l1, l2, l3] (.int y :: .int x :: st) M Q = wp F_Law_law 790 [l0, l1, l2, l3] (.int (x + y) :: st) M Q) ∧
  (∀ (l0 l1 l2 l3 : Value) (a : Nat) (j : Int32) (st : List Value) (M : Mm) (Q : Option Value → Mm → Prop), wp F_Law_law 790 [l0, l1, l2, l3] (.int j :: .ref a :: st) M Q = (ixI M a j ∧ wp F_Law_law 791 [l0, l1, l2, l3] (.int (gI M a (cl j)) :: st) M Q)) ∧
  (∀ (l0 l1 l2 l3 : Value) (b : Nat) (p0 : Int32) (p1 : Int32) (M : Mm) (Q : Option Value → Mm → Prop), wp F_Law_law 791 [l0, l1, l2, l3] [.int p1, .int p0, .ref b] M Q = (sh M b = some (.inl 11) ∧ wp F_Mr_product 0 [.ref b, .int p0, .int p1, jk, jk] [] M (fun r M1 => wp F_Law_law 794 [l0, l1, l2, l3] (r.toList ++ []) M1 Q))) ∧
  (∀ (l0 l1 l3 : Value) (x : Nat) (st : List Value) (M : Mm) (Q : Option Value → Mm → Prop), wp F_Law_law 794 [l0, l1, .ref x, l3] st M Q = wp F_Law_law 795 [l0, l1, .ref x, l3] (.ref x :: st) M Q) ∧
  (∀ (l0 l1 l3 : Value) (st : List Value) (M : Mm) (Q : Option Value → Mm → Prop), wp F_Law_law 794 [l0, l1, .null, l3] st M Q = wp F_Law_law 795 [l0, l1, .null, l3] (.null :: st) M Q) ∧
  (∀ (l1 l2 l3 : Value) (x : Nat) (st : List Value) (M : Mm) (Q : Option Value → Mm → Prop), wp F_Law_law 795 [.ref x, l1, l2, l3] st M Q = wp F_Law_law 796 [.ref x, l1, l2, l3] (.ref x :: st) M Q) ∧
  (∀ (l0 l1 l2 : Value) (x : Int32) (st : List Value) (M : Mm) (Q : Option Value → Mm → Prop), wp F_Law_law 796 [l0, l1, l2, .int x] st M Q = wp F_Law_law 797 [l0, l1, l2, .int x] (.int x :: st) M Q) ∧
  (∀ (l0 l1 l2 l3 : Value) (st : List Value) (M : Mm) (Q : Option Value → Mm → Prop), wp F_Law_law 797 [l0, l1, l2, l3] st M Q = wp F_Law_law 798 [l0, l1, l2, l3] (.int 1 :: st) M Q) ∧
  (∀ (l0 l1 l2 l3 : Value) (x y : Int32) (st : List Value) (M : Mm) (Q : Option Value → Mm → Prop), wp F_Law_law 798 [l0, l1, l2, l3] (.int y :: .int x :: st) M Q = wp F_Law_law 799 [l0, l1, l2, l3] (.int (x + y) :: st) M Q) ∧
  (∀ (l0 l1 l2 l3 : Value) (a : Nat) (j : Int32) (st : List Value) (M : Mm) (Q : Option Value → Mm → Prop), wp F_Law_law 799 [l0, l1, l2, l3] (.int j :: .ref a :: st) M Q = (ixI M a j ∧ wp F_Law_law 800 [l0, l1, l2, l3] (.int (gI M a (cl j)) :: st) M Q)) ∧
  (∀ (l1 l2 l3 : Value) (x : Nat) (st : List Value) (M : Mm) (Q : Option Value → Mm → Prop), wp F_Law_law 800 [.ref x, l1, l2, l3] st M Q = wp F_Law_law 801 [.ref x, l1, l2, l3] (.ref x :: st) M Q) ∧
  (∀ (l0 l1 l2 : Value) (x : Int32) (st : List Value) (M : Mm) (Q : Option Value → Mm → Prop), wp F_Law_law 801 [l0, l1, l2, .int x] st M Q = wp F_Law_law 802 [l0, l1, l2, .int x] (.int x :: st) M Q) ∧
  (∀ (l0 l1 l2 l3 : Value) (st : List Value) (M : Mm) (Q : Option Value → Mm → Prop), wp F_Law_law 802 [l0, l1, l2, l3] st M Q = wp F_Law_law 803 [l0, l1, l2, l3] (.int 2 :: st) M Q) ∧
  (∀ (l0 l1 l2 l3 : Value) (x y : Int32) (st : List Value) (M : Mm) (Q : Option Value → Mm → Prop), wp F_Law_law 803 [l0, l1, l2, l3] (.int y :: .int x :: st) M Q = wp F_Law_law 804 [l0, l1, l2, l3] (.int (x + y) :: st) M Q) ∧
  (∀ (l0 l1 l2 l3 : Value) (a : Nat) (j : Int32) (st : List Value) (M : Mm) (Q : Option Value → Mm → Prop), wp F_Law_law 804 [l0, l1, l2, l3] (.int j :: .ref a :: st) M Q = (ixI M a j ∧ wp F_Law_law 805 [l0, l1, l2, l3] (.int (gI M a (cl j)) :: st) M Q)) ∧
  (∀ (l0 l1 l2 l3 : Value) (b : Nat) (p0 : Int32) (p1 : Int32) (r0 : Value) (M : Mm) (Q : Option Value → Mm → Prop), wp F_Law_law 805 [l0, l1, l2, l3] [.int p1, .int p0, .ref b, r0] M Q = (sh M b = some (.inl 12) ∧ wp F_Md_product 0 [.ref b, .int p0, .int p1] [] M (fun r M1 => wp F_Law_law 808 [l0, l1, l2, l3] (r.toList ++ [r0]) M1 Q))) ∧
  (∀ (l0 l1 l2 l3 : Value) (x y : Int32) (st : List Value) (M : Mm) (Q : Option Value → Mm → Prop), wp F_Law_law 808 [l0, l1, l2, l3] (.int y :: .int x :: st) M Q = if x = y then wp F_Law_law 882 [l0, l1, l2, l3] st M Q else wp F_Law_law 811 [l0, l1, l2, l3] st M Q) ∧
  (∀ (l0 l1 l2 l3 : Value) (st : List Value) (M : Mm) (Q : Option Value → Mm → Prop), wp F_Law_law 811 [l0, l1, l2, l3] st M Q = wp F_Law_law 812 [l0, l1, l2, l3] (.int 0 :: st) M Q) ∧
  (∀ (l0 l1 l2 l3 : Value) (v : Int32) (M : Mm) (Q : Option Value → Mm → Prop), wp F_Law_law 812 [l0, l1, l2, l3] [.int v] M Q = ((v = 0 ∨ v = 1) ∧ Q (some (.int v)) M)) := ⟨fun _ _ _ _ _ _ _ => wp_in d_Law_law_780 rfl rfl, fun _ _ _ _ _ _ => wp_in d_Law_law_780 rfl rfl, fun _ _ _ _ _ _ _ => wp_in d_Law_law_781 rfl rfl, fun _ _ _ _ _ _ _ => wp_in d_Law_law_782 rfl rfl, fun _ _ _ _ _ _ _ => wp_iconst d_Law_law_783 (by decide), fun _ _ _ _ _ _ _ _ _ => wp_in d_Law_law_784 rfl rfl, fun _ _ _ _ _ _ _ _ _ => wp_iald d_Law_law_785, fun _ _ _ _ _ _ _ => wp_in d_Law_law_786 rfl rfl, fun _ _ _ _ _ _ _ => wp_in d_Law_law_787 rfl rfl, fun _ _ _ _ _ _ _ => wp_iconst d_Law_law_788 (by decide), fun _ _ _ _ _ _ _ _ _ => wp_in d_Law_law_789 rfl rfl, fun _ _ _ _ _ _ _ _ _ => wp_iald d_Law_law_790, fun _ _ _ _ _ _ _ _ _ => wp_callV d_Law_law_791 ml_13_110 rfl rfl rfl, fun _ _ _ _ _ _ _ => wp_in d_Law_law_794 rfl rfl, fun _ _ _ _ _ _ => wp_in d_Law_law_794 rfl rfl, fun _ _ _ _ _ _ _ => wp_in d_Law_law_795 rfl rfl, fun _ _ _ _ _ _ _ => wp_in d_Law_law_796 rfl rfl, fun _ _ _ _ _ _ _ => wp_iconst d_Law_law_797 (by decide), fun _ _ _ _ _ _ _ _ _ => wp_in d_Law_law_798 rfl rfl, fun _ _ _ _ _ _ _ _ _ => wp_iald d_Law_law_799, fun _ _ _ _ _ _ _ => wp_in d_Law_law_800 rfl rfl, fun _ _ _ _ _ _ _ => wp_in d_Law_law_801 rfl rfl, fun _ _ _ _ _ _ _ => wp_iconst d_Law_law_802 (by decide), fun _ _ _ _ _ _ _ _ _ => wp_in d_Law_law_803 rfl rfl, fun _ _ _ _ _ _ _ _ _ => wp_iald d_Law_law_804, fun _ _ _ _ _ _ _ _ _ _ => wp_callV d_Law_law_805 ml_13_113 rfl rfl rfl, fun _ _ _ _ _ _ _ _ _ => wp_icmp_eq d_Law_law_808 rfl, fun _ _ _ _ _ _ _ => wp_iconst d_Law_law_811 (by decide), fun _ _ _ _ _ _ _ => wp_retZ d_Law_law_812 rfl⟩
theorem B_Law_law_813 : (∀ (l0 l2 l3 : Value) (x : Nat) (st : List Value) (M : Mm) (Q : Option Value → Mm → Prop), wp F_Law_law 813 [l0, .ref x, l2, l3] st M Q = wp F_Law_law 814 [l0, .ref x, l2, l3] (.ref x :: st) M Q) ∧
  (∀ (l0 l2 l3 : Value) (st : List Value) (M : Mm) (Q : Option Value → Mm → Prop), wp F_Law_law 813 [l0, .null, l2, l3] st M Q = wp F_Law_law 814 [l0, .null, l2, l3] (.null :: st) M Q) ∧
  (∀ (l1 l2 l3 : Value) (x : Nat) (st : List Value) (M : Mm) (Q : Option Value → Mm → Prop), wp F_Law_law 814 [.ref x, l1, l2, l3] st M Q = wp F_Law_law 815 [.ref x, l1, l2, l3] (.ref x :: st) M Q) ∧
  (∀ (l0 l1 l2 : Value) (x : Int32) (st : List Value) (M : Mm) (Q : Option Value → Mm → Prop), wp F_Law_law 815 [l0, l1, l2, .int x] st M Q = wp F_Law_law 816 [l0, l1, l2, .int x] (.int x :: st) M Q) ∧
  (∀ (l0 l1 l2 l3 : Value) (st : List Value) (M : Mm) (Q : Option Value → Mm → Prop), wp F_Law_law 816 [l0, l1, l2, l3] st M Q = wp F_Law_law 817 [l0, l1, l2, l3] (.int 1 :: st) M Q) ∧
  (∀ (l0 l1 l2 l3 : Value) (x y : Int32) (st : List Value) (M : Mm) (Q : Option Value → Mm → Prop), wp F_Law_law 817 [l0, l1, l2, l3] (.int y :: .int x :: st) M Q = wp F_Law_law 818 [l0, l1, l2, l3] (.int (x + y) :: st) M Q) ∧
  (∀ (l0 l1 l2 l3 : Value) (a : Nat) (j : Int32) (st : List Value) (M : Mm) (Q : Option Value → Mm → Prop), wp F_Law_law 818 [l0, l1, l2, l3] (.int j :: .ref a :: st) M Q = (ixI M a j ∧ wp F_Law_law 819 [l0, l1, l2, l3] (.int (gI M a (cl j)) :: st) M Q)) ∧
  (∀ (l1 l2 l3 : Value) (x : Nat) (st : List Value) (M : Mm) (Q : Option Value → Mm → Prop), wp F_Law_law 819 [.ref x, l1, l2, l3] st M Q = wp F_Law_law 820 [.ref x, l1, l2, l3] (.ref x :: st) M Q) ∧
  (∀ (l0 l1 l2 : Value) (x : Int32) (st : List Value) (M : Mm) (Q : Option Value → Mm → Prop), wp F_Law_law 820 [l0, l1, l2, .int x] st M Q = wp F_Law_law 821 [l0, l1, l2, .int x] (.int x :: st) M Q) ∧
  (∀ (l0 l1 l2 l3 : Value) (st : List Value) (M : Mm) (Q : Option Value → Mm → Prop), wp F_Law_law 821 [l0, l1, l2, l3] st M Q = wp F_Law_law 822 [l0, l1, l2, l3] (.int 2 :: st) M Q) ∧
  (∀ (l0 l1 l2 l3 : Value) (x y : Int32) (st : List Value) (M : Mm) (Q : Option Value → Mm → Prop), wp F_Law_law 822 [l0, l1, l2, l3] (.int y :: .int x :: st) M Q = wp F_Law_law 823 [l0, l1, l2, l3] (.int (x + y) :: st) M Q) ∧
  (∀ (l0 l1 l2 l3 : Value) (a : Nat) (j : Int32) (st : List Value) (M : Mm) (Q : Option Value → Mm → Prop), wp F_Law_law 823 [l0, l1, l2, l3] (.int j :: .ref a :: st) M Q = (ixI M a j ∧ wp F_Law_law 824 [l0, l1, l2, l3] (.int (gI M a (cl j)) :: st) M Q)) ∧
  (∀ (l0 l1 l2 l3 : Value) (b : Nat) (p0 : Int32) (p1 : Int32) (M : Mm) (Q : Option Value → Mm → Prop), wp F_Law_law 824 [l0, l1, l2, l3] [.int p1, .int p0, .ref b] M Q = (sh M b = some (.inl 11) ∧ wp F_Mr_power 0 [.ref b, .int p0, .int p1, jk, jk, jk] [] M (fun r M1 => wp F_Law_law 827 [l0, l1, l2, l3] (r.toList ++ []) M1 Q))) ∧
  (∀ (l0 l1 l3 : Value) (x : Nat) (st : List Value) (M : Mm) (Q : Option Value → Mm → Prop), wp F_Law_law 827 [l0, l1, .ref x, l3] st M Q = wp F_Law_law 828 [l0, l1, .ref x, l3] (.ref x :: st) M Q) ∧
  (∀ (l0 l1 l3 : Value) (st : List Value) (M : Mm) (Q : Option Value → Mm → Prop), wp F_Law_law 827 [l0, l1, .null, l3] st M Q = wp F_Law_law 828 [l0, l1, .null, l3] (.null :: st) M Q) ∧
  (∀ (l1 l2 l3 : Value) (x : Nat) (st : List Value) (M : Mm) (Q : Option Value → Mm → Prop), wp F_Law_law 828 [.ref x, l1, l2, l3] st M Q = wp F_Law_law 829 [.ref x, l1, l2, l3] (.ref x :: st) M Q) ∧
  (∀ (l0 l1 l2 : Value) (x : Int32) (st : List Value) (M : Mm) (Q : Option Value → Mm → Prop), wp F_Law_law 829 [l0, l1, l2, .int x] st M Q = wp F_Law_law 830 [l0, l1, l2, .int x] (.int x :: st) M Q) ∧
  (∀ (l0 l1 l2 l3 : Value) (st : List Value) (M : Mm) (Q : Option Value → Mm → Prop), wp F_Law_law 830 [l0, l1, l2, l3] st M Q = wp F_Law_law 831 [l0, l1, l2, l3] (.int 1 :: st) M Q) ∧
  (∀ (l0 l1 l2 l3 : Value) (x y : Int32) (st : List Value) (M : Mm) (Q : Option Value → Mm → Prop), wp F_Law_law 831 [l0, l1, l2, l3] (.int y :: .int x :: st) M Q = wp F_Law_law 832 [l0, l1, l2, l3] (.int (x + y) :: st) M Q) ∧
  (∀ (l0 l1 l2 l3 : Value) (a : Nat) (j : Int32) (st : List Value) (M : Mm) (Q : Option Value → Mm → Prop), wp F_Law_law 832 [l0, l1, l2, l3] (.int j :: .ref a :: st) M Q = (ixI M a j ∧ wp F_Law_law 833 [l0, l1, l2, l3] (.int (gI M a (cl j)) :: st) M Q)) ∧
  (∀ (l1 l2 l3 : Value) (x : Nat) (st : List Value) (M : Mm) (Q : Option Value → Mm → Prop), wp F_Law_law 833 [.ref x, l1, l2, l3] st M Q = wp F_Law_law 834 [.ref x, l1, l2, l3] (.ref x :: st) M Q) ∧
  (∀ (l0 l1 l2 : Value) (x : Int32) (st : List Value) (M : Mm) (Q : Option Value → Mm → Prop), wp F_Law_law 834 [l0, l1, l2, .int x] st M Q = wp F_Law_law 835 [l0, l1, l2, .int x] (.int x :: st) M Q) ∧
  (∀ (l0 l1 l2 l3 : Value) (st : List Value) (M : Mm) (Q : Option Value → Mm → Prop), wp F_Law_law 835 [l0, l1, l2, l3] st M Q = wp F_Law_law 836 [l0, l1, l2, l3] (.int 2 :: st) M Q) ∧
  (∀ (l0 l1 l2 l3 : Value) (x y : Int32) (st : List Value) (M : Mm) (Q : Option Value → Mm → Prop), wp F_Law_law 836 [l0, l1, l2, l3] (.int y :: .int x :: st) M Q = wp F_Law_law 837 [l0, l1, l2, l3] (.int (x + y) :: st) M Q) ∧
  (∀ (l0 l1 l2 l3 : Value) (a : Nat) (j : Int32) (st : List Value) (M : Mm) (Q : Option Value → Mm → Prop), wp F_Law_law 837 [l0, l1, l2, l3] (.int j :: .ref a :: st) M Q = (ixI M a j ∧ wp F_Law_law 838 [l0, l1, l2, l3] (.int (gI M a (cl j)) :: st) M Q)) ∧
  (∀ (l0 l1 l2 l3 : Value) (b : Nat) (p0 : Int32) (p1 : Int32) (r0 : Value) (M : Mm) (Q : Option Value → Mm → Prop), wp F_Law_law 838 [l0, l1, l2, l3] [.int p1, .int p0, .ref b, r0] M Q = (sh M b = some (.inl 12) ∧ wp F_Md_power 0 [.ref b, .int p0, .int p1, jk, jk] [] M (fun r M1 => wp F_Law_law 841 [l0, l1, l2, l3] (r.toList ++ [r0]) M1 Q))) ∧
  (∀ (l0 l1 l2 l3 : Value) (x y : Int32) (st : List Value) (M : Mm) (Q : Option Value → Mm → Prop), wp F_Law_law 841 [l0, l1, l2, l3] (.int y :: .int x :: st) M Q = if x = y then wp F_Law_law 882 [l0, l1, l2, l3] st M Q else wp F_Law_law 844 [l0, l1, l2, l3] st M Q) ∧
  (∀ (l0 l1 l2 l3 : Value) (st : List Value) (M : Mm) (Q : Option Value → Mm → Prop), wp F_Law_law 844 [l0, l1, l2, l3] st M Q = wp F_Law_law 845 [l0, l1, l2, l3] (.int 0 :: st) M Q) ∧
  (∀ (l0 l1 l2 l3 : Value) (v : Int32) (M : Mm) (Q : Option Value → Mm → Prop), wp F_Law_law 845 [l0, l1, l2, l3] [.int v] M Q = ((v = 0 ∨ v = 1) ∧ Q (some (.int v)) M)) := ⟨fun _ _ _ _ _ _ _ => wp_in d_Law_law_813 rfl rfl, fun _ _ _ _ _ _ => wp_in d_Law_law_813 rfl rfl, fun _ _ _ _ _ _ _ => wp_in d_Law_law_814 rfl rfl, fun _ _ _ _ _ _ _ => wp_in d_Law_law_815 rfl rfl, fun _ _ _ _ _ _ _ => wp_iconst d_Law_law_816 (by decide), fun _ _ _ _ _ _ _ _ _ => wp_in d_Law_law_817 rfl rfl, fun _ _ _ _ _ _ _ _ _ => wp_iald d_Law_law_818, fun _ _ _ _ _ _ _ => wp_in d_Law_law_819 rfl rfl, fun _ _ _ _ _ _ _ => wp_in d_Law_law_820 rfl rfl, fun _ _ _ _ _ _ _ => wp_iconst d_Law_law_821 (by decide), fun _ _ _ _ _ _ _ _ _ => wp_in d_Law_law_822 rfl rfl, fun _ _ _ _ _ _ _ _ _ => wp_iald d_Law_law_823, fun _ _ _ _ _ _ _ _ _ => wp_callV d_Law_law_824 ml_13_114 rfl rfl rfl, fun _ _ _ _ _ _ _ => wp_in d_Law_law_827 rfl rfl, fun _ _ _ _ _ _ => wp_in d_Law_law_827 rfl rfl, fun _ _ _ _ _ _ _ => wp_in d_Law_law_828 rfl rfl, fun _ _ _ _ _ _ _ => wp_in d_Law_law_829 rfl rfl, fun _ _ _ _ _ _ _ => wp_iconst d_Law_law_830 (by decide), fun _ _ _ _ _ _ _ _ _ => wp_in d_Law_law_831 rfl rfl, fun _ _ _ _ _ _ _ _ _ => wp_iald d_Law_law_832, fun _ _ _ _ _ _ _ => wp_in d_Law_law_833 rfl rfl, fun _ _ _ _ _ _ _ => wp_in d_Law_law_834 rfl rfl, fun _ _ _ _ _ _ _ => wp_iconst d_Law_law_835 (by decide), fun _ _ _ _ _ _ _ _ _ => wp_in d_Law_law_836 rfl rfl, fun _ _ _ _ _ _ _ _ _ => wp_iald d_Law_law_837, fun _ _ _ _ _ _ _ _ _ _ => wp_callV d_Law_law_838 ml_13_117 rfl rfl rfl, fun _ _ _ _ _ _ _ _ _ => wp_icmp_eq d_Law_law_841 rfl, fun _ _ _ _ _ _ _ => wp_iconst d_Law_law_844 (by decide), fun _ _ _ _ _ _ _ => wp_retZ d_Law_law_845 rfl⟩
theorem B_Law_law_846 : (∀ (l0 l2 l3 : Value) (x : Nat) (st : List Value) (M : Mm) (Q : Option Value → Mm → Prop), wp F_Law_law 846 [l0, .ref x, l2, l3] st M Q = wp F_Law_law 847 [l0, .ref x, l2, l3] (.ref x :: st) M Q) ∧
  (∀ (l0 l2 l3 : Value) (st : List Value) (M : Mm) (Q : Option Value → Mm → Prop), wp F_Law_law 846 [l0, .null, l2, l3] st M Q = wp F_Law_law 847 [l0, .null, l2, l3] (.null :: st) M Q) ∧
  (∀ (l1 l2 l3 : Value) (x : Nat) (st : List Value) (M : Mm) (Q : Option Value → Mm → Prop), wp F_Law_law 847 [.ref x, l1, l2, l3] st M Q = wp F_Law_law 848 [.ref x, l1, l2, l3] (.ref x :: st) M Q) ∧
  (∀ (l0 l1 l2 : Value) (x : Int32) (st : List Value) (M : Mm) (Q : Option Value → Mm → Prop), wp F_Law_law 848 [l0, l1, l2, .int x] st M Q = wp F_Law_law 849 [l0, l1, l2, .int x] (.int x :: st) M Q) ∧
  (∀ (l0 l1 l2 l3 : Value) (st : List Value) (M : Mm) (Q : Option Value → Mm → Prop), wp F_Law_law 849 [l0, l1, l2, l3] st M Q = wp F_Law_law 850 [l0, l1, l2, l3] (.int 1 :: st) M Q) ∧
  (∀ (l0 l1 l2 l3 : Value) (x y : Int32) (st : List Value) (M : Mm) (Q : Option Value → Mm → Prop), wp F_Law_law 850 [l0, l1, l2, l3] (.int y :: .int x :: st) M Q = wp F_Law_law 851 [l0, l1, l2, l3] (.int (x + y) :: st) M Q) ∧
  (∀ (l0 l1 l2 l3 : Value) (a : Nat) (j : Int32) (st : List Value) (M : Mm) (Q : Option Value → Mm → Prop), wp F_Law_law 851 [l0, l1, l2, l3] (.int j :: .ref a :: st) M Q = (ixI M a j ∧ wp F_Law_law 852 [l0, l1, l2, l3] (.int (gI M a (cl j)) :: st) M Q)) ∧
  (∀ (l0 l1 l2 l3 : Value) (b : Nat) (p0 : Int32) (M : Mm) (Q : Option Value → Mm → Prop), wp F_Law_law 852 [l0, l1, l2, l3] [.int p0, .ref b] M Q = (sh M b = some (.inl 11) ∧ wp F_Mr_inverse 0 [.ref b, .int p0, jk, jk, jk, jk] [] M (fun r M1 => wp F_Law_law 855 [l0, l1, l2, l3] (r.toList ++ []) M1 Q))) ∧
  (∀ (l0 l1 l3 : Value) (x : Nat) (st : List Value) (M : Mm) (Q : Option Value → Mm → Prop), wp F_Law_law 855 [l0, l1, .ref x, l3] st M Q = wp F_Law_law 856 [l0, l1, .ref x, l3] (.ref x :: st) M Q) ∧
  (∀ (l0 l1 l3 : Value) (st : List Value) (M : Mm) (Q : Option Value → Mm → Prop), wp F_Law_law 855 [l0, l1, .null, l3] st M Q = wp F_Law_law 856 [l0, l1, .null, l3] (.null :: st) M Q) ∧
  (∀ (l1 l2 l3 : Value) (x : Nat) (st : List Value) (M : Mm) (Q : Option Value → Mm → Prop), wp F_Law_law 856 [.ref x, l1, l2, l3] st M Q = wp F_Law_law 857 [.ref x, l1, l2, l3] (.ref x :: st) M Q) ∧
  (∀ (l0 l1 l2 : Value) (x : Int32) (st : List Value) (M : Mm) (Q : Option Value → Mm → Prop), wp F_Law_law 857 [l0, l1, l2, .int x] st M Q = wp F_Law_law 858 [l0, l1, l2, .int x] (.int x :: st) M Q) ∧
  (∀ (l0 l1 l2 l3 : Value) (st : List Value) (M : Mm) (Q : Option Value → Mm → Prop), wp F_Law_law 858 [l0, l1, l2, l3] st M Q = wp F_Law_law 859 [l0, l1, l2, l3] (.int 1 :: st) M Q) ∧
  (∀ (l0 l1 l2 l3 : Value) (x y : Int32) (st : List Value) (M : Mm) (Q : Option Value → Mm → Prop), wp F_Law_law 859 [l0, l1, l2, l3] (.int y :: .int x :: st) M Q = wp F_Law_law 860 [l0, l1, l2, l3] (.int (x + y) :: st) M Q) ∧
  (∀ (l0 l1 l2 l3 : Value) (a : Nat) (j : Int32) (st : List Value) (M : Mm) (Q : Option Value → Mm → Prop), wp F_Law_law 860 [l0, l1, l2, l3] (.int j :: .ref a :: st) M Q = (ixI M a j ∧ wp F_Law_law 861 [l0, l1, l2, l3] (.int (gI M a (cl j)) :: st) M Q)) ∧
  (∀ (l0 l1 l2 l3 : Value) (b : Nat) (p0 : Int32) (r0 : Value) (M : Mm) (Q : Option Value → Mm → Prop), wp F_Law_law 861 [l0, l1, l2, l3] [.int p0, .ref b, r0] M Q = (sh M b = some (.inl 12) ∧ wp F_Md_inverse 0 [.ref b, .int p0, jk, jk] [] M (fun r M1 => wp F_Law_law 864 [l0, l1, l2, l3] (r.toList ++ [r0]) M1 Q))) ∧
  (∀ (l0 l1 l2 l3 : Value) (x y : Int32) (st : List Value) (M : Mm) (Q : Option Value → Mm → Prop), wp F_Law_law 864 [l0, l1, l2, l3] (.int y :: .int x :: st) M Q = if x = y then wp F_Law_law 882 [l0, l1, l2, l3] st M Q else wp F_Law_law 867 [l0, l1, l2, l3] st M Q) ∧
  (∀ (l0 l1 l2 l3 : Value) (st : List Value) (M : Mm) (Q : Option Value → Mm → Prop), wp F_Law_law 867 [l0, l1, l2, l3] st M Q = wp F_Law_law 868 [l0, l1, l2, l3] (.int 0 :: st) M Q) ∧
  (∀ (l0 l1 l2 l3 : Value) (v : Int32) (M : Mm) (Q : Option Value → Mm → Prop), wp F_Law_law 868 [l0, l1, l2, l3] [.int v] M Q = ((v = 0 ∨ v = 1) ∧ Q (some (.int v)) M)) := ⟨fun _ _ _ _ _ _ _ => wp_in d_Law_law_846 rfl rfl, fun _ _ _ _ _ _ => wp_in d_Law_law_846 rfl rfl, fun _ _ _ _ _ _ _ => wp_in d_Law_law_847 rfl rfl, fun _ _ _ _ _ _ _ => wp_in d_Law_law_848 rfl rfl, fun _ _ _ _ _ _ _ => wp_iconst d_Law_law_849 (by decide), fun _ _ _ _ _ _ _ _ _ => wp_in d_Law_law_850 rfl rfl, fun _ _ _ _ _ _ _ _ _ => wp_iald d_Law_law_851, fun _ _ _ _ _ _ _ _ => wp_callV d_Law_law_852 ml_13_118 rfl rfl rfl, fun _ _ _ _ _ _ _ => wp_in d_Law_law_855 rfl rfl, fun _ _ _ _ _ _ => wp_in d_Law_law_855 rfl rfl, fun _ _ _ _ _ _ _ => wp_in d_Law_law_856 rfl rfl, fun _ _ _ _ _ _ _ => wp_in d_Law_law_857 rfl rfl, fun _ _ _ _ _ _ _ => wp_iconst d_Law_law_858 (by decide), fun _ _ _ _ _ _ _ _ _ => wp_in d_Law_law_859 rfl rfl, fun _ _ _ _ _ _ _ _ _ => wp_iald d_Law_law_860, fun _ _ _ _ _ _ _ _ _ => wp_callV d_Law_law_861 ml_13_121 rfl rfl rfl, fun _ _ _ _ _ _ _ _ _ => wp_icmp_eq d_Law_law_864 rfl, fun _ _ _ _ _ _ _ => wp_iconst d_Law_law_867 (by decide), fun _ _ _ _ _ _ _ => wp_retZ d_Law_law_868 rfl⟩
theorem B_Law_law_869 : (∀ (l0 l2 l3 : Value) (x : Nat) (st : List Value) (M : Mm) (Q : Option Value → Mm → Prop), wp F_Law_law 869 [l0, .ref x, l2, l3] st M Q = wp F_Law_law 870 [l0, .ref x, l2, l3] (.ref x :: st) M Q) ∧
  (∀ (l0 l2 l3 : Value) (st : List Value) (M : Mm) (Q : Option Value → Mm → Prop), wp F_Law_law 869 [l0, .null, l2, l3] st M Q = wp F_Law_law 870 [l0, .null, l2, l3] (.null :: st) M Q) ∧
  (∀ (l0 l1 l2 l3 : Value) (b : Nat) (M : Mm) (Q : Option Value → Mm → Prop), wp F_Law_law 870 [l0, l1, l2, l3] [.ref b] M Q = (sh M b = some (.inl 11) ∧ wp F_Mr_commutes 0 [.ref b, jk, jk] [] M (fun r M1 => wp F_Law_law 873 [l0, l1, l2, l3] (r.toList ++ []) M1 Q))) ∧
  (∀ (l0 l1 l3 : Value) (x : Nat) (st : List Value) (M : Mm) (Q : Option Value → Mm → Prop), wp F_Law_law 873 [l0, l1, .ref x, l3] st M Q = wp F_Law_law 874 [l0, l1, .ref x, l3] (.ref x :: st) M Q) ∧
  (∀ (l0 l1 l3 : Value) (st : List Value) (M : Mm) (Q : Option Value → Mm → Prop), wp F_Law_law 873 [l0, l1, .null, l3] st M Q = wp F_Law_law 874 [l0, l1, .null, l3] (.null :: st) M Q) ∧
  (∀ (l0 l1 l2 l3 : Value) (b : Nat) (r0 : Value) (M : Mm) (Q : Option Value → Mm → Prop), wp F_Law_law 874 [l0, l1, l2, l3] [.ref b, r0] M Q = (sh M b = some (.inl 12) ∧ wp F_Md_commutes 0 [.ref b, jk, jk, jk, jk] [] M (fun r M1 => wp F_Law_law 877 [l0, l1, l2, l3] (r.toList ++ [r0]) M1 Q))) ∧
  (∀ (l0 l1 l2 l3 : Value) (x y : Int32) (st : List Value) (M : Mm) (Q : Option Value → Mm → Prop), wp F_Law_law 877 [l0, l1, l2, l3] (.int y :: .int x :: st) M Q = if x = y then wp F_Law_law 882 [l0, l1, l2, l3] st M Q else wp F_Law_law 880 [l0, l1, l2, l3] st M Q) ∧
  (∀ (l0 l1 l2 l3 : Value) (st : List Value) (M : Mm) (Q : Option Value → Mm → Prop), wp F_Law_law 880 [l0, l1, l2, l3] st M Q = wp F_Law_law 881 [l0, l1, l2, l3] (.int 0 :: st) M Q) ∧
  (∀ (l0 l1 l2 l3 : Value) (v : Int32) (M : Mm) (Q : Option Value → Mm → Prop), wp F_Law_law 881 [l0, l1, l2, l3] [.int v] M Q = ((v = 0 ∨ v = 1) ∧ Q (some (.int v)) M)) := ⟨fun _ _ _ _ _ _ _ => wp_in d_Law_law_869 rfl rfl, fun _ _ _ _ _ _ => wp_in d_Law_law_869 rfl rfl, fun _ _ _ _ _ _ _ => wp_callV d_Law_law_870 ml_13_122 rfl rfl rfl, fun _ _ _ _ _ _ _ => wp_in d_Law_law_873 rfl rfl, fun _ _ _ _ _ _ => wp_in d_Law_law_873 rfl rfl, fun _ _ _ _ _ _ _ _ => wp_callV d_Law_law_874 ml_13_125 rfl rfl rfl, fun _ _ _ _ _ _ _ _ _ => wp_icmp_eq d_Law_law_877 rfl, fun _ _ _ _ _ _ _ => wp_iconst d_Law_law_880 (by decide), fun _ _ _ _ _ _ _ => wp_retZ d_Law_law_881 rfl⟩
theorem B_Law_law_882 : (∀ (l0 l1 l2 : Value) (x : Int32) (st : List Value) (M : Mm) (Q : Option Value → Mm → Prop), wp F_Law_law 882 [l0, l1, l2, .int x] st M Q = wp F_Law_law 885 [l0, l1, clr l2, .int (x + 4)] st M Q) := fun _ _ _ _ _ _ _ => wp_iinc d_Law_law_882 (by decide) rfl rfl
theorem B_Law_law_888 : (∀ (l0 l1 l2 l3 : Value) (st : List Value) (M : Mm) (Q : Option Value → Mm → Prop), wp F_Law_law 888 [l0, l1, l2, l3] st M Q = wp F_Law_law 889 [l0, l1, l2, l3] (.int 1 :: st) M Q) ∧
  (∀ (l0 l1 l2 l3 : Value) (v : Int32) (M : Mm) (Q : Option Value → Mm → Prop), wp F_Law_law 889 [l0, l1, l2, l3] [.int v] M Q = ((v = 0 ∨ v = 1) ∧ Q (some (.int v)) M)) := ⟨fun _ _ _ _ _ _ _ => wp_iconst d_Law_law_888 (by decide), fun _ _ _ _ _ _ _ => wp_retZ d_Law_law_889 rfl⟩
theorem sw_Law_law_32 (l0 l1 l2 l3 : Value) (st : List Value) (M : Mm) (Q : Option Value → Mm → Prop) (x : Int32) (h : x.toInt < 0 ∨ 25 < x.toInt) : wp F_Law_law 32 [l0, l1, l2, l3] (.int x :: st) M Q = wp F_Law_law 882 [l0, l1, l2, l3] st M Q := wp_swO d_Law_law_32 rfl h
theorem G_Law_law_885 (l0 l1 l2 l3 : Value) (st : List Value) (M : Mm) (Q : Option Value → Mm → Prop) : wp F_Law_law 885 [l0, l1, l2, l3] st M Q = wp F_Law_law 18 [l0, l1, l2, l3] st M Q := wp_goto d_Law_law_885 rfl

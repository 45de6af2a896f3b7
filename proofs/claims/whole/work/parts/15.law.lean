theorem d_Lw_law_16 : decode m_Lw_law.2.1 16 = .ok (.iconst 0, 1) := by decide +kernel
theorem d_Lw_law_17 : decode m_Lw_law.2.1 17 = .ok (.istore_n 3, 1) := by decide +kernel
theorem d_Lw_law_18 : decode m_Lw_law.2.1 18 = .ok (.iload_n 3, 1) := by decide +kernel
theorem d_Lw_law_19 : decode m_Lw_law.2.1 19 = .ok (.aload_n 0, 1) := by decide +kernel
theorem d_Lw_law_20 : decode m_Lw_law.2.1 20 = .ok (.arraylength, 1) := by decide +kernel
theorem d_Lw_law_21 : decode m_Lw_law.2.1 21 = .ok (.bipush 7, 2) := by decide +kernel
theorem d_Lw_law_23 : decode m_Lw_law.2.1 23 = .ok (.isub, 1) := by decide +kernel
theorem d_Lw_law_24 : decode m_Lw_law.2.1 24 = .ok (.if_icmp .gt 1066, 3) := by decide +kernel
theorem d_Lw_law_27 : decode m_Lw_law.2.1 27 = .ok (.aload_n 0, 1) := by decide +kernel
theorem d_Lw_law_28 : decode m_Lw_law.2.1 28 = .ok (.iload_n 3, 1) := by decide +kernel
theorem d_Lw_law_29 : decode m_Lw_law.2.1 29 = .ok (.iaload, 1) := by decide +kernel
theorem d_Lw_law_30 : decode m_Lw_law.2.1 30 = .ok (.bipush 31, 2) := by decide +kernel
theorem d_Lw_law_32 : decode m_Lw_law.2.1 32 = .ok (.iand, 1) := by decide +kernel
theorem d_Lw_law_33 : decode m_Lw_law.2.1 33 = .ok (.tableswitch 1051 0 25 #[119, 182, 195, 208, 221, 254, 287, 310, 333, 356, 369, 422, 465, 508, 551, 564, 587, 610, 673, 716, 791, 844, 908, 972, 1005, 1028], 119) := by decide +kernel
theorem d_Lw_law_152 : decode m_Lw_law.2.1 152 = .ok (.aload_n 1, 1) := by decide +kernel
theorem d_Lw_law_153 : decode m_Lw_law.2.1 153 = .ok (.aload_n 0, 1) := by decide +kernel
theorem d_Lw_law_154 : decode m_Lw_law.2.1 154 = .ok (.iload_n 3, 1) := by decide +kernel
theorem d_Lw_law_155 : decode m_Lw_law.2.1 155 = .ok (.iconst 1, 1) := by decide +kernel
theorem d_Lw_law_156 : decode m_Lw_law.2.1 156 = .ok (.iadd, 1) := by decide +kernel
theorem d_Lw_law_157 : decode m_Lw_law.2.1 157 = .ok (.iaload, 1) := by decide +kernel
theorem d_Lw_law_158 : decode m_Lw_law.2.1 158 = .ok (.i2l, 1) := by decide +kernel
theorem d_Lw_law_159 : decode m_Lw_law.2.1 159 = .ok (.bipush 32, 2) := by decide +kernel
theorem d_Lw_law_161 : decode m_Lw_law.2.1 161 = .ok (.lshl, 1) := by decide +kernel
theorem d_Lw_law_162 : decode m_Lw_law.2.1 162 = .ok (.aload_n 0, 1) := by decide +kernel
theorem d_Lw_law_163 : decode m_Lw_law.2.1 163 = .ok (.iload_n 3, 1) := by decide +kernel
theorem d_Lw_law_164 : decode m_Lw_law.2.1 164 = .ok (.iconst 2, 1) := by decide +kernel
theorem d_Lw_law_165 : decode m_Lw_law.2.1 165 = .ok (.iadd, 1) := by decide +kernel
theorem d_Lw_law_166 : decode m_Lw_law.2.1 166 = .ok (.iaload, 1) := by decide +kernel
theorem d_Lw_law_167 : decode m_Lw_law.2.1 167 = .ok (.i2l, 1) := by decide +kernel
theorem d_Lw_law_168 : decode m_Lw_law.2.1 168 = .ok (.ldc2_w 13, 3) := by decide +kernel
theorem d_Lw_law_171 : decode m_Lw_law.2.1 171 = .ok (.land, 1) := by decide +kernel
theorem d_Lw_law_172 : decode m_Lw_law.2.1 172 = .ok (.lor, 1) := by decide +kernel
theorem d_Lw_law_173 : decode m_Lw_law.2.1 173 = .ok (.aload_n 0, 1) := by decide +kernel
theorem d_Lw_law_174 : decode m_Lw_law.2.1 174 = .ok (.iload_n 3, 1) := by decide +kernel
theorem d_Lw_law_175 : decode m_Lw_law.2.1 175 = .ok (.iconst 3, 1) := by decide +kernel
theorem d_Lw_law_176 : decode m_Lw_law.2.1 176 = .ok (.iadd, 1) := by decide +kernel
theorem d_Lw_law_177 : decode m_Lw_law.2.1 177 = .ok (.iaload, 1) := by decide +kernel
theorem d_Lw_law_178 : decode m_Lw_law.2.1 178 = .ok (.invokevirtual 15, 3) := by decide +kernel
theorem d_Lw_law_181 : decode m_Lw_law.2.1 181 = .ok (.aload_n 2, 1) := by decide +kernel
theorem d_Lw_law_182 : decode m_Lw_law.2.1 182 = .ok (.aload_n 0, 1) := by decide +kernel
theorem d_Lw_law_183 : decode m_Lw_law.2.1 183 = .ok (.iload_n 3, 1) := by decide +kernel
theorem d_Lw_law_184 : decode m_Lw_law.2.1 184 = .ok (.iconst 1, 1) := by decide +kernel
theorem d_Lw_law_185 : decode m_Lw_law.2.1 185 = .ok (.iadd, 1) := by decide +kernel
theorem d_Lw_law_186 : decode m_Lw_law.2.1 186 = .ok (.iaload, 1) := by decide +kernel
theorem d_Lw_law_187 : decode m_Lw_law.2.1 187 = .ok (.i2l, 1) := by decide +kernel
theorem d_Lw_law_188 : decode m_Lw_law.2.1 188 = .ok (.bipush 32, 2) := by decide +kernel
theorem d_Lw_law_190 : decode m_Lw_law.2.1 190 = .ok (.lshl, 1) := by decide +kernel
theorem d_Lw_law_191 : decode m_Lw_law.2.1 191 = .ok (.aload_n 0, 1) := by decide +kernel
theorem d_Lw_law_192 : decode m_Lw_law.2.1 192 = .ok (.iload_n 3, 1) := by decide +kernel
theorem d_Lw_law_193 : decode m_Lw_law.2.1 193 = .ok (.iconst 2, 1) := by decide +kernel
theorem d_Lw_law_194 : decode m_Lw_law.2.1 194 = .ok (.iadd, 1) := by decide +kernel
theorem d_Lw_law_195 : decode m_Lw_law.2.1 195 = .ok (.iaload, 1) := by decide +kernel
theorem d_Lw_law_196 : decode m_Lw_law.2.1 196 = .ok (.i2l, 1) := by decide +kernel
theorem d_Lw_law_197 : decode m_Lw_law.2.1 197 = .ok (.ldc2_w 13, 3) := by decide +kernel
theorem d_Lw_law_200 : decode m_Lw_law.2.1 200 = .ok (.land, 1) := by decide +kernel
theorem d_Lw_law_201 : decode m_Lw_law.2.1 201 = .ok (.lor, 1) := by decide +kernel
theorem d_Lw_law_202 : decode m_Lw_law.2.1 202 = .ok (.aload_n 0, 1) := by decide +kernel
theorem d_Lw_law_203 : decode m_Lw_law.2.1 203 = .ok (.iload_n 3, 1) := by decide +kernel
theorem d_Lw_law_204 : decode m_Lw_law.2.1 204 = .ok (.iconst 3, 1) := by decide +kernel
theorem d_Lw_law_205 : decode m_Lw_law.2.1 205 = .ok (.iadd, 1) := by decide +kernel
theorem d_Lw_law_206 : decode m_Lw_law.2.1 206 = .ok (.iaload, 1) := by decide +kernel
theorem d_Lw_law_207 : decode m_Lw_law.2.1 207 = .ok (.invokevirtual 19, 3) := by decide +kernel
theorem d_Lw_law_210 : decode m_Lw_law.2.1 210 = .ok (.if_icmp .eq 874, 3) := by decide +kernel
theorem d_Lw_law_213 : decode m_Lw_law.2.1 213 = .ok (.iconst 0, 1) := by decide +kernel
theorem d_Lw_law_214 : decode m_Lw_law.2.1 214 = .ok (.ireturn, 1) := by decide +kernel
theorem d_Lw_law_215 : decode m_Lw_law.2.1 215 = .ok (.aload_n 1, 1) := by decide +kernel
theorem d_Lw_law_216 : decode m_Lw_law.2.1 216 = .ok (.invokevirtual 20, 3) := by decide +kernel
theorem d_Lw_law_219 : decode m_Lw_law.2.1 219 = .ok (.aload_n 2, 1) := by decide +kernel
theorem d_Lw_law_220 : decode m_Lw_law.2.1 220 = .ok (.invokevirtual 24, 3) := by decide +kernel
theorem d_Lw_law_223 : decode m_Lw_law.2.1 223 = .ok (.if_icmp .eq 861, 3) := by decide +kernel
theorem d_Lw_law_226 : decode m_Lw_law.2.1 226 = .ok (.iconst 0, 1) := by decide +kernel
theorem d_Lw_law_227 : decode m_Lw_law.2.1 227 = .ok (.ireturn, 1) := by decide +kernel
theorem d_Lw_law_228 : decode m_Lw_law.2.1 228 = .ok (.aload_n 1, 1) := by decide +kernel
theorem d_Lw_law_229 : decode m_Lw_law.2.1 229 = .ok (.invokevirtual 25, 3) := by decide +kernel
theorem d_Lw_law_232 : decode m_Lw_law.2.1 232 = .ok (.aload_n 2, 1) := by decide +kernel
theorem d_Lw_law_233 : decode m_Lw_law.2.1 233 = .ok (.invokevirtual 28, 3) := by decide +kernel
theorem d_Lw_law_236 : decode m_Lw_law.2.1 236 = .ok (.if_icmp .eq 848, 3) := by decide +kernel
theorem d_Lw_law_239 : decode m_Lw_law.2.1 239 = .ok (.iconst 0, 1) := by decide +kernel
theorem d_Lw_law_240 : decode m_Lw_law.2.1 240 = .ok (.ireturn, 1) := by decide +kernel
theorem d_Lw_law_241 : decode m_Lw_law.2.1 241 = .ok (.aload_n 1, 1) := by decide +kernel
theorem d_Lw_law_242 : decode m_Lw_law.2.1 242 = .ok (.invokevirtual 29, 3) := by decide +kernel
theorem d_Lw_law_245 : decode m_Lw_law.2.1 245 = .ok (.aload_n 2, 1) := by decide +kernel
theorem d_Lw_law_246 : decode m_Lw_law.2.1 246 = .ok (.invokevirtual 32, 3) := by decide +kernel
theorem d_Lw_law_249 : decode m_Lw_law.2.1 249 = .ok (.if_icmp .eq 835, 3) := by decide +kernel
theorem d_Lw_law_252 : decode m_Lw_law.2.1 252 = .ok (.iconst 0, 1) := by decide +kernel
theorem d_Lw_law_253 : decode m_Lw_law.2.1 253 = .ok (.ireturn, 1) := by decide +kernel
theorem d_Lw_law_254 : decode m_Lw_law.2.1 254 = .ok (.aload_n 1, 1) := by decide +kernel
theorem d_Lw_law_255 : decode m_Lw_law.2.1 255 = .ok (.aload_n 0, 1) := by decide +kernel
theorem d_Lw_law_256 : decode m_Lw_law.2.1 256 = .ok (.iload_n 3, 1) := by decide +kernel
theorem d_Lw_law_257 : decode m_Lw_law.2.1 257 = .ok (.iconst 1, 1) := by decide +kernel
theorem d_Lw_law_258 : decode m_Lw_law.2.1 258 = .ok (.iadd, 1) := by decide +kernel
theorem d_Lw_law_259 : decode m_Lw_law.2.1 259 = .ok (.iaload, 1) := by decide +kernel
theorem d_Lw_law_260 : decode m_Lw_law.2.1 260 = .ok (.aload_n 0, 1) := by decide +kernel
theorem d_Lw_law_261 : decode m_Lw_law.2.1 261 = .ok (.iload_n 3, 1) := by decide +kernel
theorem d_Lw_law_262 : decode m_Lw_law.2.1 262 = .ok (.iconst 2, 1) := by decide +kernel
theorem d_Lw_law_263 : decode m_Lw_law.2.1 263 = .ok (.iadd, 1) := by decide +kernel
theorem d_Lw_law_264 : decode m_Lw_law.2.1 264 = .ok (.iaload, 1) := by decide +kernel
theorem d_Lw_law_265 : decode m_Lw_law.2.1 265 = .ok (.invokevirtual 33, 3) := by decide +kernel
theorem d_Lw_law_268 : decode m_Lw_law.2.1 268 = .ok (.aload_n 2, 1) := by decide +kernel
theorem d_Lw_law_269 : decode m_Lw_law.2.1 269 = .ok (.aload_n 0, 1) := by decide +kernel
theorem d_Lw_law_270 : decode m_Lw_law.2.1 270 = .ok (.iload_n 3, 1) := by decide +kernel
theorem d_Lw_law_271 : decode m_Lw_law.2.1 271 = .ok (.iconst 1, 1) := by decide +kernel
theorem d_Lw_law_272 : decode m_Lw_law.2.1 272 = .ok (.iadd, 1) := by decide +kernel
theorem d_Lw_law_273 : decode m_Lw_law.2.1 273 = .ok (.iaload, 1) := by decide +kernel
theorem d_Lw_law_274 : decode m_Lw_law.2.1 274 = .ok (.aload_n 0, 1) := by decide +kernel
theorem d_Lw_law_275 : decode m_Lw_law.2.1 275 = .ok (.iload_n 3, 1) := by decide +kernel
theorem d_Lw_law_276 : decode m_Lw_law.2.1 276 = .ok (.iconst 2, 1) := by decide +kernel
theorem d_Lw_law_277 : decode m_Lw_law.2.1 277 = .ok (.iadd, 1) := by decide +kernel
theorem d_Lw_law_278 : decode m_Lw_law.2.1 278 = .ok (.iaload, 1) := by decide +kernel
theorem d_Lw_law_279 : decode m_Lw_law.2.1 279 = .ok (.invokevirtual 37, 3) := by decide +kernel
theorem d_Lw_law_282 : decode m_Lw_law.2.1 282 = .ok (.if_icmp .eq 802, 3) := by decide +kernel
theorem d_Lw_law_285 : decode m_Lw_law.2.1 285 = .ok (.iconst 0, 1) := by decide +kernel
theorem d_Lw_law_286 : decode m_Lw_law.2.1 286 = .ok (.ireturn, 1) := by decide +kernel
theorem d_Lw_law_287 : decode m_Lw_law.2.1 287 = .ok (.aload_n 1, 1) := by decide +kernel
theorem d_Lw_law_288 : decode m_Lw_law.2.1 288 = .ok (.aload_n 0, 1) := by decide +kernel
theorem d_Lw_law_289 : decode m_Lw_law.2.1 289 = .ok (.iload_n 3, 1) := by decide +kernel
theorem d_Lw_law_290 : decode m_Lw_law.2.1 290 = .ok (.iconst 1, 1) := by decide +kernel
theorem d_Lw_law_291 : decode m_Lw_law.2.1 291 = .ok (.iadd, 1) := by decide +kernel
theorem d_Lw_law_292 : decode m_Lw_law.2.1 292 = .ok (.iaload, 1) := by decide +kernel
theorem d_Lw_law_293 : decode m_Lw_law.2.1 293 = .ok (.aload_n 0, 1) := by decide +kernel
theorem d_Lw_law_294 : decode m_Lw_law.2.1 294 = .ok (.iload_n 3, 1) := by decide +kernel
theorem d_Lw_law_295 : decode m_Lw_law.2.1 295 = .ok (.iconst 2, 1) := by decide +kernel
theorem d_Lw_law_296 : decode m_Lw_law.2.1 296 = .ok (.iadd, 1) := by decide +kernel
theorem d_Lw_law_297 : decode m_Lw_law.2.1 297 = .ok (.iaload, 1) := by decide +kernel
theorem d_Lw_law_298 : decode m_Lw_law.2.1 298 = .ok (.invokevirtual 38, 3) := by decide +kernel
theorem d_Lw_law_301 : decode m_Lw_law.2.1 301 = .ok (.aload_n 2, 1) := by decide +kernel
theorem d_Lw_law_302 : decode m_Lw_law.2.1 302 = .ok (.aload_n 0, 1) := by decide +kernel
theorem d_Lw_law_303 : decode m_Lw_law.2.1 303 = .ok (.iload_n 3, 1) := by decide +kernel
theorem d_Lw_law_304 : decode m_Lw_law.2.1 304 = .ok (.iconst 1, 1) := by decide +kernel
theorem d_Lw_law_305 : decode m_Lw_law.2.1 305 = .ok (.iadd, 1) := by decide +kernel
theorem d_Lw_law_306 : decode m_Lw_law.2.1 306 = .ok (.iaload, 1) := by decide +kernel
theorem d_Lw_law_307 : decode m_Lw_law.2.1 307 = .ok (.aload_n 0, 1) := by decide +kernel
theorem d_Lw_law_308 : decode m_Lw_law.2.1 308 = .ok (.iload_n 3, 1) := by decide +kernel
theorem d_Lw_law_309 : decode m_Lw_law.2.1 309 = .ok (.iconst 2, 1) := by decide +kernel
theorem d_Lw_law_310 : decode m_Lw_law.2.1 310 = .ok (.iadd, 1) := by decide +kernel
theorem d_Lw_law_311 : decode m_Lw_law.2.1 311 = .ok (.iaload, 1) := by decide +kernel
theorem d_Lw_law_312 : decode m_Lw_law.2.1 312 = .ok (.invokevirtual 41, 3) := by decide +kernel
theorem d_Lw_law_315 : decode m_Lw_law.2.1 315 = .ok (.if_icmp .eq 769, 3) := by decide +kernel
theorem d_Lw_law_318 : decode m_Lw_law.2.1 318 = .ok (.iconst 0, 1) := by decide +kernel
theorem d_Lw_law_319 : decode m_Lw_law.2.1 319 = .ok (.ireturn, 1) := by decide +kernel
theorem d_Lw_law_320 : decode m_Lw_law.2.1 320 = .ok (.aload_n 1, 1) := by decide +kernel
theorem d_Lw_law_321 : decode m_Lw_law.2.1 321 = .ok (.aload_n 0, 1) := by decide +kernel
theorem d_Lw_law_322 : decode m_Lw_law.2.1 322 = .ok (.iload_n 3, 1) := by decide +kernel
theorem d_Lw_law_323 : decode m_Lw_law.2.1 323 = .ok (.iconst 1, 1) := by decide +kernel
theorem d_Lw_law_324 : decode m_Lw_law.2.1 324 = .ok (.iadd, 1) := by decide +kernel
theorem d_Lw_law_325 : decode m_Lw_law.2.1 325 = .ok (.iaload, 1) := by decide +kernel
theorem d_Lw_law_326 : decode m_Lw_law.2.1 326 = .ok (.invokevirtual 42, 3) := by decide +kernel
theorem d_Lw_law_329 : decode m_Lw_law.2.1 329 = .ok (.aload_n 2, 1) := by decide +kernel
theorem d_Lw_law_330 : decode m_Lw_law.2.1 330 = .ok (.aload_n 0, 1) := by decide +kernel
theorem d_Lw_law_331 : decode m_Lw_law.2.1 331 = .ok (.iload_n 3, 1) := by decide +kernel
theorem d_Lw_law_332 : decode m_Lw_law.2.1 332 = .ok (.iconst 1, 1) := by decide +kernel
theorem d_Lw_law_333 : decode m_Lw_law.2.1 333 = .ok (.iadd, 1) := by decide +kernel
theorem d_Lw_law_334 : decode m_Lw_law.2.1 334 = .ok (.iaload, 1) := by decide +kernel
theorem d_Lw_law_335 : decode m_Lw_law.2.1 335 = .ok (.invokevirtual 46, 3) := by decide +kernel
theorem d_Lw_law_338 : decode m_Lw_law.2.1 338 = .ok (.if_icmp .eq 746, 3) := by decide +kernel
theorem d_Lw_law_341 : decode m_Lw_law.2.1 341 = .ok (.iconst 0, 1) := by decide +kernel
theorem d_Lw_law_342 : decode m_Lw_law.2.1 342 = .ok (.ireturn, 1) := by decide +kernel
theorem d_Lw_law_343 : decode m_Lw_law.2.1 343 = .ok (.aload_n 1, 1) := by decide +kernel
theorem d_Lw_law_344 : decode m_Lw_law.2.1 344 = .ok (.aload_n 0, 1) := by decide +kernel
theorem d_Lw_law_345 : decode m_Lw_law.2.1 345 = .ok (.iload_n 3, 1) := by decide +kernel
theorem d_Lw_law_346 : decode m_Lw_law.2.1 346 = .ok (.iconst 1, 1) := by decide +kernel
theorem d_Lw_law_347 : decode m_Lw_law.2.1 347 = .ok (.iadd, 1) := by decide +kernel
theorem d_Lw_law_348 : decode m_Lw_law.2.1 348 = .ok (.iaload, 1) := by decide +kernel
theorem d_Lw_law_349 : decode m_Lw_law.2.1 349 = .ok (.invokevirtual 47, 3) := by decide +kernel
theorem d_Lw_law_352 : decode m_Lw_law.2.1 352 = .ok (.aload_n 2, 1) := by decide +kernel
theorem d_Lw_law_353 : decode m_Lw_law.2.1 353 = .ok (.aload_n 0, 1) := by decide +kernel
theorem d_Lw_law_354 : decode m_Lw_law.2.1 354 = .ok (.iload_n 3, 1) := by decide +kernel
theorem d_Lw_law_355 : decode m_Lw_law.2.1 355 = .ok (.iconst 1, 1) := by decide +kernel
theorem d_Lw_law_356 : decode m_Lw_law.2.1 356 = .ok (.iadd, 1) := by decide +kernel
theorem d_Lw_law_357 : decode m_Lw_law.2.1 357 = .ok (.iaload, 1) := by decide +kernel
theorem d_Lw_law_358 : decode m_Lw_law.2.1 358 = .ok (.invokevirtual 50, 3) := by decide +kernel
theorem d_Lw_law_361 : decode m_Lw_law.2.1 361 = .ok (.if_icmp .eq 723, 3) := by decide +kernel
theorem d_Lw_law_364 : decode m_Lw_law.2.1 364 = .ok (.iconst 0, 1) := by decide +kernel
theorem d_Lw_law_365 : decode m_Lw_law.2.1 365 = .ok (.ireturn, 1) := by decide +kernel
theorem d_Lw_law_366 : decode m_Lw_law.2.1 366 = .ok (.aload_n 1, 1) := by decide +kernel
theorem d_Lw_law_367 : decode m_Lw_law.2.1 367 = .ok (.aload_n 0, 1) := by decide +kernel
theorem d_Lw_law_368 : decode m_Lw_law.2.1 368 = .ok (.iload_n 3, 1) := by decide +kernel
theorem d_Lw_law_369 : decode m_Lw_law.2.1 369 = .ok (.iconst 1, 1) := by decide +kernel
theorem d_Lw_law_370 : decode m_Lw_law.2.1 370 = .ok (.iadd, 1) := by decide +kernel
theorem d_Lw_law_371 : decode m_Lw_law.2.1 371 = .ok (.iaload, 1) := by decide +kernel
theorem d_Lw_law_372 : decode m_Lw_law.2.1 372 = .ok (.invokevirtual 51, 3) := by decide +kernel
theorem d_Lw_law_375 : decode m_Lw_law.2.1 375 = .ok (.aload_n 2, 1) := by decide +kernel
theorem d_Lw_law_376 : decode m_Lw_law.2.1 376 = .ok (.aload_n 0, 1) := by decide +kernel
theorem d_Lw_law_377 : decode m_Lw_law.2.1 377 = .ok (.iload_n 3, 1) := by decide +kernel
theorem d_Lw_law_378 : decode m_Lw_law.2.1 378 = .ok (.iconst 1, 1) := by decide +kernel
theorem d_Lw_law_379 : decode m_Lw_law.2.1 379 = .ok (.iadd, 1) := by decide +kernel
theorem d_Lw_law_380 : decode m_Lw_law.2.1 380 = .ok (.iaload, 1) := by decide +kernel
theorem d_Lw_law_381 : decode m_Lw_law.2.1 381 = .ok (.invokevirtual 54, 3) := by decide +kernel
theorem d_Lw_law_384 : decode m_Lw_law.2.1 384 = .ok (.if_icmp .eq 700, 3) := by decide +kernel
theorem d_Lw_law_387 : decode m_Lw_law.2.1 387 = .ok (.iconst 0, 1) := by decide +kernel
theorem d_Lw_law_388 : decode m_Lw_law.2.1 388 = .ok (.ireturn, 1) := by decide +kernel
theorem d_Lw_law_389 : decode m_Lw_law.2.1 389 = .ok (.aload_n 1, 1) := by decide +kernel
theorem d_Lw_law_390 : decode m_Lw_law.2.1 390 = .ok (.invokevirtual 55, 3) := by decide +kernel
theorem d_Lw_law_393 : decode m_Lw_law.2.1 393 = .ok (.aload_n 2, 1) := by decide +kernel
theorem d_Lw_law_394 : decode m_Lw_law.2.1 394 = .ok (.invokevirtual 58, 3) := by decide +kernel
theorem d_Lw_law_397 : decode m_Lw_law.2.1 397 = .ok (.if_icmp .eq 687, 3) := by decide +kernel
theorem d_Lw_law_400 : decode m_Lw_law.2.1 400 = .ok (.iconst 0, 1) := by decide +kernel
theorem d_Lw_law_401 : decode m_Lw_law.2.1 401 = .ok (.ireturn, 1) := by decide +kernel
theorem d_Lw_law_402 : decode m_Lw_law.2.1 402 = .ok (.aload_n 1, 1) := by decide +kernel
theorem d_Lw_law_403 : decode m_Lw_law.2.1 403 = .ok (.aload_n 0, 1) := by decide +kernel
theorem d_Lw_law_404 : decode m_Lw_law.2.1 404 = .ok (.iload_n 3, 1) := by decide +kernel
theorem d_Lw_law_405 : decode m_Lw_law.2.1 405 = .ok (.iconst 1, 1) := by decide +kernel
theorem d_Lw_law_406 : decode m_Lw_law.2.1 406 = .ok (.iadd, 1) := by decide +kernel
theorem d_Lw_law_407 : decode m_Lw_law.2.1 407 = .ok (.iaload, 1) := by decide +kernel
theorem d_Lw_law_408 : decode m_Lw_law.2.1 408 = .ok (.aload_n 0, 1) := by decide +kernel
theorem d_Lw_law_409 : decode m_Lw_law.2.1 409 = .ok (.iload_n 3, 1) := by decide +kernel
theorem d_Lw_law_410 : decode m_Lw_law.2.1 410 = .ok (.iconst 2, 1) := by decide +kernel
theorem d_Lw_law_411 : decode m_Lw_law.2.1 411 = .ok (.iadd, 1) := by decide +kernel
theorem d_Lw_law_412 : decode m_Lw_law.2.1 412 = .ok (.iaload, 1) := by decide +kernel
theorem d_Lw_law_413 : decode m_Lw_law.2.1 413 = .ok (.aload_n 0, 1) := by decide +kernel
theorem d_Lw_law_414 : decode m_Lw_law.2.1 414 = .ok (.iload_n 3, 1) := by decide +kernel
theorem d_Lw_law_415 : decode m_Lw_law.2.1 415 = .ok (.iconst 3, 1) := by decide +kernel
theorem d_Lw_law_416 : decode m_Lw_law.2.1 416 = .ok (.iadd, 1) := by decide +kernel
theorem d_Lw_law_417 : decode m_Lw_law.2.1 417 = .ok (.iaload, 1) := by decide +kernel
theorem d_Lw_law_418 : decode m_Lw_law.2.1 418 = .ok (.aload_n 0, 1) := by decide +kernel
theorem d_Lw_law_419 : decode m_Lw_law.2.1 419 = .ok (.iload_n 3, 1) := by decide +kernel
theorem d_Lw_law_420 : decode m_Lw_law.2.1 420 = .ok (.iconst 4, 1) := by decide +kernel
theorem d_Lw_law_421 : decode m_Lw_law.2.1 421 = .ok (.iadd, 1) := by decide +kernel
theorem d_Lw_law_422 : decode m_Lw_law.2.1 422 = .ok (.iaload, 1) := by decide +kernel
theorem d_Lw_law_423 : decode m_Lw_law.2.1 423 = .ok (.invokevirtual 59, 3) := by decide +kernel
theorem d_Lw_law_426 : decode m_Lw_law.2.1 426 = .ok (.aload_n 2, 1) := by decide +kernel
theorem d_Lw_law_427 : decode m_Lw_law.2.1 427 = .ok (.aload_n 0, 1) := by decide +kernel
theorem d_Lw_law_428 : decode m_Lw_law.2.1 428 = .ok (.iload_n 3, 1) := by decide +kernel
theorem d_Lw_law_429 : decode m_Lw_law.2.1 429 = .ok (.iconst 1, 1) := by decide +kernel
theorem d_Lw_law_430 : decode m_Lw_law.2.1 430 = .ok (.iadd, 1) := by decide +kernel
theorem d_Lw_law_431 : decode m_Lw_law.2.1 431 = .ok (.iaload, 1) := by decide +kernel
theorem d_Lw_law_432 : decode m_Lw_law.2.1 432 = .ok (.aload_n 0, 1) := by decide +kernel
theorem d_Lw_law_433 : decode m_Lw_law.2.1 433 = .ok (.iload_n 3, 1) := by decide +kernel
theorem d_Lw_law_434 : decode m_Lw_law.2.1 434 = .ok (.iconst 2, 1) := by decide +kernel
theorem d_Lw_law_435 : decode m_Lw_law.2.1 435 = .ok (.iadd, 1) := by decide +kernel
theorem d_Lw_law_436 : decode m_Lw_law.2.1 436 = .ok (.iaload, 1) := by decide +kernel
theorem d_Lw_law_437 : decode m_Lw_law.2.1 437 = .ok (.aload_n 0, 1) := by decide +kernel
theorem d_Lw_law_438 : decode m_Lw_law.2.1 438 = .ok (.iload_n 3, 1) := by decide +kernel
theorem d_Lw_law_439 : decode m_Lw_law.2.1 439 = .ok (.iconst 3, 1) := by decide +kernel
theorem d_Lw_law_440 : decode m_Lw_law.2.1 440 = .ok (.iadd, 1) := by decide +kernel
theorem d_Lw_law_441 : decode m_Lw_law.2.1 441 = .ok (.iaload, 1) := by decide +kernel
theorem d_Lw_law_442 : decode m_Lw_law.2.1 442 = .ok (.aload_n 0, 1) := by decide +kernel
theorem d_Lw_law_443 : decode m_Lw_law.2.1 443 = .ok (.iload_n 3, 1) := by decide +kernel
theorem d_Lw_law_444 : decode m_Lw_law.2.1 444 = .ok (.iconst 4, 1) := by decide +kernel
theorem d_Lw_law_445 : decode m_Lw_law.2.1 445 = .ok (.iadd, 1) := by decide +kernel
theorem d_Lw_law_446 : decode m_Lw_law.2.1 446 = .ok (.iaload, 1) := by decide +kernel
theorem d_Lw_law_447 : decode m_Lw_law.2.1 447 = .ok (.invokevirtual 63, 3) := by decide +kernel
theorem d_Lw_law_450 : decode m_Lw_law.2.1 450 = .ok (.if_icmp .eq 634, 3) := by decide +kernel
theorem d_Lw_law_453 : decode m_Lw_law.2.1 453 = .ok (.iconst 0, 1) := by decide +kernel
theorem d_Lw_law_454 : decode m_Lw_law.2.1 454 = .ok (.ireturn, 1) := by decide +kernel
theorem d_Lw_law_455 : decode m_Lw_law.2.1 455 = .ok (.aload_n 1, 1) := by decide +kernel
theorem d_Lw_law_456 : decode m_Lw_law.2.1 456 = .ok (.aload_n 0, 1) := by decide +kernel
theorem d_Lw_law_457 : decode m_Lw_law.2.1 457 = .ok (.iload_n 3, 1) := by decide +kernel
theorem d_Lw_law_458 : decode m_Lw_law.2.1 458 = .ok (.iconst 1, 1) := by decide +kernel
theorem d_Lw_law_459 : decode m_Lw_law.2.1 459 = .ok (.iadd, 1) := by decide +kernel
theorem d_Lw_law_460 : decode m_Lw_law.2.1 460 = .ok (.iaload, 1) := by decide +kernel
theorem d_Lw_law_461 : decode m_Lw_law.2.1 461 = .ok (.aload_n 0, 1) := by decide +kernel
theorem d_Lw_law_462 : decode m_Lw_law.2.1 462 = .ok (.iload_n 3, 1) := by decide +kernel
theorem d_Lw_law_463 : decode m_Lw_law.2.1 463 = .ok (.iconst 2, 1) := by decide +kernel
theorem d_Lw_law_464 : decode m_Lw_law.2.1 464 = .ok (.iadd, 1) := by decide +kernel
theorem d_Lw_law_465 : decode m_Lw_law.2.1 465 = .ok (.iaload, 1) := by decide +kernel
theorem d_Lw_law_466 : decode m_Lw_law.2.1 466 = .ok (.aload_n 0, 1) := by decide +kernel
theorem d_Lw_law_467 : decode m_Lw_law.2.1 467 = .ok (.iload_n 3, 1) := by decide +kernel
theorem d_Lw_law_468 : decode m_Lw_law.2.1 468 = .ok (.iconst 3, 1) := by decide +kernel
theorem d_Lw_law_469 : decode m_Lw_law.2.1 469 = .ok (.iadd, 1) := by decide +kernel
theorem d_Lw_law_470 : decode m_Lw_law.2.1 470 = .ok (.iaload, 1) := by decide +kernel
theorem d_Lw_law_471 : decode m_Lw_law.2.1 471 = .ok (.invokevirtual 64, 3) := by decide +kernel
theorem d_Lw_law_474 : decode m_Lw_law.2.1 474 = .ok (.aload_n 2, 1) := by decide +kernel
theorem d_Lw_law_475 : decode m_Lw_law.2.1 475 = .ok (.aload_n 0, 1) := by decide +kernel
theorem d_Lw_law_476 : decode m_Lw_law.2.1 476 = .ok (.iload_n 3, 1) := by decide +kernel
theorem d_Lw_law_477 : decode m_Lw_law.2.1 477 = .ok (.iconst 1, 1) := by decide +kernel
theorem d_Lw_law_478 : decode m_Lw_law.2.1 478 = .ok (.iadd, 1) := by decide +kernel
theorem d_Lw_law_479 : decode m_Lw_law.2.1 479 = .ok (.iaload, 1) := by decide +kernel
theorem d_Lw_law_480 : decode m_Lw_law.2.1 480 = .ok (.aload_n 0, 1) := by decide +kernel
theorem d_Lw_law_481 : decode m_Lw_law.2.1 481 = .ok (.iload_n 3, 1) := by decide +kernel
theorem d_Lw_law_482 : decode m_Lw_law.2.1 482 = .ok (.iconst 2, 1) := by decide +kernel
theorem d_Lw_law_483 : decode m_Lw_law.2.1 483 = .ok (.iadd, 1) := by decide +kernel
theorem d_Lw_law_484 : decode m_Lw_law.2.1 484 = .ok (.iaload, 1) := by decide +kernel
theorem d_Lw_law_485 : decode m_Lw_law.2.1 485 = .ok (.aload_n 0, 1) := by decide +kernel
theorem d_Lw_law_486 : decode m_Lw_law.2.1 486 = .ok (.iload_n 3, 1) := by decide +kernel
theorem d_Lw_law_487 : decode m_Lw_law.2.1 487 = .ok (.iconst 3, 1) := by decide +kernel
theorem d_Lw_law_488 : decode m_Lw_law.2.1 488 = .ok (.iadd, 1) := by decide +kernel
theorem d_Lw_law_489 : decode m_Lw_law.2.1 489 = .ok (.iaload, 1) := by decide +kernel
theorem d_Lw_law_490 : decode m_Lw_law.2.1 490 = .ok (.invokevirtual 68, 3) := by decide +kernel
theorem d_Lw_law_493 : decode m_Lw_law.2.1 493 = .ok (.if_icmp .eq 591, 3) := by decide +kernel
theorem d_Lw_law_496 : decode m_Lw_law.2.1 496 = .ok (.iconst 0, 1) := by decide +kernel
theorem d_Lw_law_497 : decode m_Lw_law.2.1 497 = .ok (.ireturn, 1) := by decide +kernel
theorem d_Lw_law_498 : decode m_Lw_law.2.1 498 = .ok (.aload_n 1, 1) := by decide +kernel
theorem d_Lw_law_499 : decode m_Lw_law.2.1 499 = .ok (.aload_n 0, 1) := by decide +kernel
theorem d_Lw_law_500 : decode m_Lw_law.2.1 500 = .ok (.iload_n 3, 1) := by decide +kernel
theorem d_Lw_law_501 : decode m_Lw_law.2.1 501 = .ok (.iconst 1, 1) := by decide +kernel
theorem d_Lw_law_502 : decode m_Lw_law.2.1 502 = .ok (.iadd, 1) := by decide +kernel
theorem d_Lw_law_503 : decode m_Lw_law.2.1 503 = .ok (.iaload, 1) := by decide +kernel
theorem d_Lw_law_504 : decode m_Lw_law.2.1 504 = .ok (.aload_n 0, 1) := by decide +kernel
theorem d_Lw_law_505 : decode m_Lw_law.2.1 505 = .ok (.iload_n 3, 1) := by decide +kernel
theorem d_Lw_law_506 : decode m_Lw_law.2.1 506 = .ok (.iconst 2, 1) := by decide +kernel
theorem d_Lw_law_507 : decode m_Lw_law.2.1 507 = .ok (.iadd, 1) := by decide +kernel
theorem d_Lw_law_508 : decode m_Lw_law.2.1 508 = .ok (.iaload, 1) := by decide +kernel
theorem d_Lw_law_509 : decode m_Lw_law.2.1 509 = .ok (.aload_n 0, 1) := by decide +kernel
theorem d_Lw_law_510 : decode m_Lw_law.2.1 510 = .ok (.iload_n 3, 1) := by decide +kernel
theorem d_Lw_law_511 : decode m_Lw_law.2.1 511 = .ok (.iconst 3, 1) := by decide +kernel
theorem d_Lw_law_512 : decode m_Lw_law.2.1 512 = .ok (.iadd, 1) := by decide +kernel
theorem d_Lw_law_513 : decode m_Lw_law.2.1 513 = .ok (.iaload, 1) := by decide +kernel
theorem d_Lw_law_514 : decode m_Lw_law.2.1 514 = .ok (.invokevirtual 69, 3) := by decide +kernel
theorem d_Lw_law_517 : decode m_Lw_law.2.1 517 = .ok (.aload_n 2, 1) := by decide +kernel
theorem d_Lw_law_518 : decode m_Lw_law.2.1 518 = .ok (.aload_n 0, 1) := by decide +kernel
theorem d_Lw_law_519 : decode m_Lw_law.2.1 519 = .ok (.iload_n 3, 1) := by decide +kernel
theorem d_Lw_law_520 : decode m_Lw_law.2.1 520 = .ok (.iconst 1, 1) := by decide +kernel
theorem d_Lw_law_521 : decode m_Lw_law.2.1 521 = .ok (.iadd, 1) := by decide +kernel
theorem d_Lw_law_522 : decode m_Lw_law.2.1 522 = .ok (.iaload, 1) := by decide +kernel
theorem d_Lw_law_523 : decode m_Lw_law.2.1 523 = .ok (.aload_n 0, 1) := by decide +kernel
theorem d_Lw_law_524 : decode m_Lw_law.2.1 524 = .ok (.iload_n 3, 1) := by decide +kernel
theorem d_Lw_law_525 : decode m_Lw_law.2.1 525 = .ok (.iconst 2, 1) := by decide +kernel
theorem d_Lw_law_526 : decode m_Lw_law.2.1 526 = .ok (.iadd, 1) := by decide +kernel
theorem d_Lw_law_527 : decode m_Lw_law.2.1 527 = .ok (.iaload, 1) := by decide +kernel
theorem d_Lw_law_528 : decode m_Lw_law.2.1 528 = .ok (.aload_n 0, 1) := by decide +kernel
theorem d_Lw_law_529 : decode m_Lw_law.2.1 529 = .ok (.iload_n 3, 1) := by decide +kernel
theorem d_Lw_law_530 : decode m_Lw_law.2.1 530 = .ok (.iconst 3, 1) := by decide +kernel
theorem d_Lw_law_531 : decode m_Lw_law.2.1 531 = .ok (.iadd, 1) := by decide +kernel
theorem d_Lw_law_532 : decode m_Lw_law.2.1 532 = .ok (.iaload, 1) := by decide +kernel
theorem d_Lw_law_533 : decode m_Lw_law.2.1 533 = .ok (.invokevirtual 72, 3) := by decide +kernel
theorem d_Lw_law_536 : decode m_Lw_law.2.1 536 = .ok (.if_icmp .eq 548, 3) := by decide +kernel
theorem d_Lw_law_539 : decode m_Lw_law.2.1 539 = .ok (.iconst 0, 1) := by decide +kernel
theorem d_Lw_law_540 : decode m_Lw_law.2.1 540 = .ok (.ireturn, 1) := by decide +kernel
theorem d_Lw_law_541 : decode m_Lw_law.2.1 541 = .ok (.aload_n 1, 1) := by decide +kernel
theorem d_Lw_law_542 : decode m_Lw_law.2.1 542 = .ok (.aload_n 0, 1) := by decide +kernel
theorem d_Lw_law_543 : decode m_Lw_law.2.1 543 = .ok (.iload_n 3, 1) := by decide +kernel
theorem d_Lw_law_544 : decode m_Lw_law.2.1 544 = .ok (.iconst 1, 1) := by decide +kernel
theorem d_Lw_law_545 : decode m_Lw_law.2.1 545 = .ok (.iadd, 1) := by decide +kernel
theorem d_Lw_law_546 : decode m_Lw_law.2.1 546 = .ok (.iaload, 1) := by decide +kernel
theorem d_Lw_law_547 : decode m_Lw_law.2.1 547 = .ok (.aload_n 0, 1) := by decide +kernel
theorem d_Lw_law_548 : decode m_Lw_law.2.1 548 = .ok (.iload_n 3, 1) := by decide +kernel
theorem d_Lw_law_549 : decode m_Lw_law.2.1 549 = .ok (.iconst 2, 1) := by decide +kernel
theorem d_Lw_law_550 : decode m_Lw_law.2.1 550 = .ok (.iadd, 1) := by decide +kernel
theorem d_Lw_law_551 : decode m_Lw_law.2.1 551 = .ok (.iaload, 1) := by decide +kernel
theorem d_Lw_law_552 : decode m_Lw_law.2.1 552 = .ok (.aload_n 0, 1) := by decide +kernel
theorem d_Lw_law_553 : decode m_Lw_law.2.1 553 = .ok (.iload_n 3, 1) := by decide +kernel
theorem d_Lw_law_554 : decode m_Lw_law.2.1 554 = .ok (.iconst 3, 1) := by decide +kernel
theorem d_Lw_law_555 : decode m_Lw_law.2.1 555 = .ok (.iadd, 1) := by decide +kernel
theorem d_Lw_law_556 : decode m_Lw_law.2.1 556 = .ok (.iaload, 1) := by decide +kernel
theorem d_Lw_law_557 : decode m_Lw_law.2.1 557 = .ok (.invokevirtual 73, 3) := by decide +kernel
theorem d_Lw_law_560 : decode m_Lw_law.2.1 560 = .ok (.aload_n 2, 1) := by decide +kernel
theorem d_Lw_law_561 : decode m_Lw_law.2.1 561 = .ok (.aload_n 0, 1) := by decide +kernel
theorem d_Lw_law_562 : decode m_Lw_law.2.1 562 = .ok (.iload_n 3, 1) := by decide +kernel
theorem d_Lw_law_563 : decode m_Lw_law.2.1 563 = .ok (.iconst 1, 1) := by decide +kernel
theorem d_Lw_law_564 : decode m_Lw_law.2.1 564 = .ok (.iadd, 1) := by decide +kernel
theorem d_Lw_law_565 : decode m_Lw_law.2.1 565 = .ok (.iaload, 1) := by decide +kernel
theorem d_Lw_law_566 : decode m_Lw_law.2.1 566 = .ok (.aload_n 0, 1) := by decide +kernel
theorem d_Lw_law_567 : decode m_Lw_law.2.1 567 = .ok (.iload_n 3, 1) := by decide +kernel
theorem d_Lw_law_568 : decode m_Lw_law.2.1 568 = .ok (.iconst 2, 1) := by decide +kernel
theorem d_Lw_law_569 : decode m_Lw_law.2.1 569 = .ok (.iadd, 1) := by decide +kernel
theorem d_Lw_law_570 : decode m_Lw_law.2.1 570 = .ok (.iaload, 1) := by decide +kernel
theorem d_Lw_law_571 : decode m_Lw_law.2.1 571 = .ok (.aload_n 0, 1) := by decide +kernel
theorem d_Lw_law_572 : decode m_Lw_law.2.1 572 = .ok (.iload_n 3, 1) := by decide +kernel
theorem d_Lw_law_573 : decode m_Lw_law.2.1 573 = .ok (.iconst 3, 1) := by decide +kernel
theorem d_Lw_law_574 : decode m_Lw_law.2.1 574 = .ok (.iadd, 1) := by decide +kernel
theorem d_Lw_law_575 : decode m_Lw_law.2.1 575 = .ok (.iaload, 1) := by decide +kernel
theorem d_Lw_law_576 : decode m_Lw_law.2.1 576 = .ok (.invokevirtual 76, 3) := by decide +kernel
theorem d_Lw_law_579 : decode m_Lw_law.2.1 579 = .ok (.if_icmp .eq 505, 3) := by decide +kernel
theorem d_Lw_law_582 : decode m_Lw_law.2.1 582 = .ok (.iconst 0, 1) := by decide +kernel
theorem d_Lw_law_583 : decode m_Lw_law.2.1 583 = .ok (.ireturn, 1) := by decide +kernel
theorem d_Lw_law_584 : decode m_Lw_law.2.1 584 = .ok (.aload_n 1, 1) := by decide +kernel
theorem d_Lw_law_585 : decode m_Lw_law.2.1 585 = .ok (.invokevirtual 77, 3) := by decide +kernel
theorem d_Lw_law_588 : decode m_Lw_law.2.1 588 = .ok (.aload_n 2, 1) := by decide +kernel
theorem d_Lw_law_589 : decode m_Lw_law.2.1 589 = .ok (.invokevirtual 80, 3) := by decide +kernel
theorem d_Lw_law_592 : decode m_Lw_law.2.1 592 = .ok (.if_icmp .eq 492, 3) := by decide +kernel
theorem d_Lw_law_595 : decode m_Lw_law.2.1 595 = .ok (.iconst 0, 1) := by decide +kernel
theorem d_Lw_law_596 : decode m_Lw_law.2.1 596 = .ok (.ireturn, 1) := by decide +kernel
theorem d_Lw_law_597 : decode m_Lw_law.2.1 597 = .ok (.aload_n 1, 1) := by decide +kernel
theorem d_Lw_law_598 : decode m_Lw_law.2.1 598 = .ok (.aload_n 0, 1) := by decide +kernel
theorem d_Lw_law_599 : decode m_Lw_law.2.1 599 = .ok (.iload_n 3, 1) := by decide +kernel
theorem d_Lw_law_600 : decode m_Lw_law.2.1 600 = .ok (.iconst 1, 1) := by decide +kernel
theorem d_Lw_law_601 : decode m_Lw_law.2.1 601 = .ok (.iadd, 1) := by decide +kernel
theorem d_Lw_law_602 : decode m_Lw_law.2.1 602 = .ok (.iaload, 1) := by decide +kernel
theorem d_Lw_law_603 : decode m_Lw_law.2.1 603 = .ok (.invokevirtual 81, 3) := by decide +kernel
theorem d_Lw_law_606 : decode m_Lw_law.2.1 606 = .ok (.aload_n 2, 1) := by decide +kernel
theorem d_Lw_law_607 : decode m_Lw_law.2.1 607 = .ok (.aload_n 0, 1) := by decide +kernel
theorem d_Lw_law_608 : decode m_Lw_law.2.1 608 = .ok (.iload_n 3, 1) := by decide +kernel
theorem d_Lw_law_609 : decode m_Lw_law.2.1 609 = .ok (.iconst 1, 1) := by decide +kernel
theorem d_Lw_law_610 : decode m_Lw_law.2.1 610 = .ok (.iadd, 1) := by decide +kernel
theorem d_Lw_law_611 : decode m_Lw_law.2.1 611 = .ok (.iaload, 1) := by decide +kernel
theorem d_Lw_law_612 : decode m_Lw_law.2.1 612 = .ok (.invokevirtual 84, 3) := by decide +kernel
theorem d_Lw_law_615 : decode m_Lw_law.2.1 615 = .ok (.if_icmp .eq 469, 3) := by decide +kernel
theorem d_Lw_law_618 : decode m_Lw_law.2.1 618 = .ok (.iconst 0, 1) := by decide +kernel
theorem d_Lw_law_619 : decode m_Lw_law.2.1 619 = .ok (.ireturn, 1) := by decide +kernel
theorem d_Lw_law_620 : decode m_Lw_law.2.1 620 = .ok (.aload_n 1, 1) := by decide +kernel
theorem d_Lw_law_621 : decode m_Lw_law.2.1 621 = .ok (.aload_n 0, 1) := by decide +kernel
theorem d_Lw_law_622 : decode m_Lw_law.2.1 622 = .ok (.iload_n 3, 1) := by decide +kernel
theorem d_Lw_law_623 : decode m_Lw_law.2.1 623 = .ok (.iconst 1, 1) := by decide +kernel
theorem d_Lw_law_624 : decode m_Lw_law.2.1 624 = .ok (.iadd, 1) := by decide +kernel
theorem d_Lw_law_625 : decode m_Lw_law.2.1 625 = .ok (.iaload, 1) := by decide +kernel
theorem d_Lw_law_626 : decode m_Lw_law.2.1 626 = .ok (.invokevirtual 85, 3) := by decide +kernel
theorem d_Lw_law_629 : decode m_Lw_law.2.1 629 = .ok (.aload_n 2, 1) := by decide +kernel
theorem d_Lw_law_630 : decode m_Lw_law.2.1 630 = .ok (.aload_n 0, 1) := by decide +kernel
theorem d_Lw_law_631 : decode m_Lw_law.2.1 631 = .ok (.iload_n 3, 1) := by decide +kernel
theorem d_Lw_law_632 : decode m_Lw_law.2.1 632 = .ok (.iconst 1, 1) := by decide +kernel
theorem d_Lw_law_633 : decode m_Lw_law.2.1 633 = .ok (.iadd, 1) := by decide +kernel
theorem d_Lw_law_634 : decode m_Lw_law.2.1 634 = .ok (.iaload, 1) := by decide +kernel
theorem d_Lw_law_635 : decode m_Lw_law.2.1 635 = .ok (.invokevirtual 88, 3) := by decide +kernel
theorem d_Lw_law_638 : decode m_Lw_law.2.1 638 = .ok (.if_icmp .eq 446, 3) := by decide +kernel
theorem d_Lw_law_641 : decode m_Lw_law.2.1 641 = .ok (.iconst 0, 1) := by decide +kernel
theorem d_Lw_law_642 : decode m_Lw_law.2.1 642 = .ok (.ireturn, 1) := by decide +kernel
theorem d_Lw_law_643 : decode m_Lw_law.2.1 643 = .ok (.aload_n 1, 1) := by decide +kernel
theorem d_Lw_law_644 : decode m_Lw_law.2.1 644 = .ok (.aload_n 0, 1) := by decide +kernel
theorem d_Lw_law_645 : decode m_Lw_law.2.1 645 = .ok (.iload_n 3, 1) := by decide +kernel
theorem d_Lw_law_646 : decode m_Lw_law.2.1 646 = .ok (.iconst 1, 1) := by decide +kernel
theorem d_Lw_law_647 : decode m_Lw_law.2.1 647 = .ok (.iadd, 1) := by decide +kernel
theorem d_Lw_law_648 : decode m_Lw_law.2.1 648 = .ok (.iaload, 1) := by decide +kernel
theorem d_Lw_law_649 : decode m_Lw_law.2.1 649 = .ok (.aload_n 0, 1) := by decide +kernel
theorem d_Lw_law_650 : decode m_Lw_law.2.1 650 = .ok (.iload_n 3, 1) := by decide +kernel
theorem d_Lw_law_651 : decode m_Lw_law.2.1 651 = .ok (.iconst 2, 1) := by decide +kernel
theorem d_Lw_law_652 : decode m_Lw_law.2.1 652 = .ok (.iadd, 1) := by decide +kernel
theorem d_Lw_law_653 : decode m_Lw_law.2.1 653 = .ok (.iaload, 1) := by decide +kernel
theorem d_Lw_law_654 : decode m_Lw_law.2.1 654 = .ok (.aload_n 0, 1) := by decide +kernel
theorem d_Lw_law_655 : decode m_Lw_law.2.1 655 = .ok (.iload_n 3, 1) := by decide +kernel
theorem d_Lw_law_656 : decode m_Lw_law.2.1 656 = .ok (.iconst 3, 1) := by decide +kernel
theorem d_Lw_law_657 : decode m_Lw_law.2.1 657 = .ok (.iadd, 1) := by decide +kernel
theorem d_Lw_law_658 : decode m_Lw_law.2.1 658 = .ok (.iaload, 1) := by decide +kernel
theorem d_Lw_law_659 : decode m_Lw_law.2.1 659 = .ok (.aload_n 0, 1) := by decide +kernel
theorem d_Lw_law_660 : decode m_Lw_law.2.1 660 = .ok (.iload_n 3, 1) := by decide +kernel
theorem d_Lw_law_661 : decode m_Lw_law.2.1 661 = .ok (.iconst 4, 1) := by decide +kernel
theorem d_Lw_law_662 : decode m_Lw_law.2.1 662 = .ok (.iadd, 1) := by decide +kernel
theorem d_Lw_law_663 : decode m_Lw_law.2.1 663 = .ok (.iaload, 1) := by decide +kernel
theorem d_Lw_law_664 : decode m_Lw_law.2.1 664 = .ok (.aload_n 0, 1) := by decide +kernel
theorem d_Lw_law_665 : decode m_Lw_law.2.1 665 = .ok (.iload_n 3, 1) := by decide +kernel
theorem d_Lw_law_666 : decode m_Lw_law.2.1 666 = .ok (.iconst 5, 1) := by decide +kernel
theorem d_Lw_law_667 : decode m_Lw_law.2.1 667 = .ok (.iadd, 1) := by decide +kernel
theorem d_Lw_law_668 : decode m_Lw_law.2.1 668 = .ok (.iaload, 1) := by decide +kernel
theorem d_Lw_law_669 : decode m_Lw_law.2.1 669 = .ok (.invokevirtual 89, 3) := by decide +kernel
theorem d_Lw_law_672 : decode m_Lw_law.2.1 672 = .ok (.aload_n 2, 1) := by decide +kernel
theorem d_Lw_law_673 : decode m_Lw_law.2.1 673 = .ok (.aload_n 0, 1) := by decide +kernel
theorem d_Lw_law_674 : decode m_Lw_law.2.1 674 = .ok (.iload_n 3, 1) := by decide +kernel
theorem d_Lw_law_675 : decode m_Lw_law.2.1 675 = .ok (.iconst 1, 1) := by decide +kernel
theorem d_Lw_law_676 : decode m_Lw_law.2.1 676 = .ok (.iadd, 1) := by decide +kernel
theorem d_Lw_law_677 : decode m_Lw_law.2.1 677 = .ok (.iaload, 1) := by decide +kernel
theorem d_Lw_law_678 : decode m_Lw_law.2.1 678 = .ok (.aload_n 0, 1) := by decide +kernel
theorem d_Lw_law_679 : decode m_Lw_law.2.1 679 = .ok (.iload_n 3, 1) := by decide +kernel
theorem d_Lw_law_680 : decode m_Lw_law.2.1 680 = .ok (.iconst 2, 1) := by decide +kernel
theorem d_Lw_law_681 : decode m_Lw_law.2.1 681 = .ok (.iadd, 1) := by decide +kernel
theorem d_Lw_law_682 : decode m_Lw_law.2.1 682 = .ok (.iaload, 1) := by decide +kernel
theorem d_Lw_law_683 : decode m_Lw_law.2.1 683 = .ok (.aload_n 0, 1) := by decide +kernel
theorem d_Lw_law_684 : decode m_Lw_law.2.1 684 = .ok (.iload_n 3, 1) := by decide +kernel
theorem d_Lw_law_685 : decode m_Lw_law.2.1 685 = .ok (.iconst 3, 1) := by decide +kernel
theorem d_Lw_law_686 : decode m_Lw_law.2.1 686 = .ok (.iadd, 1) := by decide +kernel
theorem d_Lw_law_687 : decode m_Lw_law.2.1 687 = .ok (.iaload, 1) := by decide +kernel
theorem d_Lw_law_688 : decode m_Lw_law.2.1 688 = .ok (.aload_n 0, 1) := by decide +kernel
theorem d_Lw_law_689 : decode m_Lw_law.2.1 689 = .ok (.iload_n 3, 1) := by decide +kernel
theorem d_Lw_law_690 : decode m_Lw_law.2.1 690 = .ok (.iconst 4, 1) := by decide +kernel
theorem d_Lw_law_691 : decode m_Lw_law.2.1 691 = .ok (.iadd, 1) := by decide +kernel
theorem d_Lw_law_692 : decode m_Lw_law.2.1 692 = .ok (.iaload, 1) := by decide +kernel
theorem d_Lw_law_693 : decode m_Lw_law.2.1 693 = .ok (.aload_n 0, 1) := by decide +kernel
theorem d_Lw_law_694 : decode m_Lw_law.2.1 694 = .ok (.iload_n 3, 1) := by decide +kernel
theorem d_Lw_law_695 : decode m_Lw_law.2.1 695 = .ok (.iconst 5, 1) := by decide +kernel
theorem d_Lw_law_696 : decode m_Lw_law.2.1 696 = .ok (.iadd, 1) := by decide +kernel
theorem d_Lw_law_697 : decode m_Lw_law.2.1 697 = .ok (.iaload, 1) := by decide +kernel
theorem d_Lw_law_698 : decode m_Lw_law.2.1 698 = .ok (.invokevirtual 93, 3) := by decide +kernel
theorem d_Lw_law_701 : decode m_Lw_law.2.1 701 = .ok (.if_icmp .eq 383, 3) := by decide +kernel
theorem d_Lw_law_704 : decode m_Lw_law.2.1 704 = .ok (.iconst 0, 1) := by decide +kernel
theorem d_Lw_law_705 : decode m_Lw_law.2.1 705 = .ok (.ireturn, 1) := by decide +kernel
theorem d_Lw_law_706 : decode m_Lw_law.2.1 706 = .ok (.aload_n 1, 1) := by decide +kernel
theorem d_Lw_law_707 : decode m_Lw_law.2.1 707 = .ok (.aload_n 0, 1) := by decide +kernel
theorem d_Lw_law_708 : decode m_Lw_law.2.1 708 = .ok (.iload_n 3, 1) := by decide +kernel
theorem d_Lw_law_709 : decode m_Lw_law.2.1 709 = .ok (.iconst 1, 1) := by decide +kernel
theorem d_Lw_law_710 : decode m_Lw_law.2.1 710 = .ok (.iadd, 1) := by decide +kernel
theorem d_Lw_law_711 : decode m_Lw_law.2.1 711 = .ok (.iaload, 1) := by decide +kernel
theorem d_Lw_law_712 : decode m_Lw_law.2.1 712 = .ok (.aload_n 0, 1) := by decide +kernel
theorem d_Lw_law_713 : decode m_Lw_law.2.1 713 = .ok (.iload_n 3, 1) := by decide +kernel
theorem d_Lw_law_714 : decode m_Lw_law.2.1 714 = .ok (.iconst 2, 1) := by decide +kernel
theorem d_Lw_law_715 : decode m_Lw_law.2.1 715 = .ok (.iadd, 1) := by decide +kernel
theorem d_Lw_law_716 : decode m_Lw_law.2.1 716 = .ok (.iaload, 1) := by decide +kernel
theorem d_Lw_law_717 : decode m_Lw_law.2.1 717 = .ok (.aload_n 0, 1) := by decide +kernel
theorem d_Lw_law_718 : decode m_Lw_law.2.1 718 = .ok (.iload_n 3, 1) := by decide +kernel
theorem d_Lw_law_719 : decode m_Lw_law.2.1 719 = .ok (.iconst 3, 1) := by decide +kernel
theorem d_Lw_law_720 : decode m_Lw_law.2.1 720 = .ok (.iadd, 1) := by decide +kernel
theorem d_Lw_law_721 : decode m_Lw_law.2.1 721 = .ok (.iaload, 1) := by decide +kernel
theorem d_Lw_law_722 : decode m_Lw_law.2.1 722 = .ok (.invokevirtual 94, 3) := by decide +kernel
theorem d_Lw_law_725 : decode m_Lw_law.2.1 725 = .ok (.aload_n 2, 1) := by decide +kernel
theorem d_Lw_law_726 : decode m_Lw_law.2.1 726 = .ok (.aload_n 0, 1) := by decide +kernel
theorem d_Lw_law_727 : decode m_Lw_law.2.1 727 = .ok (.iload_n 3, 1) := by decide +kernel
theorem d_Lw_law_728 : decode m_Lw_law.2.1 728 = .ok (.iconst 1, 1) := by decide +kernel
theorem d_Lw_law_729 : decode m_Lw_law.2.1 729 = .ok (.iadd, 1) := by decide +kernel
theorem d_Lw_law_730 : decode m_Lw_law.2.1 730 = .ok (.iaload, 1) := by decide +kernel
theorem d_Lw_law_731 : decode m_Lw_law.2.1 731 = .ok (.aload_n 0, 1) := by decide +kernel
theorem d_Lw_law_732 : decode m_Lw_law.2.1 732 = .ok (.iload_n 3, 1) := by decide +kernel
theorem d_Lw_law_733 : decode m_Lw_law.2.1 733 = .ok (.iconst 2, 1) := by decide +kernel
theorem d_Lw_law_734 : decode m_Lw_law.2.1 734 = .ok (.iadd, 1) := by decide +kernel
theorem d_Lw_law_735 : decode m_Lw_law.2.1 735 = .ok (.iaload, 1) := by decide +kernel
theorem d_Lw_law_736 : decode m_Lw_law.2.1 736 = .ok (.aload_n 0, 1) := by decide +kernel
theorem d_Lw_law_737 : decode m_Lw_law.2.1 737 = .ok (.iload_n 3, 1) := by decide +kernel
theorem d_Lw_law_738 : decode m_Lw_law.2.1 738 = .ok (.iconst 3, 1) := by decide +kernel
theorem d_Lw_law_739 : decode m_Lw_law.2.1 739 = .ok (.iadd, 1) := by decide +kernel
theorem d_Lw_law_740 : decode m_Lw_law.2.1 740 = .ok (.iaload, 1) := by decide +kernel
theorem d_Lw_law_741 : decode m_Lw_law.2.1 741 = .ok (.invokevirtual 97, 3) := by decide +kernel
theorem d_Lw_law_744 : decode m_Lw_law.2.1 744 = .ok (.if_icmp .eq 340, 3) := by decide +kernel
theorem d_Lw_law_747 : decode m_Lw_law.2.1 747 = .ok (.iconst 0, 1) := by decide +kernel
theorem d_Lw_law_748 : decode m_Lw_law.2.1 748 = .ok (.ireturn, 1) := by decide +kernel
theorem d_Lw_law_749 : decode m_Lw_law.2.1 749 = .ok (.aload_n 1, 1) := by decide +kernel
theorem d_Lw_law_750 : decode m_Lw_law.2.1 750 = .ok (.aload_n 0, 1) := by decide +kernel
theorem d_Lw_law_751 : decode m_Lw_law.2.1 751 = .ok (.iload_n 3, 1) := by decide +kernel
theorem d_Lw_law_752 : decode m_Lw_law.2.1 752 = .ok (.iconst 1, 1) := by decide +kernel
theorem d_Lw_law_753 : decode m_Lw_law.2.1 753 = .ok (.iadd, 1) := by decide +kernel
theorem d_Lw_law_754 : decode m_Lw_law.2.1 754 = .ok (.iaload, 1) := by decide +kernel
theorem d_Lw_law_755 : decode m_Lw_law.2.1 755 = .ok (.aload_n 0, 1) := by decide +kernel
theorem d_Lw_law_756 : decode m_Lw_law.2.1 756 = .ok (.iload_n 3, 1) := by decide +kernel
theorem d_Lw_law_757 : decode m_Lw_law.2.1 757 = .ok (.iconst 2, 1) := by decide +kernel
theorem d_Lw_law_758 : decode m_Lw_law.2.1 758 = .ok (.iadd, 1) := by decide +kernel
theorem d_Lw_law_759 : decode m_Lw_law.2.1 759 = .ok (.iaload, 1) := by decide +kernel
theorem d_Lw_law_760 : decode m_Lw_law.2.1 760 = .ok (.aload_n 0, 1) := by decide +kernel
theorem d_Lw_law_761 : decode m_Lw_law.2.1 761 = .ok (.iload_n 3, 1) := by decide +kernel
theorem d_Lw_law_762 : decode m_Lw_law.2.1 762 = .ok (.iconst 3, 1) := by decide +kernel
theorem d_Lw_law_763 : decode m_Lw_law.2.1 763 = .ok (.iadd, 1) := by decide +kernel
theorem d_Lw_law_764 : decode m_Lw_law.2.1 764 = .ok (.iaload, 1) := by decide +kernel
theorem d_Lw_law_765 : decode m_Lw_law.2.1 765 = .ok (.aload_n 0, 1) := by decide +kernel
theorem d_Lw_law_766 : decode m_Lw_law.2.1 766 = .ok (.iload_n 3, 1) := by decide +kernel
theorem d_Lw_law_767 : decode m_Lw_law.2.1 767 = .ok (.iconst 4, 1) := by decide +kernel
theorem d_Lw_law_768 : decode m_Lw_law.2.1 768 = .ok (.iadd, 1) := by decide +kernel
theorem d_Lw_law_769 : decode m_Lw_law.2.1 769 = .ok (.iaload, 1) := by decide +kernel
theorem d_Lw_law_770 : decode m_Lw_law.2.1 770 = .ok (.aload_n 0, 1) := by decide +kernel
theorem d_Lw_law_771 : decode m_Lw_law.2.1 771 = .ok (.iload_n 3, 1) := by decide +kernel
theorem d_Lw_law_772 : decode m_Lw_law.2.1 772 = .ok (.iconst 5, 1) := by decide +kernel
theorem d_Lw_law_773 : decode m_Lw_law.2.1 773 = .ok (.iadd, 1) := by decide +kernel
theorem d_Lw_law_774 : decode m_Lw_law.2.1 774 = .ok (.iaload, 1) := by decide +kernel
theorem d_Lw_law_775 : decode m_Lw_law.2.1 775 = .ok (.aload_n 0, 1) := by decide +kernel
theorem d_Lw_law_776 : decode m_Lw_law.2.1 776 = .ok (.iload_n 3, 1) := by decide +kernel
theorem d_Lw_law_777 : decode m_Lw_law.2.1 777 = .ok (.bipush 6, 2) := by decide +kernel
theorem d_Lw_law_779 : decode m_Lw_law.2.1 779 = .ok (.iadd, 1) := by decide +kernel
theorem d_Lw_law_780 : decode m_Lw_law.2.1 780 = .ok (.iaload, 1) := by decide +kernel
theorem d_Lw_law_781 : decode m_Lw_law.2.1 781 = .ok (.invokevirtual 98, 3) := by decide +kernel
theorem d_Lw_law_784 : decode m_Lw_law.2.1 784 = .ok (.aload_n 2, 1) := by decide +kernel
theorem d_Lw_law_785 : decode m_Lw_law.2.1 785 = .ok (.aload_n 0, 1) := by decide +kernel
theorem d_Lw_law_786 : decode m_Lw_law.2.1 786 = .ok (.iload_n 3, 1) := by decide +kernel
theorem d_Lw_law_787 : decode m_Lw_law.2.1 787 = .ok (.iconst 1, 1) := by decide +kernel
theorem d_Lw_law_788 : decode m_Lw_law.2.1 788 = .ok (.iadd, 1) := by decide +kernel
theorem d_Lw_law_789 : decode m_Lw_law.2.1 789 = .ok (.iaload, 1) := by decide +kernel
theorem d_Lw_law_790 : decode m_Lw_law.2.1 790 = .ok (.aload_n 0, 1) := by decide +kernel
theorem d_Lw_law_791 : decode m_Lw_law.2.1 791 = .ok (.iload_n 3, 1) := by decide +kernel
theorem d_Lw_law_792 : decode m_Lw_law.2.1 792 = .ok (.iconst 2, 1) := by decide +kernel
theorem d_Lw_law_793 : decode m_Lw_law.2.1 793 = .ok (.iadd, 1) := by decide +kernel
theorem d_Lw_law_794 : decode m_Lw_law.2.1 794 = .ok (.iaload, 1) := by decide +kernel
theorem d_Lw_law_795 : decode m_Lw_law.2.1 795 = .ok (.aload_n 0, 1) := by decide +kernel
theorem d_Lw_law_796 : decode m_Lw_law.2.1 796 = .ok (.iload_n 3, 1) := by decide +kernel
theorem d_Lw_law_797 : decode m_Lw_law.2.1 797 = .ok (.iconst 3, 1) := by decide +kernel
theorem d_Lw_law_798 : decode m_Lw_law.2.1 798 = .ok (.iadd, 1) := by decide +kernel
theorem d_Lw_law_799 : decode m_Lw_law.2.1 799 = .ok (.iaload, 1) := by decide +kernel
theorem d_Lw_law_800 : decode m_Lw_law.2.1 800 = .ok (.aload_n 0, 1) := by decide +kernel
theorem d_Lw_law_801 : decode m_Lw_law.2.1 801 = .ok (.iload_n 3, 1) := by decide +kernel
theorem d_Lw_law_802 : decode m_Lw_law.2.1 802 = .ok (.iconst 4, 1) := by decide +kernel
theorem d_Lw_law_803 : decode m_Lw_law.2.1 803 = .ok (.iadd, 1) := by decide +kernel
theorem d_Lw_law_804 : decode m_Lw_law.2.1 804 = .ok (.iaload, 1) := by decide +kernel
theorem d_Lw_law_805 : decode m_Lw_law.2.1 805 = .ok (.aload_n 0, 1) := by decide +kernel
theorem d_Lw_law_806 : decode m_Lw_law.2.1 806 = .ok (.iload_n 3, 1) := by decide +kernel
theorem d_Lw_law_807 : decode m_Lw_law.2.1 807 = .ok (.iconst 5, 1) := by decide +kernel
theorem d_Lw_law_808 : decode m_Lw_law.2.1 808 = .ok (.iadd, 1) := by decide +kernel
theorem d_Lw_law_809 : decode m_Lw_law.2.1 809 = .ok (.iaload, 1) := by decide +kernel
theorem d_Lw_law_810 : decode m_Lw_law.2.1 810 = .ok (.aload_n 0, 1) := by decide +kernel
theorem d_Lw_law_811 : decode m_Lw_law.2.1 811 = .ok (.iload_n 3, 1) := by decide +kernel
theorem d_Lw_law_812 : decode m_Lw_law.2.1 812 = .ok (.bipush 6, 2) := by decide +kernel
theorem d_Lw_law_814 : decode m_Lw_law.2.1 814 = .ok (.iadd, 1) := by decide +kernel
theorem d_Lw_law_815 : decode m_Lw_law.2.1 815 = .ok (.iaload, 1) := by decide +kernel
theorem d_Lw_law_816 : decode m_Lw_law.2.1 816 = .ok (.invokevirtual 102, 3) := by decide +kernel
theorem d_Lw_law_819 : decode m_Lw_law.2.1 819 = .ok (.if_icmp .eq 265, 3) := by decide +kernel
theorem d_Lw_law_822 : decode m_Lw_law.2.1 822 = .ok (.iconst 0, 1) := by decide +kernel
theorem d_Lw_law_823 : decode m_Lw_law.2.1 823 = .ok (.ireturn, 1) := by decide +kernel
theorem d_Lw_law_824 : decode m_Lw_law.2.1 824 = .ok (.aload_n 1, 1) := by decide +kernel
theorem d_Lw_law_825 : decode m_Lw_law.2.1 825 = .ok (.aload_n 0, 1) := by decide +kernel
theorem d_Lw_law_826 : decode m_Lw_law.2.1 826 = .ok (.iload_n 3, 1) := by decide +kernel
theorem d_Lw_law_827 : decode m_Lw_law.2.1 827 = .ok (.iconst 1, 1) := by decide +kernel
theorem d_Lw_law_828 : decode m_Lw_law.2.1 828 = .ok (.iadd, 1) := by decide +kernel
theorem d_Lw_law_829 : decode m_Lw_law.2.1 829 = .ok (.iaload, 1) := by decide +kernel
theorem d_Lw_law_830 : decode m_Lw_law.2.1 830 = .ok (.aload_n 0, 1) := by decide +kernel
theorem d_Lw_law_831 : decode m_Lw_law.2.1 831 = .ok (.iload_n 3, 1) := by decide +kernel
theorem d_Lw_law_832 : decode m_Lw_law.2.1 832 = .ok (.iconst 2, 1) := by decide +kernel
theorem d_Lw_law_833 : decode m_Lw_law.2.1 833 = .ok (.iadd, 1) := by decide +kernel
theorem d_Lw_law_834 : decode m_Lw_law.2.1 834 = .ok (.iaload, 1) := by decide +kernel
theorem d_Lw_law_835 : decode m_Lw_law.2.1 835 = .ok (.aload_n 0, 1) := by decide +kernel
theorem d_Lw_law_836 : decode m_Lw_law.2.1 836 = .ok (.iload_n 3, 1) := by decide +kernel
theorem d_Lw_law_837 : decode m_Lw_law.2.1 837 = .ok (.iconst 3, 1) := by decide +kernel
theorem d_Lw_law_838 : decode m_Lw_law.2.1 838 = .ok (.iadd, 1) := by decide +kernel
theorem d_Lw_law_839 : decode m_Lw_law.2.1 839 = .ok (.iaload, 1) := by decide +kernel
theorem d_Lw_law_840 : decode m_Lw_law.2.1 840 = .ok (.aload_n 0, 1) := by decide +kernel
theorem d_Lw_law_841 : decode m_Lw_law.2.1 841 = .ok (.iload_n 3, 1) := by decide +kernel
theorem d_Lw_law_842 : decode m_Lw_law.2.1 842 = .ok (.iconst 4, 1) := by decide +kernel
theorem d_Lw_law_843 : decode m_Lw_law.2.1 843 = .ok (.iadd, 1) := by decide +kernel
theorem d_Lw_law_844 : decode m_Lw_law.2.1 844 = .ok (.iaload, 1) := by decide +kernel
theorem d_Lw_law_845 : decode m_Lw_law.2.1 845 = .ok (.invokevirtual 103, 3) := by decide +kernel
theorem d_Lw_law_848 : decode m_Lw_law.2.1 848 = .ok (.aload_n 2, 1) := by decide +kernel
theorem d_Lw_law_849 : decode m_Lw_law.2.1 849 = .ok (.aload_n 0, 1) := by decide +kernel
theorem d_Lw_law_850 : decode m_Lw_law.2.1 850 = .ok (.iload_n 3, 1) := by decide +kernel
theorem d_Lw_law_851 : decode m_Lw_law.2.1 851 = .ok (.iconst 1, 1) := by decide +kernel
theorem d_Lw_law_852 : decode m_Lw_law.2.1 852 = .ok (.iadd, 1) := by decide +kernel
theorem d_Lw_law_853 : decode m_Lw_law.2.1 853 = .ok (.iaload, 1) := by decide +kernel
theorem d_Lw_law_854 : decode m_Lw_law.2.1 854 = .ok (.aload_n 0, 1) := by decide +kernel
theorem d_Lw_law_855 : decode m_Lw_law.2.1 855 = .ok (.iload_n 3, 1) := by decide +kernel
theorem d_Lw_law_856 : decode m_Lw_law.2.1 856 = .ok (.iconst 2, 1) := by decide +kernel
theorem d_Lw_law_857 : decode m_Lw_law.2.1 857 = .ok (.iadd, 1) := by decide +kernel
theorem d_Lw_law_858 : decode m_Lw_law.2.1 858 = .ok (.iaload, 1) := by decide +kernel
theorem d_Lw_law_859 : decode m_Lw_law.2.1 859 = .ok (.aload_n 0, 1) := by decide +kernel
theorem d_Lw_law_860 : decode m_Lw_law.2.1 860 = .ok (.iload_n 3, 1) := by decide +kernel
theorem d_Lw_law_861 : decode m_Lw_law.2.1 861 = .ok (.iconst 3, 1) := by decide +kernel
theorem d_Lw_law_862 : decode m_Lw_law.2.1 862 = .ok (.iadd, 1) := by decide +kernel
theorem d_Lw_law_863 : decode m_Lw_law.2.1 863 = .ok (.iaload, 1) := by decide +kernel
theorem d_Lw_law_864 : decode m_Lw_law.2.1 864 = .ok (.aload_n 0, 1) := by decide +kernel
theorem d_Lw_law_865 : decode m_Lw_law.2.1 865 = .ok (.iload_n 3, 1) := by decide +kernel
theorem d_Lw_law_866 : decode m_Lw_law.2.1 866 = .ok (.iconst 4, 1) := by decide +kernel
theorem d_Lw_law_867 : decode m_Lw_law.2.1 867 = .ok (.iadd, 1) := by decide +kernel
theorem d_Lw_law_868 : decode m_Lw_law.2.1 868 = .ok (.iaload, 1) := by decide +kernel
theorem d_Lw_law_869 : decode m_Lw_law.2.1 869 = .ok (.invokevirtual 106, 3) := by decide +kernel
theorem d_Lw_law_872 : decode m_Lw_law.2.1 872 = .ok (.if_icmp .eq 212, 3) := by decide +kernel
theorem d_Lw_law_875 : decode m_Lw_law.2.1 875 = .ok (.iconst 0, 1) := by decide +kernel
theorem d_Lw_law_876 : decode m_Lw_law.2.1 876 = .ok (.ireturn, 1) := by decide +kernel
theorem d_Lw_law_877 : decode m_Lw_law.2.1 877 = .ok (.aload_n 1, 1) := by decide +kernel
theorem d_Lw_law_878 : decode m_Lw_law.2.1 878 = .ok (.aload_n 0, 1) := by decide +kernel
theorem d_Lw_law_879 : decode m_Lw_law.2.1 879 = .ok (.iload_n 3, 1) := by decide +kernel
theorem d_Lw_law_880 : decode m_Lw_law.2.1 880 = .ok (.iconst 1, 1) := by decide +kernel
theorem d_Lw_law_881 : decode m_Lw_law.2.1 881 = .ok (.iadd, 1) := by decide +kernel
theorem d_Lw_law_882 : decode m_Lw_law.2.1 882 = .ok (.iaload, 1) := by decide +kernel
theorem d_Lw_law_883 : decode m_Lw_law.2.1 883 = .ok (.aload_n 0, 1) := by decide +kernel
theorem d_Lw_law_884 : decode m_Lw_law.2.1 884 = .ok (.iload_n 3, 1) := by decide +kernel
theorem d_Lw_law_885 : decode m_Lw_law.2.1 885 = .ok (.iconst 2, 1) := by decide +kernel
theorem d_Lw_law_886 : decode m_Lw_law.2.1 886 = .ok (.iadd, 1) := by decide +kernel
theorem d_Lw_law_887 : decode m_Lw_law.2.1 887 = .ok (.iaload, 1) := by decide +kernel
theorem d_Lw_law_888 : decode m_Lw_law.2.1 888 = .ok (.aload_n 0, 1) := by decide +kernel
theorem d_Lw_law_889 : decode m_Lw_law.2.1 889 = .ok (.iload_n 3, 1) := by decide +kernel
theorem d_Lw_law_890 : decode m_Lw_law.2.1 890 = .ok (.iconst 3, 1) := by decide +kernel
theorem d_Lw_law_891 : decode m_Lw_law.2.1 891 = .ok (.iadd, 1) := by decide +kernel
theorem d_Lw_law_892 : decode m_Lw_law.2.1 892 = .ok (.iaload, 1) := by decide +kernel
theorem d_Lw_law_893 : decode m_Lw_law.2.1 893 = .ok (.aload_n 0, 1) := by decide +kernel
theorem d_Lw_law_894 : decode m_Lw_law.2.1 894 = .ok (.iload_n 3, 1) := by decide +kernel
theorem d_Lw_law_895 : decode m_Lw_law.2.1 895 = .ok (.iconst 4, 1) := by decide +kernel
theorem d_Lw_law_896 : decode m_Lw_law.2.1 896 = .ok (.iadd, 1) := by decide +kernel
theorem d_Lw_law_897 : decode m_Lw_law.2.1 897 = .ok (.iaload, 1) := by decide +kernel
theorem d_Lw_law_898 : decode m_Lw_law.2.1 898 = .ok (.aload_n 0, 1) := by decide +kernel
theorem d_Lw_law_899 : decode m_Lw_law.2.1 899 = .ok (.iload_n 3, 1) := by decide +kernel
theorem d_Lw_law_900 : decode m_Lw_law.2.1 900 = .ok (.iconst 5, 1) := by decide +kernel
theorem d_Lw_law_901 : decode m_Lw_law.2.1 901 = .ok (.iadd, 1) := by decide +kernel
theorem d_Lw_law_902 : decode m_Lw_law.2.1 902 = .ok (.iaload, 1) := by decide +kernel
theorem d_Lw_law_903 : decode m_Lw_law.2.1 903 = .ok (.invokevirtual 107, 3) := by decide +kernel
theorem d_Lw_law_906 : decode m_Lw_law.2.1 906 = .ok (.aload_n 2, 1) := by decide +kernel
theorem d_Lw_law_907 : decode m_Lw_law.2.1 907 = .ok (.aload_n 0, 1) := by decide +kernel
theorem d_Lw_law_908 : decode m_Lw_law.2.1 908 = .ok (.iload_n 3, 1) := by decide +kernel
theorem d_Lw_law_909 : decode m_Lw_law.2.1 909 = .ok (.iconst 1, 1) := by decide +kernel
theorem d_Lw_law_910 : decode m_Lw_law.2.1 910 = .ok (.iadd, 1) := by decide +kernel
theorem d_Lw_law_911 : decode m_Lw_law.2.1 911 = .ok (.iaload, 1) := by decide +kernel
theorem d_Lw_law_912 : decode m_Lw_law.2.1 912 = .ok (.aload_n 0, 1) := by decide +kernel
theorem d_Lw_law_913 : decode m_Lw_law.2.1 913 = .ok (.iload_n 3, 1) := by decide +kernel
theorem d_Lw_law_914 : decode m_Lw_law.2.1 914 = .ok (.iconst 2, 1) := by decide +kernel
theorem d_Lw_law_915 : decode m_Lw_law.2.1 915 = .ok (.iadd, 1) := by decide +kernel
theorem d_Lw_law_916 : decode m_Lw_law.2.1 916 = .ok (.iaload, 1) := by decide +kernel
theorem d_Lw_law_917 : decode m_Lw_law.2.1 917 = .ok (.aload_n 0, 1) := by decide +kernel
theorem d_Lw_law_918 : decode m_Lw_law.2.1 918 = .ok (.iload_n 3, 1) := by decide +kernel
theorem d_Lw_law_919 : decode m_Lw_law.2.1 919 = .ok (.iconst 3, 1) := by decide +kernel
theorem d_Lw_law_920 : decode m_Lw_law.2.1 920 = .ok (.iadd, 1) := by decide +kernel
theorem d_Lw_law_921 : decode m_Lw_law.2.1 921 = .ok (.iaload, 1) := by decide +kernel
theorem d_Lw_law_922 : decode m_Lw_law.2.1 922 = .ok (.aload_n 0, 1) := by decide +kernel
theorem d_Lw_law_923 : decode m_Lw_law.2.1 923 = .ok (.iload_n 3, 1) := by decide +kernel
theorem d_Lw_law_924 : decode m_Lw_law.2.1 924 = .ok (.iconst 4, 1) := by decide +kernel
theorem d_Lw_law_925 : decode m_Lw_law.2.1 925 = .ok (.iadd, 1) := by decide +kernel
theorem d_Lw_law_926 : decode m_Lw_law.2.1 926 = .ok (.iaload, 1) := by decide +kernel
theorem d_Lw_law_927 : decode m_Lw_law.2.1 927 = .ok (.aload_n 0, 1) := by decide +kernel
theorem d_Lw_law_928 : decode m_Lw_law.2.1 928 = .ok (.iload_n 3, 1) := by decide +kernel
theorem d_Lw_law_929 : decode m_Lw_law.2.1 929 = .ok (.iconst 5, 1) := by decide +kernel
theorem d_Lw_law_930 : decode m_Lw_law.2.1 930 = .ok (.iadd, 1) := by decide +kernel
theorem d_Lw_law_931 : decode m_Lw_law.2.1 931 = .ok (.iaload, 1) := by decide +kernel
theorem d_Lw_law_932 : decode m_Lw_law.2.1 932 = .ok (.invokevirtual 111, 3) := by decide +kernel
theorem d_Lw_law_935 : decode m_Lw_law.2.1 935 = .ok (.lcmp, 1) := by decide +kernel
theorem d_Lw_law_936 : decode m_Lw_law.2.1 936 = .ok (.ifCond .eq 148, 3) := by decide +kernel
theorem d_Lw_law_939 : decode m_Lw_law.2.1 939 = .ok (.iconst 0, 1) := by decide +kernel
theorem d_Lw_law_940 : decode m_Lw_law.2.1 940 = .ok (.ireturn, 1) := by decide +kernel
theorem d_Lw_law_941 : decode m_Lw_law.2.1 941 = .ok (.aload_n 1, 1) := by decide +kernel
theorem d_Lw_law_942 : decode m_Lw_law.2.1 942 = .ok (.aload_n 0, 1) := by decide +kernel
theorem d_Lw_law_943 : decode m_Lw_law.2.1 943 = .ok (.iload_n 3, 1) := by decide +kernel
theorem d_Lw_law_944 : decode m_Lw_law.2.1 944 = .ok (.iconst 1, 1) := by decide +kernel
theorem d_Lw_law_945 : decode m_Lw_law.2.1 945 = .ok (.iadd, 1) := by decide +kernel
theorem d_Lw_law_946 : decode m_Lw_law.2.1 946 = .ok (.iaload, 1) := by decide +kernel
theorem d_Lw_law_947 : decode m_Lw_law.2.1 947 = .ok (.aload_n 0, 1) := by decide +kernel
theorem d_Lw_law_948 : decode m_Lw_law.2.1 948 = .ok (.iload_n 3, 1) := by decide +kernel
theorem d_Lw_law_949 : decode m_Lw_law.2.1 949 = .ok (.iconst 2, 1) := by decide +kernel
theorem d_Lw_law_950 : decode m_Lw_law.2.1 950 = .ok (.iadd, 1) := by decide +kernel
theorem d_Lw_law_951 : decode m_Lw_law.2.1 951 = .ok (.iaload, 1) := by decide +kernel
theorem d_Lw_law_952 : decode m_Lw_law.2.1 952 = .ok (.aload_n 0, 1) := by decide +kernel
theorem d_Lw_law_953 : decode m_Lw_law.2.1 953 = .ok (.iload_n 3, 1) := by decide +kernel
theorem d_Lw_law_954 : decode m_Lw_law.2.1 954 = .ok (.iconst 3, 1) := by decide +kernel
theorem d_Lw_law_955 : decode m_Lw_law.2.1 955 = .ok (.iadd, 1) := by decide +kernel
theorem d_Lw_law_956 : decode m_Lw_law.2.1 956 = .ok (.iaload, 1) := by decide +kernel
theorem d_Lw_law_957 : decode m_Lw_law.2.1 957 = .ok (.aload_n 0, 1) := by decide +kernel
theorem d_Lw_law_958 : decode m_Lw_law.2.1 958 = .ok (.iload_n 3, 1) := by decide +kernel
theorem d_Lw_law_959 : decode m_Lw_law.2.1 959 = .ok (.iconst 4, 1) := by decide +kernel
theorem d_Lw_law_960 : decode m_Lw_law.2.1 960 = .ok (.iadd, 1) := by decide +kernel
theorem d_Lw_law_961 : decode m_Lw_law.2.1 961 = .ok (.iaload, 1) := by decide +kernel
theorem d_Lw_law_962 : decode m_Lw_law.2.1 962 = .ok (.aload_n 0, 1) := by decide +kernel
theorem d_Lw_law_963 : decode m_Lw_law.2.1 963 = .ok (.iload_n 3, 1) := by decide +kernel
theorem d_Lw_law_964 : decode m_Lw_law.2.1 964 = .ok (.iconst 5, 1) := by decide +kernel
theorem d_Lw_law_965 : decode m_Lw_law.2.1 965 = .ok (.iadd, 1) := by decide +kernel
theorem d_Lw_law_966 : decode m_Lw_law.2.1 966 = .ok (.iaload, 1) := by decide +kernel
theorem d_Lw_law_967 : decode m_Lw_law.2.1 967 = .ok (.invokevirtual 112, 3) := by decide +kernel
theorem d_Lw_law_970 : decode m_Lw_law.2.1 970 = .ok (.aload_n 2, 1) := by decide +kernel
theorem d_Lw_law_971 : decode m_Lw_law.2.1 971 = .ok (.aload_n 0, 1) := by decide +kernel
theorem d_Lw_law_972 : decode m_Lw_law.2.1 972 = .ok (.iload_n 3, 1) := by decide +kernel
theorem d_Lw_law_973 : decode m_Lw_law.2.1 973 = .ok (.iconst 1, 1) := by decide +kernel
theorem d_Lw_law_974 : decode m_Lw_law.2.1 974 = .ok (.iadd, 1) := by decide +kernel
theorem d_Lw_law_975 : decode m_Lw_law.2.1 975 = .ok (.iaload, 1) := by decide +kernel
theorem d_Lw_law_976 : decode m_Lw_law.2.1 976 = .ok (.aload_n 0, 1) := by decide +kernel
theorem d_Lw_law_977 : decode m_Lw_law.2.1 977 = .ok (.iload_n 3, 1) := by decide +kernel
theorem d_Lw_law_978 : decode m_Lw_law.2.1 978 = .ok (.iconst 2, 1) := by decide +kernel
theorem d_Lw_law_979 : decode m_Lw_law.2.1 979 = .ok (.iadd, 1) := by decide +kernel
theorem d_Lw_law_980 : decode m_Lw_law.2.1 980 = .ok (.iaload, 1) := by decide +kernel
theorem d_Lw_law_981 : decode m_Lw_law.2.1 981 = .ok (.aload_n 0, 1) := by decide +kernel
theorem d_Lw_law_982 : decode m_Lw_law.2.1 982 = .ok (.iload_n 3, 1) := by decide +kernel
theorem d_Lw_law_983 : decode m_Lw_law.2.1 983 = .ok (.iconst 3, 1) := by decide +kernel
theorem d_Lw_law_984 : decode m_Lw_law.2.1 984 = .ok (.iadd, 1) := by decide +kernel
theorem d_Lw_law_985 : decode m_Lw_law.2.1 985 = .ok (.iaload, 1) := by decide +kernel
theorem d_Lw_law_986 : decode m_Lw_law.2.1 986 = .ok (.aload_n 0, 1) := by decide +kernel
theorem d_Lw_law_987 : decode m_Lw_law.2.1 987 = .ok (.iload_n 3, 1) := by decide +kernel
theorem d_Lw_law_988 : decode m_Lw_law.2.1 988 = .ok (.iconst 4, 1) := by decide +kernel
theorem d_Lw_law_989 : decode m_Lw_law.2.1 989 = .ok (.iadd, 1) := by decide +kernel
theorem d_Lw_law_990 : decode m_Lw_law.2.1 990 = .ok (.iaload, 1) := by decide +kernel
theorem d_Lw_law_991 : decode m_Lw_law.2.1 991 = .ok (.aload_n 0, 1) := by decide +kernel
theorem d_Lw_law_992 : decode m_Lw_law.2.1 992 = .ok (.iload_n 3, 1) := by decide +kernel
theorem d_Lw_law_993 : decode m_Lw_law.2.1 993 = .ok (.iconst 5, 1) := by decide +kernel
theorem d_Lw_law_994 : decode m_Lw_law.2.1 994 = .ok (.iadd, 1) := by decide +kernel
theorem d_Lw_law_995 : decode m_Lw_law.2.1 995 = .ok (.iaload, 1) := by decide +kernel
theorem d_Lw_law_996 : decode m_Lw_law.2.1 996 = .ok (.invokevirtual 115, 3) := by decide +kernel
theorem d_Lw_law_999 : decode m_Lw_law.2.1 999 = .ok (.lcmp, 1) := by decide +kernel
theorem d_Lw_law_1000 : decode m_Lw_law.2.1 1000 = .ok (.ifCond .eq 84, 3) := by decide +kernel
theorem d_Lw_law_1003 : decode m_Lw_law.2.1 1003 = .ok (.iconst 0, 1) := by decide +kernel
theorem d_Lw_law_1004 : decode m_Lw_law.2.1 1004 = .ok (.ireturn, 1) := by decide +kernel
theorem d_Lw_law_1005 : decode m_Lw_law.2.1 1005 = .ok (.aload_n 1, 1) := by decide +kernel
theorem d_Lw_law_1006 : decode m_Lw_law.2.1 1006 = .ok (.aload_n 0, 1) := by decide +kernel
theorem d_Lw_law_1007 : decode m_Lw_law.2.1 1007 = .ok (.iload_n 3, 1) := by decide +kernel
theorem d_Lw_law_1008 : decode m_Lw_law.2.1 1008 = .ok (.iconst 1, 1) := by decide +kernel
theorem d_Lw_law_1009 : decode m_Lw_law.2.1 1009 = .ok (.iadd, 1) := by decide +kernel
theorem d_Lw_law_1010 : decode m_Lw_law.2.1 1010 = .ok (.iaload, 1) := by decide +kernel
theorem d_Lw_law_1011 : decode m_Lw_law.2.1 1011 = .ok (.aload_n 0, 1) := by decide +kernel
theorem d_Lw_law_1012 : decode m_Lw_law.2.1 1012 = .ok (.iload_n 3, 1) := by decide +kernel
theorem d_Lw_law_1013 : decode m_Lw_law.2.1 1013 = .ok (.iconst 2, 1) := by decide +kernel
theorem d_Lw_law_1014 : decode m_Lw_law.2.1 1014 = .ok (.iadd, 1) := by decide +kernel
theorem d_Lw_law_1015 : decode m_Lw_law.2.1 1015 = .ok (.iaload, 1) := by decide +kernel
theorem d_Lw_law_1016 : decode m_Lw_law.2.1 1016 = .ok (.invokevirtual 116, 3) := by decide +kernel
theorem d_Lw_law_1019 : decode m_Lw_law.2.1 1019 = .ok (.aload_n 2, 1) := by decide +kernel
theorem d_Lw_law_1020 : decode m_Lw_law.2.1 1020 = .ok (.aload_n 0, 1) := by decide +kernel
theorem d_Lw_law_1021 : decode m_Lw_law.2.1 1021 = .ok (.iload_n 3, 1) := by decide +kernel
theorem d_Lw_law_1022 : decode m_Lw_law.2.1 1022 = .ok (.iconst 1, 1) := by decide +kernel
theorem d_Lw_law_1023 : decode m_Lw_law.2.1 1023 = .ok (.iadd, 1) := by decide +kernel
theorem d_Lw_law_1024 : decode m_Lw_law.2.1 1024 = .ok (.iaload, 1) := by decide +kernel
theorem d_Lw_law_1025 : decode m_Lw_law.2.1 1025 = .ok (.aload_n 0, 1) := by decide +kernel
theorem d_Lw_law_1026 : decode m_Lw_law.2.1 1026 = .ok (.iload_n 3, 1) := by decide +kernel
theorem d_Lw_law_1027 : decode m_Lw_law.2.1 1027 = .ok (.iconst 2, 1) := by decide +kernel
theorem d_Lw_law_1028 : decode m_Lw_law.2.1 1028 = .ok (.iadd, 1) := by decide +kernel
theorem d_Lw_law_1029 : decode m_Lw_law.2.1 1029 = .ok (.iaload, 1) := by decide +kernel
theorem d_Lw_law_1030 : decode m_Lw_law.2.1 1030 = .ok (.invokevirtual 119, 3) := by decide +kernel
theorem d_Lw_law_1033 : decode m_Lw_law.2.1 1033 = .ok (.if_icmp .eq 51, 3) := by decide +kernel
theorem d_Lw_law_1036 : decode m_Lw_law.2.1 1036 = .ok (.iconst 0, 1) := by decide +kernel
theorem d_Lw_law_1037 : decode m_Lw_law.2.1 1037 = .ok (.ireturn, 1) := by decide +kernel
theorem d_Lw_law_1038 : decode m_Lw_law.2.1 1038 = .ok (.aload_n 1, 1) := by decide +kernel
theorem d_Lw_law_1039 : decode m_Lw_law.2.1 1039 = .ok (.aload_n 0, 1) := by decide +kernel
theorem d_Lw_law_1040 : decode m_Lw_law.2.1 1040 = .ok (.iload_n 3, 1) := by decide +kernel
theorem d_Lw_law_1041 : decode m_Lw_law.2.1 1041 = .ok (.iconst 1, 1) := by decide +kernel
theorem d_Lw_law_1042 : decode m_Lw_law.2.1 1042 = .ok (.iadd, 1) := by decide +kernel
theorem d_Lw_law_1043 : decode m_Lw_law.2.1 1043 = .ok (.iaload, 1) := by decide +kernel
theorem d_Lw_law_1044 : decode m_Lw_law.2.1 1044 = .ok (.invokevirtual 120, 3) := by decide +kernel
theorem d_Lw_law_1047 : decode m_Lw_law.2.1 1047 = .ok (.aload_n 2, 1) := by decide +kernel
theorem d_Lw_law_1048 : decode m_Lw_law.2.1 1048 = .ok (.aload_n 0, 1) := by decide +kernel
theorem d_Lw_law_1049 : decode m_Lw_law.2.1 1049 = .ok (.iload_n 3, 1) := by decide +kernel
theorem d_Lw_law_1050 : decode m_Lw_law.2.1 1050 = .ok (.iconst 1, 1) := by decide +kernel
theorem d_Lw_law_1051 : decode m_Lw_law.2.1 1051 = .ok (.iadd, 1) := by decide +kernel
theorem d_Lw_law_1052 : decode m_Lw_law.2.1 1052 = .ok (.iaload, 1) := by decide +kernel
theorem d_Lw_law_1053 : decode m_Lw_law.2.1 1053 = .ok (.invokevirtual 123, 3) := by decide +kernel
theorem d_Lw_law_1056 : decode m_Lw_law.2.1 1056 = .ok (.if_icmp .eq 28, 3) := by decide +kernel
theorem d_Lw_law_1059 : decode m_Lw_law.2.1 1059 = .ok (.iconst 0, 1) := by decide +kernel
theorem d_Lw_law_1060 : decode m_Lw_law.2.1 1060 = .ok (.ireturn, 1) := by decide +kernel
theorem d_Lw_law_1061 : decode m_Lw_law.2.1 1061 = .ok (.aload_n 1, 1) := by decide +kernel
theorem d_Lw_law_1062 : decode m_Lw_law.2.1 1062 = .ok (.aload_n 0, 1) := by decide +kernel
theorem d_Lw_law_1063 : decode m_Lw_law.2.1 1063 = .ok (.iload_n 3, 1) := by decide +kernel
theorem d_Lw_law_1064 : decode m_Lw_law.2.1 1064 = .ok (.iconst 1, 1) := by decide +kernel
theorem d_Lw_law_1065 : decode m_Lw_law.2.1 1065 = .ok (.iadd, 1) := by decide +kernel
theorem d_Lw_law_1066 : decode m_Lw_law.2.1 1066 = .ok (.iaload, 1) := by decide +kernel
theorem d_Lw_law_1067 : decode m_Lw_law.2.1 1067 = .ok (.invokevirtual 124, 3) := by decide +kernel
theorem d_Lw_law_1070 : decode m_Lw_law.2.1 1070 = .ok (.aload_n 2, 1) := by decide +kernel
theorem d_Lw_law_1071 : decode m_Lw_law.2.1 1071 = .ok (.aload_n 0, 1) := by decide +kernel
theorem d_Lw_law_1072 : decode m_Lw_law.2.1 1072 = .ok (.iload_n 3, 1) := by decide +kernel
theorem d_Lw_law_1073 : decode m_Lw_law.2.1 1073 = .ok (.iconst 1, 1) := by decide +kernel
theorem d_Lw_law_1074 : decode m_Lw_law.2.1 1074 = .ok (.iadd, 1) := by decide +kernel
theorem d_Lw_law_1075 : decode m_Lw_law.2.1 1075 = .ok (.iaload, 1) := by decide +kernel
theorem d_Lw_law_1076 : decode m_Lw_law.2.1 1076 = .ok (.invokevirtual 127, 3) := by decide +kernel
theorem d_Lw_law_1079 : decode m_Lw_law.2.1 1079 = .ok (.if_icmp .eq 5, 3) := by decide +kernel
theorem d_Lw_law_1082 : decode m_Lw_law.2.1 1082 = .ok (.iconst 0, 1) := by decide +kernel
theorem d_Lw_law_1083 : decode m_Lw_law.2.1 1083 = .ok (.ireturn, 1) := by decide +kernel
theorem d_Lw_law_1084 : decode m_Lw_law.2.1 1084 = .ok (.iinc 3 7, 3) := by decide +kernel
theorem d_Lw_law_1087 : decode m_Lw_law.2.1 1087 = .ok (.goto (-1069), 3) := by decide +kernel
theorem d_Lw_law_1090 : decode m_Lw_law.2.1 1090 = .ok (.iconst 1, 1) := by decide +kernel
theorem d_Lw_law_1091 : decode m_Lw_law.2.1 1091 = .ok (.ireturn, 1) := by decide +kernel
theorem g_Lw_law_16 {X : XS}  (h : Hp) (Q : Option AV → Hp → Prop)  (k : Rn X m_Lw_law 18 [some (vR [2]), some (vR [0]), some (vR [1]), some (vI 0)] [] h Q) : Rn X m_Lw_law 16 [some (vR [2]), some (vR [0]), some (vR [1]), none] [] h Q := by
  refine Rn.iconst (n := 17) (v := 0) d_Lw_law_16 rfl (by decide) ?_
  refine Rn.istore_n (n := 18) (i := 3) (ls2 := [some (vR [2]), some (vR [0]), some (vR [1]), some (vI 0)]) d_Lw_law_17 rfl rfl (Nat.le_of_ble_eq_true rfl) rfl ?_
  exact k
theorem g_Lw_law_18 {X : XS} (a3 : Int32) (h : Hp) (Q : Option AV → Hp → Prop)  (k : ((((Int32.ofNat X.1) - 7) < a3 → Q (some (vI 1)) h) ∧ (¬ ((Int32.ofNat X.1) - 7) < a3 → (vp_in a3 X.1 ∧ ((((X.2 a3.toNatClampNeg) &&& 31).toInt < 0 ∨ 25 < ((X.2 a3.toNatClampNeg) &&& 31).toInt → Rn X m_Lw_law 1084 [some (vR [2]), some (vR [0]), some (vR [1]), some (vI a3)] [] h Q) ∧ (((X.2 a3.toNatClampNeg) &&& 31) = 0 → Rn X m_Lw_law 152 [some (vR [2]), some (vR [0]), some (vR [1]), some (vI a3)] [] h Q) ∧ (((X.2 a3.toNatClampNeg) &&& 31) = 1 → Rn X m_Lw_law 215 [some (vR [2]), some (vR [0]), some (vR [1]), some (vI a3)] [] h Q) ∧ (((X.2 a3.toNatClampNeg) &&& 31) = 2 → Rn X m_Lw_law 228 [some (vR [2]), some (vR [0]), some (vR [1]), some (vI a3)] [] h Q) ∧ (((X.2 a3.toNatClampNeg) &&& 31) = 3 → Rn X m_Lw_law 241 [some (vR [2]), some (vR [0]), some (vR [1]), some (vI a3)] [] h Q) ∧ (((X.2 a3.toNatClampNeg) &&& 31) = 4 → Rn X m_Lw_law 254 [some (vR [2]), some (vR [0]), some (vR [1]), some (vI a3)] [] h Q) ∧ (((X.2 a3.toNatClampNeg) &&& 31) = 5 → Rn X m_Lw_law 287 [some (vR [2]), some (vR [0]), some (vR [1]), some (vI a3)] [] h Q) ∧ (((X.2 a3.toNatClampNeg) &&& 31) = 6 → Rn X m_Lw_law 320 [some (vR [2]), some (vR [0]), some (vR [1]), some (vI a3)] [] h Q) ∧ (((X.2 a3.toNatClampNeg) &&& 31) = 7 → Rn X m_Lw_law 343 [some (vR [2]), some (vR [0]), some (vR [1]), some (vI a3)] [] h Q) ∧ (((X.2 a3.toNatClampNeg) &&& 31) = 8 → Rn X m_Lw_law 366 [some (vR [2]), some (vR [0]), some (vR [1]), some (vI a3)] [] h Q) ∧ (((X.2 a3.toNatClampNeg) &&& 31) = 9 → Rn X m_Lw_law 389 [some (vR [2]), some (vR [0]), some (vR [1]), some (vI a3)] [] h Q) ∧ (((X.2 a3.toNatClampNeg) &&& 31) = 10 → Rn X m_Lw_law 402 [some (vR [2]), some (vR [0]), some (vR [1]), some (vI a3)] [] h Q) ∧ (((X.2 a3.toNatClampNeg) &&& 31) = 11 → Rn X m_Lw_law 455 [some (vR [2]), some (vR [0]), some (vR [1]), some (vI a3)] [] h Q) ∧ (((X.2 a3.toNatClampNeg) &&& 31) = 12 → Rn X m_Lw_law 498 [some (vR [2]), some (vR [0]), some (vR [1]), some (vI a3)] [] h Q) ∧ (((X.2 a3.toNatClampNeg) &&& 31) = 13 → Rn X m_Lw_law 541 [some (vR [2]), some (vR [0]), some (vR [1]), some (vI a3)] [] h Q) ∧ (((X.2 a3.toNatClampNeg) &&& 31) = 14 → Rn X m_Lw_law 584 [some (vR [2]), some (vR [0]), some (vR [1]), some (vI a3)] [] h Q) ∧ (((X.2 a3.toNatClampNeg) &&& 31) = 15 → Rn X m_Lw_law 597 [some (vR [2]), some (vR [0]), some (vR [1]), some (vI a3)] [] h Q) ∧ (((X.2 a3.toNatClampNeg) &&& 31) = 16 → Rn X m_Lw_law 620 [some (vR [2]), some (vR [0]), some (vR [1]), some (vI a3)] [] h Q) ∧ (((X.2 a3.toNatClampNeg) &&& 31) = 17 → Rn X m_Lw_law 643 [some (vR [2]), some (vR [0]), some (vR [1]), some (vI a3)] [] h Q) ∧ (((X.2 a3.toNatClampNeg) &&& 31) = 18 → Rn X m_Lw_law 706 [some (vR [2]), some (vR [0]), some (vR [1]), some (vI a3)] [] h Q) ∧ (((X.2 a3.toNatClampNeg) &&& 31) = 19 → Rn X m_Lw_law 749 [some (vR [2]), some (vR [0]), some (vR [1]), some (vI a3)] [] h Q) ∧ (((X.2 a3.toNatClampNeg) &&& 31) = 20 → Rn X m_Lw_law 824 [some (vR [2]), some (vR [0]), some (vR [1]), some (vI a3)] [] h Q) ∧ (((X.2 a3.toNatClampNeg) &&& 31) = 21 → Rn X m_Lw_law 877 [some (vR [2]), some (vR [0]), some (vR [1]), some (vI a3)] [] h Q) ∧ (((X.2 a3.toNatClampNeg) &&& 31) = 22 → Rn X m_Lw_law 941 [some (vR [2]), some (vR [0]), some (vR [1]), some (vI a3)] [] h Q) ∧ (((X.2 a3.toNatClampNeg) &&& 31) = 23 → Rn X m_Lw_law 1005 [some (vR [2]), some (vR [0]), some (vR [1]), some (vI a3)] [] h Q) ∧ (((X.2 a3.toNatClampNeg) &&& 31) = 24 → Rn X m_Lw_law 1038 [some (vR [2]), some (vR [0]), some (vR [1]), some (vI a3)] [] h Q) ∧ (((X.2 a3.toNatClampNeg) &&& 31) = 25 → Rn X m_Lw_law 1061 [some (vR [2]), some (vR [0]), some (vR [1]), some (vI a3)] [] h Q)))))) : Rn X m_Lw_law 18 [some (vR [2]), some (vR [0]), some (vR [1]), some (vI a3)] [] h Q := by
  refine Rn.iload_n (n := 19) (i := 3) d_Lw_law_18 rfl rfl rfl ?_
  refine Rn.aload_n (n := 20) (i := 0) d_Lw_law_19 rfl rfl rfl ?_
  refine Rn.slen (n := 21) d_Lw_law_20 rfl ?_
  refine Rn.bipush (n := 23) (v := 7) d_Lw_law_21 rfl (by decide) ?_
  refine Rn.isub (n := 24) d_Lw_law_23 rfl ?_
  refine Rn.icmp_gt (n := 27) (t := 1090) d_Lw_law_24 rfl (by decide) (fun cc => ?_) (fun cc => ?_)
  · have k := k.1 cc
    refine Rn.iconst (n := 1091) (v := 1) d_Lw_law_1090 rfl (by decide) ?_
    exact Rn.iret d_Lw_law_1091 rfl (by rfl) k
  · have k := k.2 cc
    refine Rn.aload_n (n := 28) (i := 0) d_Lw_law_27 rfl rfl rfl ?_
    refine Rn.iload_n (n := 29) (i := 3) d_Lw_law_28 rfl rfl rfl ?_
    obtain ⟨b1, k⟩ := k
    refine Rn.sld (n := 30) d_Lw_law_29 rfl b1 ?_
    refine Rn.bipush (n := 32) (v := 31) d_Lw_law_30 rfl (by decide) ?_
    refine Rn.iand (n := 33) d_Lw_law_32 rfl ?_
    refine Rn.tsw (n := 0) d_Lw_law_33 (fun cc => ⟨1084, by decide, ?_⟩) (fun j hz1 hz2 hz3 => ?_)
    · have k := k.1 cc
      exact k
    · have k := k.2
      have hj : j < 26 := by omega
      match j, hj, hz3 with
      | 0, _, hz3 =>
        have cc : ((X.2 a3.toNatClampNeg) &&& 31) = 0 := Int32.toInt_inj.mp hz3
        have k := k.1 cc
        refine ⟨119, 152, rfl, by decide, ?_⟩
        exact k
      | 1, _, hz3 =>
        have cc : ((X.2 a3.toNatClampNeg) &&& 31) = 1 := Int32.toInt_inj.mp hz3
        have k := k.2.1 cc
        refine ⟨182, 215, rfl, by decide, ?_⟩
        exact k
      | 2, _, hz3 =>
        have cc : ((X.2 a3.toNatClampNeg) &&& 31) = 2 := Int32.toInt_inj.mp hz3
        have k := k.2.2.1 cc
        refine ⟨195, 228, rfl, by decide, ?_⟩
        exact k
      | 3, _, hz3 =>
        have cc : ((X.2 a3.toNatClampNeg) &&& 31) = 3 := Int32.toInt_inj.mp hz3
        have k := k.2.2.2.1 cc
        refine ⟨208, 241, rfl, by decide, ?_⟩
        exact k
      | 4, _, hz3 =>
        have cc : ((X.2 a3.toNatClampNeg) &&& 31) = 4 := Int32.toInt_inj.mp hz3
        have k := k.2.2.2.2.1 cc
        refine ⟨221, 254, rfl, by decide, ?_⟩
        exact k
      | 5, _, hz3 =>
        have cc : ((X.2 a3.toNatClampNeg) &&& 31) = 5 := Int32.toInt_inj.mp hz3
        have k := k.2.2.2.2.2.1 cc
        refine ⟨254, 287, rfl, by decide, ?_⟩
        exact k
      | 6, _, hz3 =>
        have cc : ((X.2 a3.toNatClampNeg) &&& 31) = 6 := Int32.toInt_inj.mp hz3
        have k := k.2.2.2.2.2.2.1 cc
        refine ⟨287, 320, rfl, by decide, ?_⟩
        exact k
      | 7, _, hz3 =>
        have cc : ((X.2 a3.toNatClampNeg) &&& 31) = 7 := Int32.toInt_inj.mp hz3
        have k := k.2.2.2.2.2.2.2.1 cc
        refine ⟨310, 343, rfl, by decide, ?_⟩
        exact k
      | 8, _, hz3 =>
        have cc : ((X.2 a3.toNatClampNeg) &&& 31) = 8 := Int32.toInt_inj.mp hz3
        have k := k.2.2.2.2.2.2.2.2.1 cc
        refine ⟨333, 366, rfl, by decide, ?_⟩
        exact k
      | 9, _, hz3 =>
        have cc : ((X.2 a3.toNatClampNeg) &&& 31) = 9 := Int32.toInt_inj.mp hz3
        have k := k.2.2.2.2.2.2.2.2.2.1 cc
        refine ⟨356, 389, rfl, by decide, ?_⟩
        exact k
      | 10, _, hz3 =>
        have cc : ((X.2 a3.toNatClampNeg) &&& 31) = 10 := Int32.toInt_inj.mp hz3
        have k := k.2.2.2.2.2.2.2.2.2.2.1 cc
        refine ⟨369, 402, rfl, by decide, ?_⟩
        exact k
      | 11, _, hz3 =>
        have cc : ((X.2 a3.toNatClampNeg) &&& 31) = 11 := Int32.toInt_inj.mp hz3
        have k := k.2.2.2.2.2.2.2.2.2.2.2.1 cc
        refine ⟨422, 455, rfl, by decide, ?_⟩
        exact k
      | 12, _, hz3 =>
        have cc : ((X.2 a3.toNatClampNeg) &&& 31) = 12 := Int32.toInt_inj.mp hz3
        have k := k.2.2.2.2.2.2.2.2.2.2.2.2.1 cc
        refine ⟨465, 498, rfl, by decide, ?_⟩
        exact k
      | 13, _, hz3 =>
        have cc : ((X.2 a3.toNatClampNeg) &&& 31) = 13 := Int32.toInt_inj.mp hz3
        have k := k.2.2.2.2.2.2.2.2.2.2.2.2.2.1 cc
        refine ⟨508, 541, rfl, by decide, ?_⟩
        exact k
      | 14, _, hz3 =>
        have cc : ((X.2 a3.toNatClampNeg) &&& 31) = 14 := Int32.toInt_inj.mp hz3
        have k := k.2.2.2.2.2.2.2.2.2.2.2.2.2.2.1 cc
        refine ⟨551, 584, rfl, by decide, ?_⟩
        exact k
      | 15, _, hz3 =>
        have cc : ((X.2 a3.toNatClampNeg) &&& 31) = 15 := Int32.toInt_inj.mp hz3
        have k := k.2.2.2.2.2.2.2.2.2.2.2.2.2.2.2.1 cc
        refine ⟨564, 597, rfl, by decide, ?_⟩
        exact k
      | 16, _, hz3 =>
        have cc : ((X.2 a3.toNatClampNeg) &&& 31) = 16 := Int32.toInt_inj.mp hz3
        have k := k.2.2.2.2.2.2.2.2.2.2.2.2.2.2.2.2.1 cc
        refine ⟨587, 620, rfl, by decide, ?_⟩
        exact k
      | 17, _, hz3 =>
        have cc : ((X.2 a3.toNatClampNeg) &&& 31) = 17 := Int32.toInt_inj.mp hz3
        have k := k.2.2.2.2.2.2.2.2.2.2.2.2.2.2.2.2.2.1 cc
        refine ⟨610, 643, rfl, by decide, ?_⟩
        exact k
      | 18, _, hz3 =>
        have cc : ((X.2 a3.toNatClampNeg) &&& 31) = 18 := Int32.toInt_inj.mp hz3
        have k := k.2.2.2.2.2.2.2.2.2.2.2.2.2.2.2.2.2.2.1 cc
        refine ⟨673, 706, rfl, by decide, ?_⟩
        exact k
      | 19, _, hz3 =>
        have cc : ((X.2 a3.toNatClampNeg) &&& 31) = 19 := Int32.toInt_inj.mp hz3
        have k := k.2.2.2.2.2.2.2.2.2.2.2.2.2.2.2.2.2.2.2.1 cc
        refine ⟨716, 749, rfl, by decide, ?_⟩
        exact k
      | 20, _, hz3 =>
        have cc : ((X.2 a3.toNatClampNeg) &&& 31) = 20 := Int32.toInt_inj.mp hz3
        have k := k.2.2.2.2.2.2.2.2.2.2.2.2.2.2.2.2.2.2.2.2.1 cc
        refine ⟨791, 824, rfl, by decide, ?_⟩
        exact k
      | 21, _, hz3 =>
        have cc : ((X.2 a3.toNatClampNeg) &&& 31) = 21 := Int32.toInt_inj.mp hz3
        have k := k.2.2.2.2.2.2.2.2.2.2.2.2.2.2.2.2.2.2.2.2.2.1 cc
        refine ⟨844, 877, rfl, by decide, ?_⟩
        exact k
      | 22, _, hz3 =>
        have cc : ((X.2 a3.toNatClampNeg) &&& 31) = 22 := Int32.toInt_inj.mp hz3
        have k := k.2.2.2.2.2.2.2.2.2.2.2.2.2.2.2.2.2.2.2.2.2.2.1 cc
        refine ⟨908, 941, rfl, by decide, ?_⟩
        exact k
      | 23, _, hz3 =>
        have cc : ((X.2 a3.toNatClampNeg) &&& 31) = 23 := Int32.toInt_inj.mp hz3
        have k := k.2.2.2.2.2.2.2.2.2.2.2.2.2.2.2.2.2.2.2.2.2.2.2.1 cc
        refine ⟨972, 1005, rfl, by decide, ?_⟩
        exact k
      | 24, _, hz3 =>
        have cc : ((X.2 a3.toNatClampNeg) &&& 31) = 24 := Int32.toInt_inj.mp hz3
        have k := k.2.2.2.2.2.2.2.2.2.2.2.2.2.2.2.2.2.2.2.2.2.2.2.2.1 cc
        refine ⟨1005, 1038, rfl, by decide, ?_⟩
        exact k
      | 25, _, hz3 =>
        have cc : ((X.2 a3.toNatClampNeg) &&& 31) = 25 := Int32.toInt_inj.mp hz3
        have k := k.2.2.2.2.2.2.2.2.2.2.2.2.2.2.2.2.2.2.2.2.2.2.2.2.2 cc
        refine ⟨1028, 1061, rfl, by decide, ?_⟩
        exact k
      | j + 26, hj, _ => exact absurd hj (by omega)
theorem g_Lw_law_152 {X : XS} (a3 : Int32) (h : Hp) (Q : Option AV → Hp → Prop)  (k : (vp_in (a3 + 1) X.1 ∧ (vp_in (a3 + 2) X.1 ∧ (vp_in (a3 + 3) X.1 ∧ (∃ Q'7, EvI X m_Us_write [vR [0], vL ((lShl ((X.2 (a3 + 1).toNatClampNeg).toInt64) 32) ||| (((X.2 (a3 + 2).toNatClampNeg).toInt64) &&& 4294967295)), vI (X.2 (a3 + 3).toNatClampNeg)] h Q'7 ∧ ∀ (r8 : Int32) (h6 : Hp), Q'7 r8 h6 → (vp_in (a3 + 1) X.1 ∧ (vp_in (a3 + 2) X.1 ∧ (vp_in (a3 + 3) X.1 ∧ (∃ Q'15, EvI X m_Rf_write [vR [1], vL ((lShl ((X.2 (a3 + 1).toNatClampNeg).toInt64) 32) ||| (((X.2 (a3 + 2).toNatClampNeg).toInt64) &&& 4294967295)), vI (X.2 (a3 + 3).toNatClampNeg)] h6 Q'15 ∧ ∀ (r16 : Int32) (h14 : Hp), Q'15 r16 h14 → ((r8 = r16 → Rn X m_Lw_law 1084 [some (vR [2]), some (vR [0]), some (vR [1]), some (vI a3)] [] h14 Q) ∧ (¬ r8 = r16 → Q (some (vI 0)) h14))))))))))) : Rn X m_Lw_law 152 [some (vR [2]), some (vR [0]), some (vR [1]), some (vI a3)] [] h Q := by
  refine Rn.aload_n (n := 153) (i := 1) d_Lw_law_152 rfl rfl rfl ?_
  refine Rn.aload_n (n := 154) (i := 0) d_Lw_law_153 rfl rfl rfl ?_
  refine Rn.iload_n (n := 155) (i := 3) d_Lw_law_154 rfl rfl rfl ?_
  refine Rn.iconst (n := 156) (v := 1) d_Lw_law_155 rfl (by decide) ?_
  refine Rn.iadd (n := 157) d_Lw_law_156 rfl ?_
  obtain ⟨b1, k⟩ := k
  refine Rn.sld (n := 158) d_Lw_law_157 rfl b1 ?_
  refine Rn.i2l (n := 159) d_Lw_law_158 rfl ?_
  refine Rn.bipush (n := 161) (v := 32) d_Lw_law_159 rfl (by decide) ?_
  refine Rn.lshl (n := 162) d_Lw_law_161 rfl ?_
  refine Rn.aload_n (n := 163) (i := 0) d_Lw_law_162 rfl rfl rfl ?_
  refine Rn.iload_n (n := 164) (i := 3) d_Lw_law_163 rfl rfl rfl ?_
  refine Rn.iconst (n := 165) (v := 2) d_Lw_law_164 rfl (by decide) ?_
  refine Rn.iadd (n := 166) d_Lw_law_165 rfl ?_
  obtain ⟨b2, k⟩ := k
  refine Rn.sld (n := 167) d_Lw_law_166 rfl b2 ?_
  refine Rn.i2l (n := 168) d_Lw_law_167 rfl ?_
  refine Rn.ldc2 (n := 171) (v := 4294967295) d_Lw_law_168 rfl cl_Lw_13 ?_
  refine Rn.land (n := 172) d_Lw_law_171 rfl ?_
  refine Rn.lor (n := 173) d_Lw_law_172 rfl ?_
  refine Rn.aload_n (n := 174) (i := 0) d_Lw_law_173 rfl rfl rfl ?_
  refine Rn.iload_n (n := 175) (i := 3) d_Lw_law_174 rfl rfl rfl ?_
  refine Rn.iconst (n := 176) (v := 3) d_Lw_law_175 rfl (by decide) ?_
  refine Rn.iadd (n := 177) d_Lw_law_176 rfl ?_
  obtain ⟨b3, k⟩ := k
  refine Rn.sld (n := 178) d_Lw_law_177 rfl b3 ?_
  obtain ⟨Q'7, ev4, k⟩ := k
  refine Rn.callV (n := 181) (av := [vL ((lShl ((X.2 (a3 + 1).toNatClampNeg).toInt64) 32) ||| (((X.2 (a3 + 2).toNatClampNeg).toInt64) &&& 4294967295)), vI (X.2 (a3 + 3).toNatClampNeg)]) d_Lw_law_178 rfl ml_Lw_law_15 mi_Us_write Lv_0 rfl rfl rfl rfl (Nat.le_of_ble_eq_true rfl) ev4 (fun v h6 hq => ?_)
  obtain ⟨r8, rfl, hq⟩ := hq
  have k := k r8 h6 hq
  show Rn X m_Lw_law 181 [some (vR [2]), some (vR [0]), some (vR [1]), some (vI a3)] [vI r8] h6 Q
  refine Rn.aload_n (n := 182) (i := 2) d_Lw_law_181 rfl rfl rfl ?_
  refine Rn.aload_n (n := 183) (i := 0) d_Lw_law_182 rfl rfl rfl ?_
  refine Rn.iload_n (n := 184) (i := 3) d_Lw_law_183 rfl rfl rfl ?_
  refine Rn.iconst (n := 185) (v := 1) d_Lw_law_184 rfl (by decide) ?_
  refine Rn.iadd (n := 186) d_Lw_law_185 rfl ?_
  obtain ⟨b9, k⟩ := k
  refine Rn.sld (n := 187) d_Lw_law_186 rfl b9 ?_
  refine Rn.i2l (n := 188) d_Lw_law_187 rfl ?_
  refine Rn.bipush (n := 190) (v := 32) d_Lw_law_188 rfl (by decide) ?_
  refine Rn.lshl (n := 191) d_Lw_law_190 rfl ?_
  refine Rn.aload_n (n := 192) (i := 0) d_Lw_law_191 rfl rfl rfl ?_
  refine Rn.iload_n (n := 193) (i := 3) d_Lw_law_192 rfl rfl rfl ?_
  refine Rn.iconst (n := 194) (v := 2) d_Lw_law_193 rfl (by decide) ?_
  refine Rn.iadd (n := 195) d_Lw_law_194 rfl ?_
  obtain ⟨b10, k⟩ := k
  refine Rn.sld (n := 196) d_Lw_law_195 rfl b10 ?_
  refine Rn.i2l (n := 197) d_Lw_law_196 rfl ?_
  refine Rn.ldc2 (n := 200) (v := 4294967295) d_Lw_law_197 rfl cl_Lw_13 ?_
  refine Rn.land (n := 201) d_Lw_law_200 rfl ?_
  refine Rn.lor (n := 202) d_Lw_law_201 rfl ?_
  refine Rn.aload_n (n := 203) (i := 0) d_Lw_law_202 rfl rfl rfl ?_
  refine Rn.iload_n (n := 204) (i := 3) d_Lw_law_203 rfl rfl rfl ?_
  refine Rn.iconst (n := 205) (v := 3) d_Lw_law_204 rfl (by decide) ?_
  refine Rn.iadd (n := 206) d_Lw_law_205 rfl ?_
  obtain ⟨b11, k⟩ := k
  refine Rn.sld (n := 207) d_Lw_law_206 rfl b11 ?_
  obtain ⟨Q'15, ev12, k⟩ := k
  refine Rn.callV (n := 210) (av := [vL ((lShl ((X.2 (a3 + 1).toNatClampNeg).toInt64) 32) ||| (((X.2 (a3 + 2).toNatClampNeg).toInt64) &&& 4294967295)), vI (X.2 (a3 + 3).toNatClampNeg)]) d_Lw_law_207 rfl ml_Lw_law_19 mi_Rf_write Lv_1 rfl rfl rfl rfl (Nat.le_of_ble_eq_true rfl) ev12 (fun v h14 hq => ?_)
  obtain ⟨r16, rfl, hq⟩ := hq
  have k := k r16 h14 hq
  show Rn X m_Lw_law 210 [some (vR [2]), some (vR [0]), some (vR [1]), some (vI a3)] [vI r16, vI r8] h14 Q
  refine Rn.icmp_eq (n := 213) (t := 1084) d_Lw_law_210 rfl (by decide) (fun cc => ?_) (fun cc => ?_)
  · have k := k.1 cc
    exact k
  · have k := k.2 cc
    refine Rn.iconst (n := 214) (v := 0) d_Lw_law_213 rfl (by decide) ?_
    exact Rn.iret d_Lw_law_214 rfl (by rfl) k
theorem g_Lw_law_215 {X : XS} (a3 : Int32) (h : Hp) (Q : Option AV → Hp → Prop)  (k : (∃ Q'4, EvI X m_Us_erase [vR [0]] h Q'4 ∧ ∀ (r5 : Int32) (h3 : Hp), Q'4 r5 h3 → (∃ Q'9, EvI X m_Rf_erase [vR [1]] h3 Q'9 ∧ ∀ (r10 : Int32) (h8 : Hp), Q'9 r10 h8 → ((r5 = r10 → Rn X m_Lw_law 1084 [some (vR [2]), some (vR [0]), some (vR [1]), some (vI a3)] [] h8 Q) ∧ (¬ r5 = r10 → Q (some (vI 0)) h8))))) : Rn X m_Lw_law 215 [some (vR [2]), some (vR [0]), some (vR [1]), some (vI a3)] [] h Q := by
  refine Rn.aload_n (n := 216) (i := 1) d_Lw_law_215 rfl rfl rfl ?_
  obtain ⟨Q'4, ev1, k⟩ := k
  refine Rn.callV (n := 219) (av := []) d_Lw_law_216 rfl ml_Lw_law_20 mi_Us_erase Lv_0 rfl rfl rfl rfl (Nat.le_of_ble_eq_true rfl) ev1 (fun v h3 hq => ?_)
  obtain ⟨r5, rfl, hq⟩ := hq
  have k := k r5 h3 hq
  show Rn X m_Lw_law 219 [some (vR [2]), some (vR [0]), some (vR [1]), some (vI a3)] [vI r5] h3 Q
  refine Rn.aload_n (n := 220) (i := 2) d_Lw_law_219 rfl rfl rfl ?_
  obtain ⟨Q'9, ev6, k⟩ := k
  refine Rn.callV (n := 223) (av := []) d_Lw_law_220 rfl ml_Lw_law_24 mi_Rf_erase Lv_1 rfl rfl rfl rfl (Nat.le_of_ble_eq_true rfl) ev6 (fun v h8 hq => ?_)
  obtain ⟨r10, rfl, hq⟩ := hq
  have k := k r10 h8 hq
  show Rn X m_Lw_law 223 [some (vR [2]), some (vR [0]), some (vR [1]), some (vI a3)] [vI r10, vI r5] h8 Q
  refine Rn.icmp_eq (n := 226) (t := 1084) d_Lw_law_223 rfl (by decide) (fun cc => ?_) (fun cc => ?_)
  · have k := k.1 cc
    exact k
  · have k := k.2 cc
    refine Rn.iconst (n := 227) (v := 0) d_Lw_law_226 rfl (by decide) ?_
    exact Rn.iret d_Lw_law_227 rfl (by rfl) k
theorem g_Lw_law_228 {X : XS} (a3 : Int32) (h : Hp) (Q : Option AV → Hp → Prop)  (k : (∃ Q'4, EvI X m_Us_fault [vR [0]] h Q'4 ∧ ∀ (r5 : Int32) (h3 : Hp), Q'4 r5 h3 → (∃ Q'9, EvI X m_Rf_fault [vR [1]] h3 Q'9 ∧ ∀ (r10 : Int32) (h8 : Hp), Q'9 r10 h8 → ((r5 = r10 → Rn X m_Lw_law 1084 [some (vR [2]), some (vR [0]), some (vR [1]), some (vI a3)] [] h8 Q) ∧ (¬ r5 = r10 → Q (some (vI 0)) h8))))) : Rn X m_Lw_law 228 [some (vR [2]), some (vR [0]), some (vR [1]), some (vI a3)] [] h Q := by
  refine Rn.aload_n (n := 229) (i := 1) d_Lw_law_228 rfl rfl rfl ?_
  obtain ⟨Q'4, ev1, k⟩ := k
  refine Rn.callV (n := 232) (av := []) d_Lw_law_229 rfl ml_Lw_law_25 mi_Us_fault Lv_0 rfl rfl rfl rfl (Nat.le_of_ble_eq_true rfl) ev1 (fun v h3 hq => ?_)
  obtain ⟨r5, rfl, hq⟩ := hq
  have k := k r5 h3 hq
  show Rn X m_Lw_law 232 [some (vR [2]), some (vR [0]), some (vR [1]), some (vI a3)] [vI r5] h3 Q
  refine Rn.aload_n (n := 233) (i := 2) d_Lw_law_232 rfl rfl rfl ?_
  obtain ⟨Q'9, ev6, k⟩ := k
  refine Rn.callV (n := 236) (av := []) d_Lw_law_233 rfl ml_Lw_law_28 mi_Rf_fault Lv_1 rfl rfl rfl rfl (Nat.le_of_ble_eq_true rfl) ev6 (fun v h8 hq => ?_)
  obtain ⟨r10, rfl, hq⟩ := hq
  have k := k r10 h8 hq
  show Rn X m_Lw_law 236 [some (vR [2]), some (vR [0]), some (vR [1]), some (vI a3)] [vI r10, vI r5] h8 Q
  refine Rn.icmp_eq (n := 239) (t := 1084) d_Lw_law_236 rfl (by decide) (fun cc => ?_) (fun cc => ?_)
  · have k := k.1 cc
    exact k
  · have k := k.2 cc
    refine Rn.iconst (n := 240) (v := 0) d_Lw_law_239 rfl (by decide) ?_
    exact Rn.iret d_Lw_law_240 rfl (by rfl) k
theorem g_Lw_law_241 {X : XS} (a3 : Int32) (h : Hp) (Q : Option AV → Hp → Prop)  (k : (∃ Q'4, EvI X m_Us_shower [vR [0]] h Q'4 ∧ ∀ (r5 : Int32) (h3 : Hp), Q'4 r5 h3 → (∃ Q'9, EvI X m_Rf_shower [vR [1]] h3 Q'9 ∧ ∀ (r10 : Int32) (h8 : Hp), Q'9 r10 h8 → ((r5 = r10 → Rn X m_Lw_law 1084 [some (vR [2]), some (vR [0]), some (vR [1]), some (vI a3)] [] h8 Q) ∧ (¬ r5 = r10 → Q (some (vI 0)) h8))))) : Rn X m_Lw_law 241 [some (vR [2]), some (vR [0]), some (vR [1]), some (vI a3)] [] h Q := by
  refine Rn.aload_n (n := 242) (i := 1) d_Lw_law_241 rfl rfl rfl ?_
  obtain ⟨Q'4, ev1, k⟩ := k
  refine Rn.callV (n := 245) (av := []) d_Lw_law_242 rfl ml_Lw_law_29 mi_Us_shower Lv_0 rfl rfl rfl rfl (Nat.le_of_ble_eq_true rfl) ev1 (fun v h3 hq => ?_)
  obtain ⟨r5, rfl, hq⟩ := hq
  have k := k r5 h3 hq
  show Rn X m_Lw_law 245 [some (vR [2]), some (vR [0]), some (vR [1]), some (vI a3)] [vI r5] h3 Q
  refine Rn.aload_n (n := 246) (i := 2) d_Lw_law_245 rfl rfl rfl ?_
  obtain ⟨Q'9, ev6, k⟩ := k
  refine Rn.callV (n := 249) (av := []) d_Lw_law_246 rfl ml_Lw_law_32 mi_Rf_shower Lv_1 rfl rfl rfl rfl (Nat.le_of_ble_eq_true rfl) ev6 (fun v h8 hq => ?_)
  obtain ⟨r10, rfl, hq⟩ := hq
  have k := k r10 h8 hq
  show Rn X m_Lw_law 249 [some (vR [2]), some (vR [0]), some (vR [1]), some (vI a3)] [vI r10, vI r5] h8 Q
  refine Rn.icmp_eq (n := 252) (t := 1084) d_Lw_law_249 rfl (by decide) (fun cc => ?_) (fun cc => ?_)
  · have k := k.1 cc
    exact k
  · have k := k.2 cc
    refine Rn.iconst (n := 253) (v := 0) d_Lw_law_252 rfl (by decide) ?_
    exact Rn.iret d_Lw_law_253 rfl (by rfl) k
theorem g_Lw_law_254 {X : XS} (a3 : Int32) (h : Hp) (Q : Option AV → Hp → Prop)  (k : (vp_in (a3 + 1) X.1 ∧ (vp_in (a3 + 2) X.1 ∧ (∃ Q'6, EvI X m_Us_cell [vR [0], vI (X.2 (a3 + 1).toNatClampNeg), vI (X.2 (a3 + 2).toNatClampNeg)] h Q'6 ∧ ∀ (r7 : Int32) (h5 : Hp), Q'6 r7 h5 → (vp_in (a3 + 1) X.1 ∧ (vp_in (a3 + 2) X.1 ∧ (∃ Q'13, EvI X m_Rf_cell [vR [1], vI (X.2 (a3 + 1).toNatClampNeg), vI (X.2 (a3 + 2).toNatClampNeg)] h5 Q'13 ∧ ∀ (r14 : Int32) (h12 : Hp), Q'13 r14 h12 → ((r7 = r14 → Rn X m_Lw_law 1084 [some (vR [2]), some (vR [0]), some (vR [1]), some (vI a3)] [] h12 Q) ∧ (¬ r7 = r14 → Q (some (vI 0)) h12))))))))) : Rn X m_Lw_law 254 [some (vR [2]), some (vR [0]), some (vR [1]), some (vI a3)] [] h Q := by
  refine Rn.aload_n (n := 255) (i := 1) d_Lw_law_254 rfl rfl rfl ?_
  refine Rn.aload_n (n := 256) (i := 0) d_Lw_law_255 rfl rfl rfl ?_
  refine Rn.iload_n (n := 257) (i := 3) d_Lw_law_256 rfl rfl rfl ?_
  refine Rn.iconst (n := 258) (v := 1) d_Lw_law_257 rfl (by decide) ?_
  refine Rn.iadd (n := 259) d_Lw_law_258 rfl ?_
  obtain ⟨b1, k⟩ := k
  refine Rn.sld (n := 260) d_Lw_law_259 rfl b1 ?_
  refine Rn.aload_n (n := 261) (i := 0) d_Lw_law_260 rfl rfl rfl ?_
  refine Rn.iload_n (n := 262) (i := 3) d_Lw_law_261 rfl rfl rfl ?_
  refine Rn.iconst (n := 263) (v := 2) d_Lw_law_262 rfl (by decide) ?_
  refine Rn.iadd (n := 264) d_Lw_law_263 rfl ?_
  obtain ⟨b2, k⟩ := k
  refine Rn.sld (n := 265) d_Lw_law_264 rfl b2 ?_
  obtain ⟨Q'6, ev3, k⟩ := k
  refine Rn.callV (n := 268) (av := [vI (X.2 (a3 + 1).toNatClampNeg), vI (X.2 (a3 + 2).toNatClampNeg)]) d_Lw_law_265 rfl ml_Lw_law_33 mi_Us_cell Lv_0 rfl rfl rfl rfl (Nat.le_of_ble_eq_true rfl) ev3 (fun v h5 hq => ?_)
  obtain ⟨r7, rfl, hq⟩ := hq
  have k := k r7 h5 hq
  show Rn X m_Lw_law 268 [some (vR [2]), some (vR [0]), some (vR [1]), some (vI a3)] [vI r7] h5 Q
  refine Rn.aload_n (n := 269) (i := 2) d_Lw_law_268 rfl rfl rfl ?_
  refine Rn.aload_n (n := 270) (i := 0) d_Lw_law_269 rfl rfl rfl ?_
  refine Rn.iload_n (n := 271) (i := 3) d_Lw_law_270 rfl rfl rfl ?_
  refine Rn.iconst (n := 272) (v := 1) d_Lw_law_271 rfl (by decide) ?_
  refine Rn.iadd (n := 273) d_Lw_law_272 rfl ?_
  obtain ⟨b8, k⟩ := k
  refine Rn.sld (n := 274) d_Lw_law_273 rfl b8 ?_
  refine Rn.aload_n (n := 275) (i := 0) d_Lw_law_274 rfl rfl rfl ?_
  refine Rn.iload_n (n := 276) (i := 3) d_Lw_law_275 rfl rfl rfl ?_
  refine Rn.iconst (n := 277) (v := 2) d_Lw_law_276 rfl (by decide) ?_
  refine Rn.iadd (n := 278) d_Lw_law_277 rfl ?_
  obtain ⟨b9, k⟩ := k
  refine Rn.sld (n := 279) d_Lw_law_278 rfl b9 ?_
  obtain ⟨Q'13, ev10, k⟩ := k
  refine Rn.callV (n := 282) (av := [vI (X.2 (a3 + 1).toNatClampNeg), vI (X.2 (a3 + 2).toNatClampNeg)]) d_Lw_law_279 rfl ml_Lw_law_37 mi_Rf_cell Lv_1 rfl rfl rfl rfl (Nat.le_of_ble_eq_true rfl) ev10 (fun v h12 hq => ?_)
  obtain ⟨r14, rfl, hq⟩ := hq
  have k := k r14 h12 hq
  show Rn X m_Lw_law 282 [some (vR [2]), some (vR [0]), some (vR [1]), some (vI a3)] [vI r14, vI r7] h12 Q
  refine Rn.icmp_eq (n := 285) (t := 1084) d_Lw_law_282 rfl (by decide) (fun cc => ?_) (fun cc => ?_)
  · have k := k.1 cc
    exact k
  · have k := k.2 cc
    refine Rn.iconst (n := 286) (v := 0) d_Lw_law_285 rfl (by decide) ?_
    exact Rn.iret d_Lw_law_286 rfl (by rfl) k
theorem g_Lw_law_287 {X : XS} (a3 : Int32) (h : Hp) (Q : Option AV → Hp → Prop)  (k : (vp_in (a3 + 1) X.1 ∧ (vp_in (a3 + 2) X.1 ∧ (∃ Q'6, EvI X m_Us_walker [vR [0], vI (X.2 (a3 + 1).toNatClampNeg), vI (X.2 (a3 + 2).toNatClampNeg)] h Q'6 ∧ ∀ (r7 : Int32) (h5 : Hp), Q'6 r7 h5 → (vp_in (a3 + 1) X.1 ∧ (vp_in (a3 + 2) X.1 ∧ (∃ Q'13, EvI X m_Rf_walker [vR [1], vI (X.2 (a3 + 1).toNatClampNeg), vI (X.2 (a3 + 2).toNatClampNeg)] h5 Q'13 ∧ ∀ (r14 : Int32) (h12 : Hp), Q'13 r14 h12 → ((r7 = r14 → Rn X m_Lw_law 1084 [some (vR [2]), some (vR [0]), some (vR [1]), some (vI a3)] [] h12 Q) ∧ (¬ r7 = r14 → Q (some (vI 0)) h12))))))))) : Rn X m_Lw_law 287 [some (vR [2]), some (vR [0]), some (vR [1]), some (vI a3)] [] h Q := by
  refine Rn.aload_n (n := 288) (i := 1) d_Lw_law_287 rfl rfl rfl ?_
  refine Rn.aload_n (n := 289) (i := 0) d_Lw_law_288 rfl rfl rfl ?_
  refine Rn.iload_n (n := 290) (i := 3) d_Lw_law_289 rfl rfl rfl ?_
  refine Rn.iconst (n := 291) (v := 1) d_Lw_law_290 rfl (by decide) ?_
  refine Rn.iadd (n := 292) d_Lw_law_291 rfl ?_
  obtain ⟨b1, k⟩ := k
  refine Rn.sld (n := 293) d_Lw_law_292 rfl b1 ?_
  refine Rn.aload_n (n := 294) (i := 0) d_Lw_law_293 rfl rfl rfl ?_
  refine Rn.iload_n (n := 295) (i := 3) d_Lw_law_294 rfl rfl rfl ?_
  refine Rn.iconst (n := 296) (v := 2) d_Lw_law_295 rfl (by decide) ?_
  refine Rn.iadd (n := 297) d_Lw_law_296 rfl ?_
  obtain ⟨b2, k⟩ := k
  refine Rn.sld (n := 298) d_Lw_law_297 rfl b2 ?_
  obtain ⟨Q'6, ev3, k⟩ := k
  refine Rn.callV (n := 301) (av := [vI (X.2 (a3 + 1).toNatClampNeg), vI (X.2 (a3 + 2).toNatClampNeg)]) d_Lw_law_298 rfl ml_Lw_law_38 mi_Us_walker Lv_0 rfl rfl rfl rfl (Nat.le_of_ble_eq_true rfl) ev3 (fun v h5 hq => ?_)
  obtain ⟨r7, rfl, hq⟩ := hq
  have k := k r7 h5 hq
  show Rn X m_Lw_law 301 [some (vR [2]), some (vR [0]), some (vR [1]), some (vI a3)] [vI r7] h5 Q
  refine Rn.aload_n (n := 302) (i := 2) d_Lw_law_301 rfl rfl rfl ?_
  refine Rn.aload_n (n := 303) (i := 0) d_Lw_law_302 rfl rfl rfl ?_
  refine Rn.iload_n (n := 304) (i := 3) d_Lw_law_303 rfl rfl rfl ?_
  refine Rn.iconst (n := 305) (v := 1) d_Lw_law_304 rfl (by decide) ?_
  refine Rn.iadd (n := 306) d_Lw_law_305 rfl ?_
  obtain ⟨b8, k⟩ := k
  refine Rn.sld (n := 307) d_Lw_law_306 rfl b8 ?_
  refine Rn.aload_n (n := 308) (i := 0) d_Lw_law_307 rfl rfl rfl ?_
  refine Rn.iload_n (n := 309) (i := 3) d_Lw_law_308 rfl rfl rfl ?_
  refine Rn.iconst (n := 310) (v := 2) d_Lw_law_309 rfl (by decide) ?_
  refine Rn.iadd (n := 311) d_Lw_law_310 rfl ?_
  obtain ⟨b9, k⟩ := k
  refine Rn.sld (n := 312) d_Lw_law_311 rfl b9 ?_
  obtain ⟨Q'13, ev10, k⟩ := k
  refine Rn.callV (n := 315) (av := [vI (X.2 (a3 + 1).toNatClampNeg), vI (X.2 (a3 + 2).toNatClampNeg)]) d_Lw_law_312 rfl ml_Lw_law_41 mi_Rf_walker Lv_1 rfl rfl rfl rfl (Nat.le_of_ble_eq_true rfl) ev10 (fun v h12 hq => ?_)
  obtain ⟨r14, rfl, hq⟩ := hq
  have k := k r14 h12 hq
  show Rn X m_Lw_law 315 [some (vR [2]), some (vR [0]), some (vR [1]), some (vI a3)] [vI r14, vI r7] h12 Q
  refine Rn.icmp_eq (n := 318) (t := 1084) d_Lw_law_315 rfl (by decide) (fun cc => ?_) (fun cc => ?_)
  · have k := k.1 cc
    exact k
  · have k := k.2 cc
    refine Rn.iconst (n := 319) (v := 0) d_Lw_law_318 rfl (by decide) ?_
    exact Rn.iret d_Lw_law_319 rfl (by rfl) k
theorem g_Lw_law_320 {X : XS} (a3 : Int32) (h : Hp) (Q : Option AV → Hp → Prop)  (k : (vp_in (a3 + 1) X.1 ∧ (∃ Q'5, EvI X m_Us_go [vR [0], vI (X.2 (a3 + 1).toNatClampNeg)] h Q'5 ∧ ∀ (r6 : Int32) (h4 : Hp), Q'5 r6 h4 → (vp_in (a3 + 1) X.1 ∧ (∃ Q'11, EvI X m_Rf_go [vR [1], vI (X.2 (a3 + 1).toNatClampNeg)] h4 Q'11 ∧ ∀ (r12 : Int32) (h10 : Hp), Q'11 r12 h10 → ((r6 = r12 → Rn X m_Lw_law 1084 [some (vR [2]), some (vR [0]), some (vR [1]), some (vI a3)] [] h10 Q) ∧ (¬ r6 = r12 → Q (some (vI 0)) h10))))))) : Rn X m_Lw_law 320 [some (vR [2]), some (vR [0]), some (vR [1]), some (vI a3)] [] h Q := by
  refine Rn.aload_n (n := 321) (i := 1) d_Lw_law_320 rfl rfl rfl ?_
  refine Rn.aload_n (n := 322) (i := 0) d_Lw_law_321 rfl rfl rfl ?_
  refine Rn.iload_n (n := 323) (i := 3) d_Lw_law_322 rfl rfl rfl ?_
  refine Rn.iconst (n := 324) (v := 1) d_Lw_law_323 rfl (by decide) ?_
  refine Rn.iadd (n := 325) d_Lw_law_324 rfl ?_
  obtain ⟨b1, k⟩ := k
  refine Rn.sld (n := 326) d_Lw_law_325 rfl b1 ?_
  obtain ⟨Q'5, ev2, k⟩ := k
  refine Rn.callV (n := 329) (av := [vI (X.2 (a3 + 1).toNatClampNeg)]) d_Lw_law_326 rfl ml_Lw_law_42 mi_Us_go Lv_0 rfl rfl rfl rfl (Nat.le_of_ble_eq_true rfl) ev2 (fun v h4 hq => ?_)
  obtain ⟨r6, rfl, hq⟩ := hq
  have k := k r6 h4 hq
  show Rn X m_Lw_law 329 [some (vR [2]), some (vR [0]), some (vR [1]), some (vI a3)] [vI r6] h4 Q
  refine Rn.aload_n (n := 330) (i := 2) d_Lw_law_329 rfl rfl rfl ?_
  refine Rn.aload_n (n := 331) (i := 0) d_Lw_law_330 rfl rfl rfl ?_
  refine Rn.iload_n (n := 332) (i := 3) d_Lw_law_331 rfl rfl rfl ?_
  refine Rn.iconst (n := 333) (v := 1) d_Lw_law_332 rfl (by decide) ?_
  refine Rn.iadd (n := 334) d_Lw_law_333 rfl ?_
  obtain ⟨b7, k⟩ := k
  refine Rn.sld (n := 335) d_Lw_law_334 rfl b7 ?_
  obtain ⟨Q'11, ev8, k⟩ := k
  refine Rn.callV (n := 338) (av := [vI (X.2 (a3 + 1).toNatClampNeg)]) d_Lw_law_335 rfl ml_Lw_law_46 mi_Rf_go Lv_1 rfl rfl rfl rfl (Nat.le_of_ble_eq_true rfl) ev8 (fun v h10 hq => ?_)
  obtain ⟨r12, rfl, hq⟩ := hq
  have k := k r12 h10 hq
  show Rn X m_Lw_law 338 [some (vR [2]), some (vR [0]), some (vR [1]), some (vI a3)] [vI r12, vI r6] h10 Q
  refine Rn.icmp_eq (n := 341) (t := 1084) d_Lw_law_338 rfl (by decide) (fun cc => ?_) (fun cc => ?_)
  · have k := k.1 cc
    exact k
  · have k := k.2 cc
    refine Rn.iconst (n := 342) (v := 0) d_Lw_law_341 rfl (by decide) ?_
    exact Rn.iret d_Lw_law_342 rfl (by rfl) k
theorem g_Lw_law_343 {X : XS} (a3 : Int32) (h : Hp) (Q : Option AV → Hp → Prop)  (k : (vp_in (a3 + 1) X.1 ∧ (∃ Q'5, EvI X m_Us_keep [vR [0], vI (X.2 (a3 + 1).toNatClampNeg)] h Q'5 ∧ ∀ (r6 : Int32) (h4 : Hp), Q'5 r6 h4 → (vp_in (a3 + 1) X.1 ∧ (∃ Q'11, EvI X m_Rf_keep [vR [1], vI (X.2 (a3 + 1).toNatClampNeg)] h4 Q'11 ∧ ∀ (r12 : Int32) (h10 : Hp), Q'11 r12 h10 → ((r6 = r12 → Rn X m_Lw_law 1084 [some (vR [2]), some (vR [0]), some (vR [1]), some (vI a3)] [] h10 Q) ∧ (¬ r6 = r12 → Q (some (vI 0)) h10))))))) : Rn X m_Lw_law 343 [some (vR [2]), some (vR [0]), some (vR [1]), some (vI a3)] [] h Q := by
  refine Rn.aload_n (n := 344) (i := 1) d_Lw_law_343 rfl rfl rfl ?_
  refine Rn.aload_n (n := 345) (i := 0) d_Lw_law_344 rfl rfl rfl ?_
  refine Rn.iload_n (n := 346) (i := 3) d_Lw_law_345 rfl rfl rfl ?_
  refine Rn.iconst (n := 347) (v := 1) d_Lw_law_346 rfl (by decide) ?_
  refine Rn.iadd (n := 348) d_Lw_law_347 rfl ?_
  obtain ⟨b1, k⟩ := k
  refine Rn.sld (n := 349) d_Lw_law_348 rfl b1 ?_
  obtain ⟨Q'5, ev2, k⟩ := k
  refine Rn.callV (n := 352) (av := [vI (X.2 (a3 + 1).toNatClampNeg)]) d_Lw_law_349 rfl ml_Lw_law_47 mi_Us_keep Lv_0 rfl rfl rfl rfl (Nat.le_of_ble_eq_true rfl) ev2 (fun v h4 hq => ?_)
  obtain ⟨r6, rfl, hq⟩ := hq
  have k := k r6 h4 hq
  show Rn X m_Lw_law 352 [some (vR [2]), some (vR [0]), some (vR [1]), some (vI a3)] [vI r6] h4 Q
  refine Rn.aload_n (n := 353) (i := 2) d_Lw_law_352 rfl rfl rfl ?_
  refine Rn.aload_n (n := 354) (i := 0) d_Lw_law_353 rfl rfl rfl ?_
  refine Rn.iload_n (n := 355) (i := 3) d_Lw_law_354 rfl rfl rfl ?_
  refine Rn.iconst (n := 356) (v := 1) d_Lw_law_355 rfl (by decide) ?_
  refine Rn.iadd (n := 357) d_Lw_law_356 rfl ?_
  obtain ⟨b7, k⟩ := k
  refine Rn.sld (n := 358) d_Lw_law_357 rfl b7 ?_
  obtain ⟨Q'11, ev8, k⟩ := k
  refine Rn.callV (n := 361) (av := [vI (X.2 (a3 + 1).toNatClampNeg)]) d_Lw_law_358 rfl ml_Lw_law_50 mi_Rf_keep Lv_1 rfl rfl rfl rfl (Nat.le_of_ble_eq_true rfl) ev8 (fun v h10 hq => ?_)
  obtain ⟨r12, rfl, hq⟩ := hq
  have k := k r12 h10 hq
  show Rn X m_Lw_law 361 [some (vR [2]), some (vR [0]), some (vR [1]), some (vI a3)] [vI r12, vI r6] h10 Q
  refine Rn.icmp_eq (n := 364) (t := 1084) d_Lw_law_361 rfl (by decide) (fun cc => ?_) (fun cc => ?_)
  · have k := k.1 cc
    exact k
  · have k := k.2 cc
    refine Rn.iconst (n := 365) (v := 0) d_Lw_law_364 rfl (by decide) ?_
    exact Rn.iret d_Lw_law_365 rfl (by rfl) k
theorem g_Lw_law_366 {X : XS} (a3 : Int32) (h : Hp) (Q : Option AV → Hp → Prop)  (k : (vp_in (a3 + 1) X.1 ∧ (∃ Q'5, EvI X m_Us_back [vR [0], vI (X.2 (a3 + 1).toNatClampNeg)] h Q'5 ∧ ∀ (r6 : Int32) (h4 : Hp), Q'5 r6 h4 → (vp_in (a3 + 1) X.1 ∧ (∃ Q'11, EvI X m_Rf_back [vR [1], vI (X.2 (a3 + 1).toNatClampNeg)] h4 Q'11 ∧ ∀ (r12 : Int32) (h10 : Hp), Q'11 r12 h10 → ((r6 = r12 → Rn X m_Lw_law 1084 [some (vR [2]), some (vR [0]), some (vR [1]), some (vI a3)] [] h10 Q) ∧ (¬ r6 = r12 → Q (some (vI 0)) h10))))))) : Rn X m_Lw_law 366 [some (vR [2]), some (vR [0]), some (vR [1]), some (vI a3)] [] h Q := by
  refine Rn.aload_n (n := 367) (i := 1) d_Lw_law_366 rfl rfl rfl ?_
  refine Rn.aload_n (n := 368) (i := 0) d_Lw_law_367 rfl rfl rfl ?_
  refine Rn.iload_n (n := 369) (i := 3) d_Lw_law_368 rfl rfl rfl ?_
  refine Rn.iconst (n := 370) (v := 1) d_Lw_law_369 rfl (by decide) ?_
  refine Rn.iadd (n := 371) d_Lw_law_370 rfl ?_
  obtain ⟨b1, k⟩ := k
  refine Rn.sld (n := 372) d_Lw_law_371 rfl b1 ?_
  obtain ⟨Q'5, ev2, k⟩ := k
  refine Rn.callV (n := 375) (av := [vI (X.2 (a3 + 1).toNatClampNeg)]) d_Lw_law_372 rfl ml_Lw_law_51 mi_Us_back Lv_0 rfl rfl rfl rfl (Nat.le_of_ble_eq_true rfl) ev2 (fun v h4 hq => ?_)
  obtain ⟨r6, rfl, hq⟩ := hq
  have k := k r6 h4 hq
  show Rn X m_Lw_law 375 [some (vR [2]), some (vR [0]), some (vR [1]), some (vI a3)] [vI r6] h4 Q
  refine Rn.aload_n (n := 376) (i := 2) d_Lw_law_375 rfl rfl rfl ?_
  refine Rn.aload_n (n := 377) (i := 0) d_Lw_law_376 rfl rfl rfl ?_
  refine Rn.iload_n (n := 378) (i := 3) d_Lw_law_377 rfl rfl rfl ?_
  refine Rn.iconst (n := 379) (v := 1) d_Lw_law_378 rfl (by decide) ?_
  refine Rn.iadd (n := 380) d_Lw_law_379 rfl ?_
  obtain ⟨b7, k⟩ := k
  refine Rn.sld (n := 381) d_Lw_law_380 rfl b7 ?_
  obtain ⟨Q'11, ev8, k⟩ := k
  refine Rn.callV (n := 384) (av := [vI (X.2 (a3 + 1).toNatClampNeg)]) d_Lw_law_381 rfl ml_Lw_law_54 mi_Rf_back Lv_1 rfl rfl rfl rfl (Nat.le_of_ble_eq_true rfl) ev8 (fun v h10 hq => ?_)
  obtain ⟨r12, rfl, hq⟩ := hq
  have k := k r12 h10 hq
  show Rn X m_Lw_law 384 [some (vR [2]), some (vR [0]), some (vR [1]), some (vI a3)] [vI r12, vI r6] h10 Q
  refine Rn.icmp_eq (n := 387) (t := 1084) d_Lw_law_384 rfl (by decide) (fun cc => ?_) (fun cc => ?_)
  · have k := k.1 cc
    exact k
  · have k := k.2 cc
    refine Rn.iconst (n := 388) (v := 0) d_Lw_law_387 rfl (by decide) ?_
    exact Rn.iret d_Lw_law_388 rfl (by rfl) k
theorem g_Lw_law_389 {X : XS} (a3 : Int32) (h : Hp) (Q : Option AV → Hp → Prop)  (k : (∃ Q'4, EvI X m_Us_done [vR [0]] h Q'4 ∧ ∀ (r5 : Int32) (h3 : Hp), Q'4 r5 h3 → (∃ Q'9, EvI X m_Rf_done [vR [1]] h3 Q'9 ∧ ∀ (r10 : Int32) (h8 : Hp), Q'9 r10 h8 → ((r5 = r10 → Rn X m_Lw_law 1084 [some (vR [2]), some (vR [0]), some (vR [1]), some (vI a3)] [] h8 Q) ∧ (¬ r5 = r10 → Q (some (vI 0)) h8))))) : Rn X m_Lw_law 389 [some (vR [2]), some (vR [0]), some (vR [1]), some (vI a3)] [] h Q := by
  refine Rn.aload_n (n := 390) (i := 1) d_Lw_law_389 rfl rfl rfl ?_
  obtain ⟨Q'4, ev1, k⟩ := k
  refine Rn.callV (n := 393) (av := []) d_Lw_law_390 rfl ml_Lw_law_55 mi_Us_done Lv_0 rfl rfl rfl rfl (Nat.le_of_ble_eq_true rfl) ev1 (fun v h3 hq => ?_)
  obtain ⟨r5, rfl, hq⟩ := hq
  have k := k r5 h3 hq
  show Rn X m_Lw_law 393 [some (vR [2]), some (vR [0]), some (vR [1]), some (vI a3)] [vI r5] h3 Q
  refine Rn.aload_n (n := 394) (i := 2) d_Lw_law_393 rfl rfl rfl ?_
  obtain ⟨Q'9, ev6, k⟩ := k
  refine Rn.callV (n := 397) (av := []) d_Lw_law_394 rfl ml_Lw_law_58 mi_Rf_done Lv_1 rfl rfl rfl rfl (Nat.le_of_ble_eq_true rfl) ev6 (fun v h8 hq => ?_)
  obtain ⟨r10, rfl, hq⟩ := hq
  have k := k r10 h8 hq
  show Rn X m_Lw_law 397 [some (vR [2]), some (vR [0]), some (vR [1]), some (vI a3)] [vI r10, vI r5] h8 Q
  refine Rn.icmp_eq (n := 400) (t := 1084) d_Lw_law_397 rfl (by decide) (fun cc => ?_) (fun cc => ?_)
  · have k := k.1 cc
    exact k
  · have k := k.2 cc
    refine Rn.iconst (n := 401) (v := 0) d_Lw_law_400 rfl (by decide) ?_
    exact Rn.iret d_Lw_law_401 rfl (by rfl) k
theorem g_Lw_law_402 {X : XS} (a3 : Int32) (h : Hp) (Q : Option AV → Hp → Prop)  (k : (vp_in (a3 + 1) X.1 ∧ (vp_in (a3 + 2) X.1 ∧ (vp_in (a3 + 3) X.1 ∧ (vp_in (a3 + 4) X.1 ∧ (∃ Q'8, EvI X m_Us_pays [vR [0], vI (X.2 (a3 + 1).toNatClampNeg), vI (X.2 (a3 + 2).toNatClampNeg), vI (X.2 (a3 + 3).toNatClampNeg), vI (X.2 (a3 + 4).toNatClampNeg)] h Q'8 ∧ ∀ (r9 : Int32) (h7 : Hp), Q'8 r9 h7 → (vp_in (a3 + 1) X.1 ∧ (vp_in (a3 + 2) X.1 ∧ (vp_in (a3 + 3) X.1 ∧ (vp_in (a3 + 4) X.1 ∧ (∃ Q'17, EvI X m_Rf_pays [vR [1], vI (X.2 (a3 + 1).toNatClampNeg), vI (X.2 (a3 + 2).toNatClampNeg), vI (X.2 (a3 + 3).toNatClampNeg), vI (X.2 (a3 + 4).toNatClampNeg)] h7 Q'17 ∧ ∀ (r18 : Int32) (h16 : Hp), Q'17 r18 h16 → ((r9 = r18 → Rn X m_Lw_law 1084 [some (vR [2]), some (vR [0]), some (vR [1]), some (vI a3)] [] h16 Q) ∧ (¬ r9 = r18 → Q (some (vI 0)) h16))))))))))))) : Rn X m_Lw_law 402 [some (vR [2]), some (vR [0]), some (vR [1]), some (vI a3)] [] h Q := by
  refine Rn.aload_n (n := 403) (i := 1) d_Lw_law_402 rfl rfl rfl ?_
  refine Rn.aload_n (n := 404) (i := 0) d_Lw_law_403 rfl rfl rfl ?_
  refine Rn.iload_n (n := 405) (i := 3) d_Lw_law_404 rfl rfl rfl ?_
  refine Rn.iconst (n := 406) (v := 1) d_Lw_law_405 rfl (by decide) ?_
  refine Rn.iadd (n := 407) d_Lw_law_406 rfl ?_
  obtain ⟨b1, k⟩ := k
  refine Rn.sld (n := 408) d_Lw_law_407 rfl b1 ?_
  refine Rn.aload_n (n := 409) (i := 0) d_Lw_law_408 rfl rfl rfl ?_
  refine Rn.iload_n (n := 410) (i := 3) d_Lw_law_409 rfl rfl rfl ?_
  refine Rn.iconst (n := 411) (v := 2) d_Lw_law_410 rfl (by decide) ?_
  refine Rn.iadd (n := 412) d_Lw_law_411 rfl ?_
  obtain ⟨b2, k⟩ := k
  refine Rn.sld (n := 413) d_Lw_law_412 rfl b2 ?_
  refine Rn.aload_n (n := 414) (i := 0) d_Lw_law_413 rfl rfl rfl ?_
  refine Rn.iload_n (n := 415) (i := 3) d_Lw_law_414 rfl rfl rfl ?_
  refine Rn.iconst (n := 416) (v := 3) d_Lw_law_415 rfl (by decide) ?_
  refine Rn.iadd (n := 417) d_Lw_law_416 rfl ?_
  obtain ⟨b3, k⟩ := k
  refine Rn.sld (n := 418) d_Lw_law_417 rfl b3 ?_
  refine Rn.aload_n (n := 419) (i := 0) d_Lw_law_418 rfl rfl rfl ?_
  refine Rn.iload_n (n := 420) (i := 3) d_Lw_law_419 rfl rfl rfl ?_
  refine Rn.iconst (n := 421) (v := 4) d_Lw_law_420 rfl (by decide) ?_
  refine Rn.iadd (n := 422) d_Lw_law_421 rfl ?_
  obtain ⟨b4, k⟩ := k
  refine Rn.sld (n := 423) d_Lw_law_422 rfl b4 ?_
  obtain ⟨Q'8, ev5, k⟩ := k
  refine Rn.callV (n := 426) (av := [vI (X.2 (a3 + 1).toNatClampNeg), vI (X.2 (a3 + 2).toNatClampNeg), vI (X.2 (a3 + 3).toNatClampNeg), vI (X.2 (a3 + 4).toNatClampNeg)]) d_Lw_law_423 rfl ml_Lw_law_59 mi_Us_pays Lv_0 rfl rfl rfl rfl (Nat.le_of_ble_eq_true rfl) ev5 (fun v h7 hq => ?_)
  obtain ⟨r9, rfl, hq⟩ := hq
  have k := k r9 h7 hq
  show Rn X m_Lw_law 426 [some (vR [2]), some (vR [0]), some (vR [1]), some (vI a3)] [vI r9] h7 Q
  refine Rn.aload_n (n := 427) (i := 2) d_Lw_law_426 rfl rfl rfl ?_
  refine Rn.aload_n (n := 428) (i := 0) d_Lw_law_427 rfl rfl rfl ?_
  refine Rn.iload_n (n := 429) (i := 3) d_Lw_law_428 rfl rfl rfl ?_
  refine Rn.iconst (n := 430) (v := 1) d_Lw_law_429 rfl (by decide) ?_
  refine Rn.iadd (n := 431) d_Lw_law_430 rfl ?_
  obtain ⟨b10, k⟩ := k
  refine Rn.sld (n := 432) d_Lw_law_431 rfl b10 ?_
  refine Rn.aload_n (n := 433) (i := 0) d_Lw_law_432 rfl rfl rfl ?_
  refine Rn.iload_n (n := 434) (i := 3) d_Lw_law_433 rfl rfl rfl ?_
  refine Rn.iconst (n := 435) (v := 2) d_Lw_law_434 rfl (by decide) ?_
  refine Rn.iadd (n := 436) d_Lw_law_435 rfl ?_
  obtain ⟨b11, k⟩ := k
  refine Rn.sld (n := 437) d_Lw_law_436 rfl b11 ?_
  refine Rn.aload_n (n := 438) (i := 0) d_Lw_law_437 rfl rfl rfl ?_
  refine Rn.iload_n (n := 439) (i := 3) d_Lw_law_438 rfl rfl rfl ?_
  refine Rn.iconst (n := 440) (v := 3) d_Lw_law_439 rfl (by decide) ?_
  refine Rn.iadd (n := 441) d_Lw_law_440 rfl ?_
  obtain ⟨b12, k⟩ := k
  refine Rn.sld (n := 442) d_Lw_law_441 rfl b12 ?_
  refine Rn.aload_n (n := 443) (i := 0) d_Lw_law_442 rfl rfl rfl ?_
  refine Rn.iload_n (n := 444) (i := 3) d_Lw_law_443 rfl rfl rfl ?_
  refine Rn.iconst (n := 445) (v := 4) d_Lw_law_444 rfl (by decide) ?_
  refine Rn.iadd (n := 446) d_Lw_law_445 rfl ?_
  obtain ⟨b13, k⟩ := k
  refine Rn.sld (n := 447) d_Lw_law_446 rfl b13 ?_
  obtain ⟨Q'17, ev14, k⟩ := k
  refine Rn.callV (n := 450) (av := [vI (X.2 (a3 + 1).toNatClampNeg), vI (X.2 (a3 + 2).toNatClampNeg), vI (X.2 (a3 + 3).toNatClampNeg), vI (X.2 (a3 + 4).toNatClampNeg)]) d_Lw_law_447 rfl ml_Lw_law_63 mi_Rf_pays Lv_1 rfl rfl rfl rfl (Nat.le_of_ble_eq_true rfl) ev14 (fun v h16 hq => ?_)
  obtain ⟨r18, rfl, hq⟩ := hq
  have k := k r18 h16 hq
  show Rn X m_Lw_law 450 [some (vR [2]), some (vR [0]), some (vR [1]), some (vI a3)] [vI r18, vI r9] h16 Q
  refine Rn.icmp_eq (n := 453) (t := 1084) d_Lw_law_450 rfl (by decide) (fun cc => ?_) (fun cc => ?_)
  · have k := k.1 cc
    exact k
  · have k := k.2 cc
    refine Rn.iconst (n := 454) (v := 0) d_Lw_law_453 rfl (by decide) ?_
    exact Rn.iret d_Lw_law_454 rfl (by rfl) k
theorem g_Lw_law_455 {X : XS} (a3 : Int32) (h : Hp) (Q : Option AV → Hp → Prop)  (k : (vp_in (a3 + 1) X.1 ∧ (vp_in (a3 + 2) X.1 ∧ (vp_in (a3 + 3) X.1 ∧ (∃ Q'7, EvI X m_Us_rests [vR [0], vI (X.2 (a3 + 1).toNatClampNeg), vI (X.2 (a3 + 2).toNatClampNeg), vI (X.2 (a3 + 3).toNatClampNeg)] h Q'7 ∧ ∀ (r8 : Int32) (h6 : Hp), Q'7 r8 h6 → (vp_in (a3 + 1) X.1 ∧ (vp_in (a3 + 2) X.1 ∧ (vp_in (a3 + 3) X.1 ∧ (∃ Q'15, EvI X m_Rf_rests [vR [1], vI (X.2 (a3 + 1).toNatClampNeg), vI (X.2 (a3 + 2).toNatClampNeg), vI (X.2 (a3 + 3).toNatClampNeg)] h6 Q'15 ∧ ∀ (r16 : Int32) (h14 : Hp), Q'15 r16 h14 → ((r8 = r16 → Rn X m_Lw_law 1084 [some (vR [2]), some (vR [0]), some (vR [1]), some (vI a3)] [] h14 Q) ∧ (¬ r8 = r16 → Q (some (vI 0)) h14))))))))))) : Rn X m_Lw_law 455 [some (vR [2]), some (vR [0]), some (vR [1]), some (vI a3)] [] h Q := by
  refine Rn.aload_n (n := 456) (i := 1) d_Lw_law_455 rfl rfl rfl ?_
  refine Rn.aload_n (n := 457) (i := 0) d_Lw_law_456 rfl rfl rfl ?_
  refine Rn.iload_n (n := 458) (i := 3) d_Lw_law_457 rfl rfl rfl ?_
  refine Rn.iconst (n := 459) (v := 1) d_Lw_law_458 rfl (by decide) ?_
  refine Rn.iadd (n := 460) d_Lw_law_459 rfl ?_
  obtain ⟨b1, k⟩ := k
  refine Rn.sld (n := 461) d_Lw_law_460 rfl b1 ?_
  refine Rn.aload_n (n := 462) (i := 0) d_Lw_law_461 rfl rfl rfl ?_
  refine Rn.iload_n (n := 463) (i := 3) d_Lw_law_462 rfl rfl rfl ?_
  refine Rn.iconst (n := 464) (v := 2) d_Lw_law_463 rfl (by decide) ?_
  refine Rn.iadd (n := 465) d_Lw_law_464 rfl ?_
  obtain ⟨b2, k⟩ := k
  refine Rn.sld (n := 466) d_Lw_law_465 rfl b2 ?_
  refine Rn.aload_n (n := 467) (i := 0) d_Lw_law_466 rfl rfl rfl ?_
  refine Rn.iload_n (n := 468) (i := 3) d_Lw_law_467 rfl rfl rfl ?_
  refine Rn.iconst (n := 469) (v := 3) d_Lw_law_468 rfl (by decide) ?_
  refine Rn.iadd (n := 470) d_Lw_law_469 rfl ?_
  obtain ⟨b3, k⟩ := k
  refine Rn.sld (n := 471) d_Lw_law_470 rfl b3 ?_
  obtain ⟨Q'7, ev4, k⟩ := k
  refine Rn.callV (n := 474) (av := [vI (X.2 (a3 + 1).toNatClampNeg), vI (X.2 (a3 + 2).toNatClampNeg), vI (X.2 (a3 + 3).toNatClampNeg)]) d_Lw_law_471 rfl ml_Lw_law_64 mi_Us_rests Lv_0 rfl rfl rfl rfl (Nat.le_of_ble_eq_true rfl) ev4 (fun v h6 hq => ?_)
  obtain ⟨r8, rfl, hq⟩ := hq
  have k := k r8 h6 hq
  show Rn X m_Lw_law 474 [some (vR [2]), some (vR [0]), some (vR [1]), some (vI a3)] [vI r8] h6 Q
  refine Rn.aload_n (n := 475) (i := 2) d_Lw_law_474 rfl rfl rfl ?_
  refine Rn.aload_n (n := 476) (i := 0) d_Lw_law_475 rfl rfl rfl ?_
  refine Rn.iload_n (n := 477) (i := 3) d_Lw_law_476 rfl rfl rfl ?_
  refine Rn.iconst (n := 478) (v := 1) d_Lw_law_477 rfl (by decide) ?_
  refine Rn.iadd (n := 479) d_Lw_law_478 rfl ?_
  obtain ⟨b9, k⟩ := k
  refine Rn.sld (n := 480) d_Lw_law_479 rfl b9 ?_
  refine Rn.aload_n (n := 481) (i := 0) d_Lw_law_480 rfl rfl rfl ?_
  refine Rn.iload_n (n := 482) (i := 3) d_Lw_law_481 rfl rfl rfl ?_
  refine Rn.iconst (n := 483) (v := 2) d_Lw_law_482 rfl (by decide) ?_
  refine Rn.iadd (n := 484) d_Lw_law_483 rfl ?_
  obtain ⟨b10, k⟩ := k
  refine Rn.sld (n := 485) d_Lw_law_484 rfl b10 ?_
  refine Rn.aload_n (n := 486) (i := 0) d_Lw_law_485 rfl rfl rfl ?_
  refine Rn.iload_n (n := 487) (i := 3) d_Lw_law_486 rfl rfl rfl ?_
  refine Rn.iconst (n := 488) (v := 3) d_Lw_law_487 rfl (by decide) ?_
  refine Rn.iadd (n := 489) d_Lw_law_488 rfl ?_
  obtain ⟨b11, k⟩ := k
  refine Rn.sld (n := 490) d_Lw_law_489 rfl b11 ?_
  obtain ⟨Q'15, ev12, k⟩ := k
  refine Rn.callV (n := 493) (av := [vI (X.2 (a3 + 1).toNatClampNeg), vI (X.2 (a3 + 2).toNatClampNeg), vI (X.2 (a3 + 3).toNatClampNeg)]) d_Lw_law_490 rfl ml_Lw_law_68 mi_Rf_rests Lv_1 rfl rfl rfl rfl (Nat.le_of_ble_eq_true rfl) ev12 (fun v h14 hq => ?_)
  obtain ⟨r16, rfl, hq⟩ := hq
  have k := k r16 h14 hq
  show Rn X m_Lw_law 493 [some (vR [2]), some (vR [0]), some (vR [1]), some (vI a3)] [vI r16, vI r8] h14 Q
  refine Rn.icmp_eq (n := 496) (t := 1084) d_Lw_law_493 rfl (by decide) (fun cc => ?_) (fun cc => ?_)
  · have k := k.1 cc
    exact k
  · have k := k.2 cc
    refine Rn.iconst (n := 497) (v := 0) d_Lw_law_496 rfl (by decide) ?_
    exact Rn.iret d_Lw_law_497 rfl (by rfl) k
theorem g_Lw_law_498 {X : XS} (a3 : Int32) (h : Hp) (Q : Option AV → Hp → Prop)  (k : (vp_in (a3 + 1) X.1 ∧ (vp_in (a3 + 2) X.1 ∧ (vp_in (a3 + 3) X.1 ∧ (∃ Q'7, EvI X m_Us_common [vR [0], vI (X.2 (a3 + 1).toNatClampNeg), vI (X.2 (a3 + 2).toNatClampNeg), vI (X.2 (a3 + 3).toNatClampNeg)] h Q'7 ∧ ∀ (r8 : Int32) (h6 : Hp), Q'7 r8 h6 → (vp_in (a3 + 1) X.1 ∧ (vp_in (a3 + 2) X.1 ∧ (vp_in (a3 + 3) X.1 ∧ (∃ Q'15, EvI X m_Rf_common [vR [1], vI (X.2 (a3 + 1).toNatClampNeg), vI (X.2 (a3 + 2).toNatClampNeg), vI (X.2 (a3 + 3).toNatClampNeg)] h6 Q'15 ∧ ∀ (r16 : Int32) (h14 : Hp), Q'15 r16 h14 → ((r8 = r16 → Rn X m_Lw_law 1084 [some (vR [2]), some (vR [0]), some (vR [1]), some (vI a3)] [] h14 Q) ∧ (¬ r8 = r16 → Q (some (vI 0)) h14))))))))))) : Rn X m_Lw_law 498 [some (vR [2]), some (vR [0]), some (vR [1]), some (vI a3)] [] h Q := by
  refine Rn.aload_n (n := 499) (i := 1) d_Lw_law_498 rfl rfl rfl ?_
  refine Rn.aload_n (n := 500) (i := 0) d_Lw_law_499 rfl rfl rfl ?_
  refine Rn.iload_n (n := 501) (i := 3) d_Lw_law_500 rfl rfl rfl ?_
  refine Rn.iconst (n := 502) (v := 1) d_Lw_law_501 rfl (by decide) ?_
  refine Rn.iadd (n := 503) d_Lw_law_502 rfl ?_
  obtain ⟨b1, k⟩ := k
  refine Rn.sld (n := 504) d_Lw_law_503 rfl b1 ?_
  refine Rn.aload_n (n := 505) (i := 0) d_Lw_law_504 rfl rfl rfl ?_
  refine Rn.iload_n (n := 506) (i := 3) d_Lw_law_505 rfl rfl rfl ?_
  refine Rn.iconst (n := 507) (v := 2) d_Lw_law_506 rfl (by decide) ?_
  refine Rn.iadd (n := 508) d_Lw_law_507 rfl ?_
  obtain ⟨b2, k⟩ := k
  refine Rn.sld (n := 509) d_Lw_law_508 rfl b2 ?_
  refine Rn.aload_n (n := 510) (i := 0) d_Lw_law_509 rfl rfl rfl ?_
  refine Rn.iload_n (n := 511) (i := 3) d_Lw_law_510 rfl rfl rfl ?_
  refine Rn.iconst (n := 512) (v := 3) d_Lw_law_511 rfl (by decide) ?_
  refine Rn.iadd (n := 513) d_Lw_law_512 rfl ?_
  obtain ⟨b3, k⟩ := k
  refine Rn.sld (n := 514) d_Lw_law_513 rfl b3 ?_
  obtain ⟨Q'7, ev4, k⟩ := k
  refine Rn.callV (n := 517) (av := [vI (X.2 (a3 + 1).toNatClampNeg), vI (X.2 (a3 + 2).toNatClampNeg), vI (X.2 (a3 + 3).toNatClampNeg)]) d_Lw_law_514 rfl ml_Lw_law_69 mi_Us_common Lv_0 rfl rfl rfl rfl (Nat.le_of_ble_eq_true rfl) ev4 (fun v h6 hq => ?_)
  obtain ⟨r8, rfl, hq⟩ := hq
  have k := k r8 h6 hq
  show Rn X m_Lw_law 517 [some (vR [2]), some (vR [0]), some (vR [1]), some (vI a3)] [vI r8] h6 Q
  refine Rn.aload_n (n := 518) (i := 2) d_Lw_law_517 rfl rfl rfl ?_
  refine Rn.aload_n (n := 519) (i := 0) d_Lw_law_518 rfl rfl rfl ?_
  refine Rn.iload_n (n := 520) (i := 3) d_Lw_law_519 rfl rfl rfl ?_
  refine Rn.iconst (n := 521) (v := 1) d_Lw_law_520 rfl (by decide) ?_
  refine Rn.iadd (n := 522) d_Lw_law_521 rfl ?_
  obtain ⟨b9, k⟩ := k
  refine Rn.sld (n := 523) d_Lw_law_522 rfl b9 ?_
  refine Rn.aload_n (n := 524) (i := 0) d_Lw_law_523 rfl rfl rfl ?_
  refine Rn.iload_n (n := 525) (i := 3) d_Lw_law_524 rfl rfl rfl ?_
  refine Rn.iconst (n := 526) (v := 2) d_Lw_law_525 rfl (by decide) ?_
  refine Rn.iadd (n := 527) d_Lw_law_526 rfl ?_
  obtain ⟨b10, k⟩ := k
  refine Rn.sld (n := 528) d_Lw_law_527 rfl b10 ?_
  refine Rn.aload_n (n := 529) (i := 0) d_Lw_law_528 rfl rfl rfl ?_
  refine Rn.iload_n (n := 530) (i := 3) d_Lw_law_529 rfl rfl rfl ?_
  refine Rn.iconst (n := 531) (v := 3) d_Lw_law_530 rfl (by decide) ?_
  refine Rn.iadd (n := 532) d_Lw_law_531 rfl ?_
  obtain ⟨b11, k⟩ := k
  refine Rn.sld (n := 533) d_Lw_law_532 rfl b11 ?_
  obtain ⟨Q'15, ev12, k⟩ := k
  refine Rn.callV (n := 536) (av := [vI (X.2 (a3 + 1).toNatClampNeg), vI (X.2 (a3 + 2).toNatClampNeg), vI (X.2 (a3 + 3).toNatClampNeg)]) d_Lw_law_533 rfl ml_Lw_law_72 mi_Rf_common Lv_1 rfl rfl rfl rfl (Nat.le_of_ble_eq_true rfl) ev12 (fun v h14 hq => ?_)
  obtain ⟨r16, rfl, hq⟩ := hq
  have k := k r16 h14 hq
  show Rn X m_Lw_law 536 [some (vR [2]), some (vR [0]), some (vR [1]), some (vI a3)] [vI r16, vI r8] h14 Q
  refine Rn.icmp_eq (n := 539) (t := 1084) d_Lw_law_536 rfl (by decide) (fun cc => ?_) (fun cc => ?_)
  · have k := k.1 cc
    exact k
  · have k := k.2 cc
    refine Rn.iconst (n := 540) (v := 0) d_Lw_law_539 rfl (by decide) ?_
    exact Rn.iret d_Lw_law_540 rfl (by rfl) k
theorem g_Lw_law_541 {X : XS} (a3 : Int32) (h : Hp) (Q : Option AV → Hp → Prop)  (k : (vp_in (a3 + 1) X.1 ∧ (vp_in (a3 + 2) X.1 ∧ (vp_in (a3 + 3) X.1 ∧ (∃ Q'7, EvI X m_Us_stand [vR [0], vI (X.2 (a3 + 1).toNatClampNeg), vI (X.2 (a3 + 2).toNatClampNeg), vI (X.2 (a3 + 3).toNatClampNeg)] h Q'7 ∧ ∀ (r8 : Int32) (h6 : Hp), Q'7 r8 h6 → (vp_in (a3 + 1) X.1 ∧ (vp_in (a3 + 2) X.1 ∧ (vp_in (a3 + 3) X.1 ∧ (∃ Q'15, EvI X m_Rf_stand [vR [1], vI (X.2 (a3 + 1).toNatClampNeg), vI (X.2 (a3 + 2).toNatClampNeg), vI (X.2 (a3 + 3).toNatClampNeg)] h6 Q'15 ∧ ∀ (r16 : Int32) (h14 : Hp), Q'15 r16 h14 → ((r8 = r16 → Rn X m_Lw_law 1084 [some (vR [2]), some (vR [0]), some (vR [1]), some (vI a3)] [] h14 Q) ∧ (¬ r8 = r16 → Q (some (vI 0)) h14))))))))))) : Rn X m_Lw_law 541 [some (vR [2]), some (vR [0]), some (vR [1]), some (vI a3)] [] h Q := by
  refine Rn.aload_n (n := 542) (i := 1) d_Lw_law_541 rfl rfl rfl ?_
  refine Rn.aload_n (n := 543) (i := 0) d_Lw_law_542 rfl rfl rfl ?_
  refine Rn.iload_n (n := 544) (i := 3) d_Lw_law_543 rfl rfl rfl ?_
  refine Rn.iconst (n := 545) (v := 1) d_Lw_law_544 rfl (by decide) ?_
  refine Rn.iadd (n := 546) d_Lw_law_545 rfl ?_
  obtain ⟨b1, k⟩ := k
  refine Rn.sld (n := 547) d_Lw_law_546 rfl b1 ?_
  refine Rn.aload_n (n := 548) (i := 0) d_Lw_law_547 rfl rfl rfl ?_
  refine Rn.iload_n (n := 549) (i := 3) d_Lw_law_548 rfl rfl rfl ?_
  refine Rn.iconst (n := 550) (v := 2) d_Lw_law_549 rfl (by decide) ?_
  refine Rn.iadd (n := 551) d_Lw_law_550 rfl ?_
  obtain ⟨b2, k⟩ := k
  refine Rn.sld (n := 552) d_Lw_law_551 rfl b2 ?_
  refine Rn.aload_n (n := 553) (i := 0) d_Lw_law_552 rfl rfl rfl ?_
  refine Rn.iload_n (n := 554) (i := 3) d_Lw_law_553 rfl rfl rfl ?_
  refine Rn.iconst (n := 555) (v := 3) d_Lw_law_554 rfl (by decide) ?_
  refine Rn.iadd (n := 556) d_Lw_law_555 rfl ?_
  obtain ⟨b3, k⟩ := k
  refine Rn.sld (n := 557) d_Lw_law_556 rfl b3 ?_
  obtain ⟨Q'7, ev4, k⟩ := k
  refine Rn.callV (n := 560) (av := [vI (X.2 (a3 + 1).toNatClampNeg), vI (X.2 (a3 + 2).toNatClampNeg), vI (X.2 (a3 + 3).toNatClampNeg)]) d_Lw_law_557 rfl ml_Lw_law_73 mi_Us_stand Lv_0 rfl rfl rfl rfl (Nat.le_of_ble_eq_true rfl) ev4 (fun v h6 hq => ?_)
  obtain ⟨r8, rfl, hq⟩ := hq
  have k := k r8 h6 hq
  show Rn X m_Lw_law 560 [some (vR [2]), some (vR [0]), some (vR [1]), some (vI a3)] [vI r8] h6 Q
  refine Rn.aload_n (n := 561) (i := 2) d_Lw_law_560 rfl rfl rfl ?_
  refine Rn.aload_n (n := 562) (i := 0) d_Lw_law_561 rfl rfl rfl ?_
  refine Rn.iload_n (n := 563) (i := 3) d_Lw_law_562 rfl rfl rfl ?_
  refine Rn.iconst (n := 564) (v := 1) d_Lw_law_563 rfl (by decide) ?_
  refine Rn.iadd (n := 565) d_Lw_law_564 rfl ?_
  obtain ⟨b9, k⟩ := k
  refine Rn.sld (n := 566) d_Lw_law_565 rfl b9 ?_
  refine Rn.aload_n (n := 567) (i := 0) d_Lw_law_566 rfl rfl rfl ?_
  refine Rn.iload_n (n := 568) (i := 3) d_Lw_law_567 rfl rfl rfl ?_
  refine Rn.iconst (n := 569) (v := 2) d_Lw_law_568 rfl (by decide) ?_
  refine Rn.iadd (n := 570) d_Lw_law_569 rfl ?_
  obtain ⟨b10, k⟩ := k
  refine Rn.sld (n := 571) d_Lw_law_570 rfl b10 ?_
  refine Rn.aload_n (n := 572) (i := 0) d_Lw_law_571 rfl rfl rfl ?_
  refine Rn.iload_n (n := 573) (i := 3) d_Lw_law_572 rfl rfl rfl ?_
  refine Rn.iconst (n := 574) (v := 3) d_Lw_law_573 rfl (by decide) ?_
  refine Rn.iadd (n := 575) d_Lw_law_574 rfl ?_
  obtain ⟨b11, k⟩ := k
  refine Rn.sld (n := 576) d_Lw_law_575 rfl b11 ?_
  obtain ⟨Q'15, ev12, k⟩ := k
  refine Rn.callV (n := 579) (av := [vI (X.2 (a3 + 1).toNatClampNeg), vI (X.2 (a3 + 2).toNatClampNeg), vI (X.2 (a3 + 3).toNatClampNeg)]) d_Lw_law_576 rfl ml_Lw_law_76 mi_Rf_stand Lv_1 rfl rfl rfl rfl (Nat.le_of_ble_eq_true rfl) ev12 (fun v h14 hq => ?_)
  obtain ⟨r16, rfl, hq⟩ := hq
  have k := k r16 h14 hq
  show Rn X m_Lw_law 579 [some (vR [2]), some (vR [0]), some (vR [1]), some (vI a3)] [vI r16, vI r8] h14 Q
  refine Rn.icmp_eq (n := 582) (t := 1084) d_Lw_law_579 rfl (by decide) (fun cc => ?_) (fun cc => ?_)
  · have k := k.1 cc
    exact k
  · have k := k.2 cc
    refine Rn.iconst (n := 583) (v := 0) d_Lw_law_582 rfl (by decide) ?_
    exact Rn.iret d_Lw_law_583 rfl (by rfl) k
theorem g_Lw_law_584 {X : XS} (a3 : Int32) (h : Hp) (Q : Option AV → Hp → Prop)  (k : (∃ Q'4, EvI X m_Us_bus [vR [0]] h Q'4 ∧ ∀ (r5 : Int32) (h3 : Hp), Q'4 r5 h3 → (∃ Q'9, EvI X m_Rf_bus [vR [1]] h3 Q'9 ∧ ∀ (r10 : Int32) (h8 : Hp), Q'9 r10 h8 → ((r5 = r10 → Rn X m_Lw_law 1084 [some (vR [2]), some (vR [0]), some (vR [1]), some (vI a3)] [] h8 Q) ∧ (¬ r5 = r10 → Q (some (vI 0)) h8))))) : Rn X m_Lw_law 584 [some (vR [2]), some (vR [0]), some (vR [1]), some (vI a3)] [] h Q := by
  refine Rn.aload_n (n := 585) (i := 1) d_Lw_law_584 rfl rfl rfl ?_
  obtain ⟨Q'4, ev1, k⟩ := k
  refine Rn.callV (n := 588) (av := []) d_Lw_law_585 rfl ml_Lw_law_77 mi_Us_bus Lv_0 rfl rfl rfl rfl (Nat.le_of_ble_eq_true rfl) ev1 (fun v h3 hq => ?_)
  obtain ⟨r5, rfl, hq⟩ := hq
  have k := k r5 h3 hq
  show Rn X m_Lw_law 588 [some (vR [2]), some (vR [0]), some (vR [1]), some (vI a3)] [vI r5] h3 Q
  refine Rn.aload_n (n := 589) (i := 2) d_Lw_law_588 rfl rfl rfl ?_
  obtain ⟨Q'9, ev6, k⟩ := k
  refine Rn.callV (n := 592) (av := []) d_Lw_law_589 rfl ml_Lw_law_80 mi_Rf_bus Lv_1 rfl rfl rfl rfl (Nat.le_of_ble_eq_true rfl) ev6 (fun v h8 hq => ?_)
  obtain ⟨r10, rfl, hq⟩ := hq
  have k := k r10 h8 hq
  show Rn X m_Lw_law 592 [some (vR [2]), some (vR [0]), some (vR [1]), some (vI a3)] [vI r10, vI r5] h8 Q
  refine Rn.icmp_eq (n := 595) (t := 1084) d_Lw_law_592 rfl (by decide) (fun cc => ?_) (fun cc => ?_)
  · have k := k.1 cc
    exact k
  · have k := k.2 cc
    refine Rn.iconst (n := 596) (v := 0) d_Lw_law_595 rfl (by decide) ?_
    exact Rn.iret d_Lw_law_596 rfl (by rfl) k
theorem g_Lw_law_597 {X : XS} (a3 : Int32) (h : Hp) (Q : Option AV → Hp → Prop)  (k : (vp_in (a3 + 1) X.1 ∧ (∃ Q'5, EvI X m_Us_wet [vR [0], vI (X.2 (a3 + 1).toNatClampNeg)] h Q'5 ∧ ∀ (r6 : Int32) (h4 : Hp), Q'5 r6 h4 → (vp_in (a3 + 1) X.1 ∧ (∃ Q'11, EvI X m_Rf_wet [vR [1], vI (X.2 (a3 + 1).toNatClampNeg)] h4 Q'11 ∧ ∀ (r12 : Int32) (h10 : Hp), Q'11 r12 h10 → ((r6 = r12 → Rn X m_Lw_law 1084 [some (vR [2]), some (vR [0]), some (vR [1]), some (vI a3)] [] h10 Q) ∧ (¬ r6 = r12 → Q (some (vI 0)) h10))))))) : Rn X m_Lw_law 597 [some (vR [2]), some (vR [0]), some (vR [1]), some (vI a3)] [] h Q := by
  refine Rn.aload_n (n := 598) (i := 1) d_Lw_law_597 rfl rfl rfl ?_
  refine Rn.aload_n (n := 599) (i := 0) d_Lw_law_598 rfl rfl rfl ?_
  refine Rn.iload_n (n := 600) (i := 3) d_Lw_law_599 rfl rfl rfl ?_
  refine Rn.iconst (n := 601) (v := 1) d_Lw_law_600 rfl (by decide) ?_
  refine Rn.iadd (n := 602) d_Lw_law_601 rfl ?_
  obtain ⟨b1, k⟩ := k
  refine Rn.sld (n := 603) d_Lw_law_602 rfl b1 ?_
  obtain ⟨Q'5, ev2, k⟩ := k
  refine Rn.callV (n := 606) (av := [vI (X.2 (a3 + 1).toNatClampNeg)]) d_Lw_law_603 rfl ml_Lw_law_81 mi_Us_wet Lv_0 rfl rfl rfl rfl (Nat.le_of_ble_eq_true rfl) ev2 (fun v h4 hq => ?_)
  obtain ⟨r6, rfl, hq⟩ := hq
  have k := k r6 h4 hq
  show Rn X m_Lw_law 606 [some (vR [2]), some (vR [0]), some (vR [1]), some (vI a3)] [vI r6] h4 Q
  refine Rn.aload_n (n := 607) (i := 2) d_Lw_law_606 rfl rfl rfl ?_
  refine Rn.aload_n (n := 608) (i := 0) d_Lw_law_607 rfl rfl rfl ?_
  refine Rn.iload_n (n := 609) (i := 3) d_Lw_law_608 rfl rfl rfl ?_
  refine Rn.iconst (n := 610) (v := 1) d_Lw_law_609 rfl (by decide) ?_
  refine Rn.iadd (n := 611) d_Lw_law_610 rfl ?_
  obtain ⟨b7, k⟩ := k
  refine Rn.sld (n := 612) d_Lw_law_611 rfl b7 ?_
  obtain ⟨Q'11, ev8, k⟩ := k
  refine Rn.callV (n := 615) (av := [vI (X.2 (a3 + 1).toNatClampNeg)]) d_Lw_law_612 rfl ml_Lw_law_84 mi_Rf_wet Lv_1 rfl rfl rfl rfl (Nat.le_of_ble_eq_true rfl) ev8 (fun v h10 hq => ?_)
  obtain ⟨r12, rfl, hq⟩ := hq
  have k := k r12 h10 hq
  show Rn X m_Lw_law 615 [some (vR [2]), some (vR [0]), some (vR [1]), some (vI a3)] [vI r12, vI r6] h10 Q
  refine Rn.icmp_eq (n := 618) (t := 1084) d_Lw_law_615 rfl (by decide) (fun cc => ?_) (fun cc => ?_)
  · have k := k.1 cc
    exact k
  · have k := k.2 cc
    refine Rn.iconst (n := 619) (v := 0) d_Lw_law_618 rfl (by decide) ?_
    exact Rn.iret d_Lw_law_619 rfl (by rfl) k
theorem g_Lw_law_620 {X : XS} (a3 : Int32) (h : Hp) (Q : Option AV → Hp → Prop)  (k : (vp_in (a3 + 1) X.1 ∧ (∃ Q'5, EvI X m_Us_driest [vR [0], vI (X.2 (a3 + 1).toNatClampNeg)] h Q'5 ∧ ∀ (r6 : Int32) (h4 : Hp), Q'5 r6 h4 → (vp_in (a3 + 1) X.1 ∧ (∃ Q'11, EvI X m_Rf_driest [vR [1], vI (X.2 (a3 + 1).toNatClampNeg)] h4 Q'11 ∧ ∀ (r12 : Int32) (h10 : Hp), Q'11 r12 h10 → ((r6 = r12 → Rn X m_Lw_law 1084 [some (vR [2]), some (vR [0]), some (vR [1]), some (vI a3)] [] h10 Q) ∧ (¬ r6 = r12 → Q (some (vI 0)) h10))))))) : Rn X m_Lw_law 620 [some (vR [2]), some (vR [0]), some (vR [1]), some (vI a3)] [] h Q := by
  refine Rn.aload_n (n := 621) (i := 1) d_Lw_law_620 rfl rfl rfl ?_
  refine Rn.aload_n (n := 622) (i := 0) d_Lw_law_621 rfl rfl rfl ?_
  refine Rn.iload_n (n := 623) (i := 3) d_Lw_law_622 rfl rfl rfl ?_
  refine Rn.iconst (n := 624) (v := 1) d_Lw_law_623 rfl (by decide) ?_
  refine Rn.iadd (n := 625) d_Lw_law_624 rfl ?_
  obtain ⟨b1, k⟩ := k
  refine Rn.sld (n := 626) d_Lw_law_625 rfl b1 ?_
  obtain ⟨Q'5, ev2, k⟩ := k
  refine Rn.callV (n := 629) (av := [vI (X.2 (a3 + 1).toNatClampNeg)]) d_Lw_law_626 rfl ml_Lw_law_85 mi_Us_driest Lv_0 rfl rfl rfl rfl (Nat.le_of_ble_eq_true rfl) ev2 (fun v h4 hq => ?_)
  obtain ⟨r6, rfl, hq⟩ := hq
  have k := k r6 h4 hq
  show Rn X m_Lw_law 629 [some (vR [2]), some (vR [0]), some (vR [1]), some (vI a3)] [vI r6] h4 Q
  refine Rn.aload_n (n := 630) (i := 2) d_Lw_law_629 rfl rfl rfl ?_
  refine Rn.aload_n (n := 631) (i := 0) d_Lw_law_630 rfl rfl rfl ?_
  refine Rn.iload_n (n := 632) (i := 3) d_Lw_law_631 rfl rfl rfl ?_
  refine Rn.iconst (n := 633) (v := 1) d_Lw_law_632 rfl (by decide) ?_
  refine Rn.iadd (n := 634) d_Lw_law_633 rfl ?_
  obtain ⟨b7, k⟩ := k
  refine Rn.sld (n := 635) d_Lw_law_634 rfl b7 ?_
  obtain ⟨Q'11, ev8, k⟩ := k
  refine Rn.callV (n := 638) (av := [vI (X.2 (a3 + 1).toNatClampNeg)]) d_Lw_law_635 rfl ml_Lw_law_88 mi_Rf_driest Lv_1 rfl rfl rfl rfl (Nat.le_of_ble_eq_true rfl) ev8 (fun v h10 hq => ?_)
  obtain ⟨r12, rfl, hq⟩ := hq
  have k := k r12 h10 hq
  show Rn X m_Lw_law 638 [some (vR [2]), some (vR [0]), some (vR [1]), some (vI a3)] [vI r12, vI r6] h10 Q
  refine Rn.icmp_eq (n := 641) (t := 1084) d_Lw_law_638 rfl (by decide) (fun cc => ?_) (fun cc => ?_)
  · have k := k.1 cc
    exact k
  · have k := k.2 cc
    refine Rn.iconst (n := 642) (v := 0) d_Lw_law_641 rfl (by decide) ?_
    exact Rn.iret d_Lw_law_642 rfl (by rfl) k
theorem g_Lw_law_643 {X : XS} (a3 : Int32) (h : Hp) (Q : Option AV → Hp → Prop)  (k : (vp_in (a3 + 1) X.1 ∧ (vp_in (a3 + 2) X.1 ∧ (vp_in (a3 + 3) X.1 ∧ (vp_in (a3 + 4) X.1 ∧ (vp_in (a3 + 5) X.1 ∧ (∃ Q'9, EvI X m_Us_two [vR [0], vI (X.2 (a3 + 1).toNatClampNeg), vI (X.2 (a3 + 2).toNatClampNeg), vI (X.2 (a3 + 3).toNatClampNeg), vI (X.2 (a3 + 4).toNatClampNeg), vI (X.2 (a3 + 5).toNatClampNeg)] h Q'9 ∧ ∀ (r10 : Int32) (h8 : Hp), Q'9 r10 h8 → (vp_in (a3 + 1) X.1 ∧ (vp_in (a3 + 2) X.1 ∧ (vp_in (a3 + 3) X.1 ∧ (vp_in (a3 + 4) X.1 ∧ (vp_in (a3 + 5) X.1 ∧ (∃ Q'19, EvI X m_Rf_two [vR [1], vI (X.2 (a3 + 1).toNatClampNeg), vI (X.2 (a3 + 2).toNatClampNeg), vI (X.2 (a3 + 3).toNatClampNeg), vI (X.2 (a3 + 4).toNatClampNeg), vI (X.2 (a3 + 5).toNatClampNeg)] h8 Q'19 ∧ ∀ (r20 : Int32) (h18 : Hp), Q'19 r20 h18 → ((r10 = r20 → Rn X m_Lw_law 1084 [some (vR [2]), some (vR [0]), some (vR [1]), some (vI a3)] [] h18 Q) ∧ (¬ r10 = r20 → Q (some (vI 0)) h18))))))))))))))) : Rn X m_Lw_law 643 [some (vR [2]), some (vR [0]), some (vR [1]), some (vI a3)] [] h Q := by
  refine Rn.aload_n (n := 644) (i := 1) d_Lw_law_643 rfl rfl rfl ?_
  refine Rn.aload_n (n := 645) (i := 0) d_Lw_law_644 rfl rfl rfl ?_
  refine Rn.iload_n (n := 646) (i := 3) d_Lw_law_645 rfl rfl rfl ?_
  refine Rn.iconst (n := 647) (v := 1) d_Lw_law_646 rfl (by decide) ?_
  refine Rn.iadd (n := 648) d_Lw_law_647 rfl ?_
  obtain ⟨b1, k⟩ := k
  refine Rn.sld (n := 649) d_Lw_law_648 rfl b1 ?_
  refine Rn.aload_n (n := 650) (i := 0) d_Lw_law_649 rfl rfl rfl ?_
  refine Rn.iload_n (n := 651) (i := 3) d_Lw_law_650 rfl rfl rfl ?_
  refine Rn.iconst (n := 652) (v := 2) d_Lw_law_651 rfl (by decide) ?_
  refine Rn.iadd (n := 653) d_Lw_law_652 rfl ?_
  obtain ⟨b2, k⟩ := k
  refine Rn.sld (n := 654) d_Lw_law_653 rfl b2 ?_
  refine Rn.aload_n (n := 655) (i := 0) d_Lw_law_654 rfl rfl rfl ?_
  refine Rn.iload_n (n := 656) (i := 3) d_Lw_law_655 rfl rfl rfl ?_
  refine Rn.iconst (n := 657) (v := 3) d_Lw_law_656 rfl (by decide) ?_
  refine Rn.iadd (n := 658) d_Lw_law_657 rfl ?_
  obtain ⟨b3, k⟩ := k
  refine Rn.sld (n := 659) d_Lw_law_658 rfl b3 ?_
  refine Rn.aload_n (n := 660) (i := 0) d_Lw_law_659 rfl rfl rfl ?_
  refine Rn.iload_n (n := 661) (i := 3) d_Lw_law_660 rfl rfl rfl ?_
  refine Rn.iconst (n := 662) (v := 4) d_Lw_law_661 rfl (by decide) ?_
  refine Rn.iadd (n := 663) d_Lw_law_662 rfl ?_
  obtain ⟨b4, k⟩ := k
  refine Rn.sld (n := 664) d_Lw_law_663 rfl b4 ?_
  refine Rn.aload_n (n := 665) (i := 0) d_Lw_law_664 rfl rfl rfl ?_
  refine Rn.iload_n (n := 666) (i := 3) d_Lw_law_665 rfl rfl rfl ?_
  refine Rn.iconst (n := 667) (v := 5) d_Lw_law_666 rfl (by decide) ?_
  refine Rn.iadd (n := 668) d_Lw_law_667 rfl ?_
  obtain ⟨b5, k⟩ := k
  refine Rn.sld (n := 669) d_Lw_law_668 rfl b5 ?_
  obtain ⟨Q'9, ev6, k⟩ := k
  refine Rn.callV (n := 672) (av := [vI (X.2 (a3 + 1).toNatClampNeg), vI (X.2 (a3 + 2).toNatClampNeg), vI (X.2 (a3 + 3).toNatClampNeg), vI (X.2 (a3 + 4).toNatClampNeg), vI (X.2 (a3 + 5).toNatClampNeg)]) d_Lw_law_669 rfl ml_Lw_law_89 mi_Us_two Lv_0 rfl rfl rfl rfl (Nat.le_of_ble_eq_true rfl) ev6 (fun v h8 hq => ?_)
  obtain ⟨r10, rfl, hq⟩ := hq
  have k := k r10 h8 hq
  show Rn X m_Lw_law 672 [some (vR [2]), some (vR [0]), some (vR [1]), some (vI a3)] [vI r10] h8 Q
  refine Rn.aload_n (n := 673) (i := 2) d_Lw_law_672 rfl rfl rfl ?_
  refine Rn.aload_n (n := 674) (i := 0) d_Lw_law_673 rfl rfl rfl ?_
  refine Rn.iload_n (n := 675) (i := 3) d_Lw_law_674 rfl rfl rfl ?_
  refine Rn.iconst (n := 676) (v := 1) d_Lw_law_675 rfl (by decide) ?_
  refine Rn.iadd (n := 677) d_Lw_law_676 rfl ?_
  obtain ⟨b11, k⟩ := k
  refine Rn.sld (n := 678) d_Lw_law_677 rfl b11 ?_
  refine Rn.aload_n (n := 679) (i := 0) d_Lw_law_678 rfl rfl rfl ?_
  refine Rn.iload_n (n := 680) (i := 3) d_Lw_law_679 rfl rfl rfl ?_
  refine Rn.iconst (n := 681) (v := 2) d_Lw_law_680 rfl (by decide) ?_
  refine Rn.iadd (n := 682) d_Lw_law_681 rfl ?_
  obtain ⟨b12, k⟩ := k
  refine Rn.sld (n := 683) d_Lw_law_682 rfl b12 ?_
  refine Rn.aload_n (n := 684) (i := 0) d_Lw_law_683 rfl rfl rfl ?_
  refine Rn.iload_n (n := 685) (i := 3) d_Lw_law_684 rfl rfl rfl ?_
  refine Rn.iconst (n := 686) (v := 3) d_Lw_law_685 rfl (by decide) ?_
  refine Rn.iadd (n := 687) d_Lw_law_686 rfl ?_
  obtain ⟨b13, k⟩ := k
  refine Rn.sld (n := 688) d_Lw_law_687 rfl b13 ?_
  refine Rn.aload_n (n := 689) (i := 0) d_Lw_law_688 rfl rfl rfl ?_
  refine Rn.iload_n (n := 690) (i := 3) d_Lw_law_689 rfl rfl rfl ?_
  refine Rn.iconst (n := 691) (v := 4) d_Lw_law_690 rfl (by decide) ?_
  refine Rn.iadd (n := 692) d_Lw_law_691 rfl ?_
  obtain ⟨b14, k⟩ := k
  refine Rn.sld (n := 693) d_Lw_law_692 rfl b14 ?_
  refine Rn.aload_n (n := 694) (i := 0) d_Lw_law_693 rfl rfl rfl ?_
  refine Rn.iload_n (n := 695) (i := 3) d_Lw_law_694 rfl rfl rfl ?_
  refine Rn.iconst (n := 696) (v := 5) d_Lw_law_695 rfl (by decide) ?_
  refine Rn.iadd (n := 697) d_Lw_law_696 rfl ?_
  obtain ⟨b15, k⟩ := k
  refine Rn.sld (n := 698) d_Lw_law_697 rfl b15 ?_
  obtain ⟨Q'19, ev16, k⟩ := k
  refine Rn.callV (n := 701) (av := [vI (X.2 (a3 + 1).toNatClampNeg), vI (X.2 (a3 + 2).toNatClampNeg), vI (X.2 (a3 + 3).toNatClampNeg), vI (X.2 (a3 + 4).toNatClampNeg), vI (X.2 (a3 + 5).toNatClampNeg)]) d_Lw_law_698 rfl ml_Lw_law_93 mi_Rf_two Lv_1 rfl rfl rfl rfl (Nat.le_of_ble_eq_true rfl) ev16 (fun v h18 hq => ?_)
  obtain ⟨r20, rfl, hq⟩ := hq
  have k := k r20 h18 hq
  show Rn X m_Lw_law 701 [some (vR [2]), some (vR [0]), some (vR [1]), some (vI a3)] [vI r20, vI r10] h18 Q
  refine Rn.icmp_eq (n := 704) (t := 1084) d_Lw_law_701 rfl (by decide) (fun cc => ?_) (fun cc => ?_)
  · have k := k.1 cc
    exact k
  · have k := k.2 cc
    refine Rn.iconst (n := 705) (v := 0) d_Lw_law_704 rfl (by decide) ?_
    exact Rn.iret d_Lw_law_705 rfl (by rfl) k
theorem g_Lw_law_706 {X : XS} (a3 : Int32) (h : Hp) (Q : Option AV → Hp → Prop)  (k : (vp_in (a3 + 1) X.1 ∧ (vp_in (a3 + 2) X.1 ∧ (vp_in (a3 + 3) X.1 ∧ (∃ Q'7, EvI X m_Us_fair [vR [0], vI (X.2 (a3 + 1).toNatClampNeg), vI (X.2 (a3 + 2).toNatClampNeg), vI (X.2 (a3 + 3).toNatClampNeg)] h Q'7 ∧ ∀ (r8 : Int32) (h6 : Hp), Q'7 r8 h6 → (vp_in (a3 + 1) X.1 ∧ (vp_in (a3 + 2) X.1 ∧ (vp_in (a3 + 3) X.1 ∧ (∃ Q'15, EvI X m_Rf_fair [vR [1], vI (X.2 (a3 + 1).toNatClampNeg), vI (X.2 (a3 + 2).toNatClampNeg), vI (X.2 (a3 + 3).toNatClampNeg)] h6 Q'15 ∧ ∀ (r16 : Int32) (h14 : Hp), Q'15 r16 h14 → ((r8 = r16 → Rn X m_Lw_law 1084 [some (vR [2]), some (vR [0]), some (vR [1]), some (vI a3)] [] h14 Q) ∧ (¬ r8 = r16 → Q (some (vI 0)) h14))))))))))) : Rn X m_Lw_law 706 [some (vR [2]), some (vR [0]), some (vR [1]), some (vI a3)] [] h Q := by
  refine Rn.aload_n (n := 707) (i := 1) d_Lw_law_706 rfl rfl rfl ?_
  refine Rn.aload_n (n := 708) (i := 0) d_Lw_law_707 rfl rfl rfl ?_
  refine Rn.iload_n (n := 709) (i := 3) d_Lw_law_708 rfl rfl rfl ?_
  refine Rn.iconst (n := 710) (v := 1) d_Lw_law_709 rfl (by decide) ?_
  refine Rn.iadd (n := 711) d_Lw_law_710 rfl ?_
  obtain ⟨b1, k⟩ := k
  refine Rn.sld (n := 712) d_Lw_law_711 rfl b1 ?_
  refine Rn.aload_n (n := 713) (i := 0) d_Lw_law_712 rfl rfl rfl ?_
  refine Rn.iload_n (n := 714) (i := 3) d_Lw_law_713 rfl rfl rfl ?_
  refine Rn.iconst (n := 715) (v := 2) d_Lw_law_714 rfl (by decide) ?_
  refine Rn.iadd (n := 716) d_Lw_law_715 rfl ?_
  obtain ⟨b2, k⟩ := k
  refine Rn.sld (n := 717) d_Lw_law_716 rfl b2 ?_
  refine Rn.aload_n (n := 718) (i := 0) d_Lw_law_717 rfl rfl rfl ?_
  refine Rn.iload_n (n := 719) (i := 3) d_Lw_law_718 rfl rfl rfl ?_
  refine Rn.iconst (n := 720) (v := 3) d_Lw_law_719 rfl (by decide) ?_
  refine Rn.iadd (n := 721) d_Lw_law_720 rfl ?_
  obtain ⟨b3, k⟩ := k
  refine Rn.sld (n := 722) d_Lw_law_721 rfl b3 ?_
  obtain ⟨Q'7, ev4, k⟩ := k
  refine Rn.callV (n := 725) (av := [vI (X.2 (a3 + 1).toNatClampNeg), vI (X.2 (a3 + 2).toNatClampNeg), vI (X.2 (a3 + 3).toNatClampNeg)]) d_Lw_law_722 rfl ml_Lw_law_94 mi_Us_fair Lv_0 rfl rfl rfl rfl (Nat.le_of_ble_eq_true rfl) ev4 (fun v h6 hq => ?_)
  obtain ⟨r8, rfl, hq⟩ := hq
  have k := k r8 h6 hq
  show Rn X m_Lw_law 725 [some (vR [2]), some (vR [0]), some (vR [1]), some (vI a3)] [vI r8] h6 Q
  refine Rn.aload_n (n := 726) (i := 2) d_Lw_law_725 rfl rfl rfl ?_
  refine Rn.aload_n (n := 727) (i := 0) d_Lw_law_726 rfl rfl rfl ?_
  refine Rn.iload_n (n := 728) (i := 3) d_Lw_law_727 rfl rfl rfl ?_
  refine Rn.iconst (n := 729) (v := 1) d_Lw_law_728 rfl (by decide) ?_
  refine Rn.iadd (n := 730) d_Lw_law_729 rfl ?_
  obtain ⟨b9, k⟩ := k
  refine Rn.sld (n := 731) d_Lw_law_730 rfl b9 ?_
  refine Rn.aload_n (n := 732) (i := 0) d_Lw_law_731 rfl rfl rfl ?_
  refine Rn.iload_n (n := 733) (i := 3) d_Lw_law_732 rfl rfl rfl ?_
  refine Rn.iconst (n := 734) (v := 2) d_Lw_law_733 rfl (by decide) ?_
  refine Rn.iadd (n := 735) d_Lw_law_734 rfl ?_
  obtain ⟨b10, k⟩ := k
  refine Rn.sld (n := 736) d_Lw_law_735 rfl b10 ?_
  refine Rn.aload_n (n := 737) (i := 0) d_Lw_law_736 rfl rfl rfl ?_
  refine Rn.iload_n (n := 738) (i := 3) d_Lw_law_737 rfl rfl rfl ?_
  refine Rn.iconst (n := 739) (v := 3) d_Lw_law_738 rfl (by decide) ?_
  refine Rn.iadd (n := 740) d_Lw_law_739 rfl ?_
  obtain ⟨b11, k⟩ := k
  refine Rn.sld (n := 741) d_Lw_law_740 rfl b11 ?_
  obtain ⟨Q'15, ev12, k⟩ := k
  refine Rn.callV (n := 744) (av := [vI (X.2 (a3 + 1).toNatClampNeg), vI (X.2 (a3 + 2).toNatClampNeg), vI (X.2 (a3 + 3).toNatClampNeg)]) d_Lw_law_741 rfl ml_Lw_law_97 mi_Rf_fair Lv_1 rfl rfl rfl rfl (Nat.le_of_ble_eq_true rfl) ev12 (fun v h14 hq => ?_)
  obtain ⟨r16, rfl, hq⟩ := hq
  have k := k r16 h14 hq
  show Rn X m_Lw_law 744 [some (vR [2]), some (vR [0]), some (vR [1]), some (vI a3)] [vI r16, vI r8] h14 Q
  refine Rn.icmp_eq (n := 747) (t := 1084) d_Lw_law_744 rfl (by decide) (fun cc => ?_) (fun cc => ?_)
  · have k := k.1 cc
    exact k
  · have k := k.2 cc
    refine Rn.iconst (n := 748) (v := 0) d_Lw_law_747 rfl (by decide) ?_
    exact Rn.iret d_Lw_law_748 rfl (by rfl) k
theorem g_Lw_law_749 {X : XS} (a3 : Int32) (h : Hp) (Q : Option AV → Hp → Prop)  (k : (vp_in (a3 + 1) X.1 ∧ (vp_in (a3 + 2) X.1 ∧ (vp_in (a3 + 3) X.1 ∧ (vp_in (a3 + 4) X.1 ∧ (vp_in (a3 + 5) X.1 ∧ (vp_in (a3 + 6) X.1 ∧ (∃ Q'10, EvI X m_Us_run [vR [0], vI (X.2 (a3 + 1).toNatClampNeg), vI (X.2 (a3 + 2).toNatClampNeg), vI (X.2 (a3 + 3).toNatClampNeg), vI (X.2 (a3 + 4).toNatClampNeg), vI (X.2 (a3 + 5).toNatClampNeg), vI (X.2 (a3 + 6).toNatClampNeg)] h Q'10 ∧ ∀ (r11 : Int32) (h9 : Hp), Q'10 r11 h9 → (vp_in (a3 + 1) X.1 ∧ (vp_in (a3 + 2) X.1 ∧ (vp_in (a3 + 3) X.1 ∧ (vp_in (a3 + 4) X.1 ∧ (vp_in (a3 + 5) X.1 ∧ (vp_in (a3 + 6) X.1 ∧ (∃ Q'21, EvI X m_Rf_run [vR [1], vI (X.2 (a3 + 1).toNatClampNeg), vI (X.2 (a3 + 2).toNatClampNeg), vI (X.2 (a3 + 3).toNatClampNeg), vI (X.2 (a3 + 4).toNatClampNeg), vI (X.2 (a3 + 5).toNatClampNeg), vI (X.2 (a3 + 6).toNatClampNeg)] h9 Q'21 ∧ ∀ (r22 : Int32) (h20 : Hp), Q'21 r22 h20 → ((r11 = r22 → Rn X m_Lw_law 1084 [some (vR [2]), some (vR [0]), some (vR [1]), some (vI a3)] [] h20 Q) ∧ (¬ r11 = r22 → Q (some (vI 0)) h20))))))))))))))))) : Rn X m_Lw_law 749 [some (vR [2]), some (vR [0]), some (vR [1]), some (vI a3)] [] h Q := by
  refine Rn.aload_n (n := 750) (i := 1) d_Lw_law_749 rfl rfl rfl ?_
  refine Rn.aload_n (n := 751) (i := 0) d_Lw_law_750 rfl rfl rfl ?_
  refine Rn.iload_n (n := 752) (i := 3) d_Lw_law_751 rfl rfl rfl ?_
  refine Rn.iconst (n := 753) (v := 1) d_Lw_law_752 rfl (by decide) ?_
  refine Rn.iadd (n := 754) d_Lw_law_753 rfl ?_
  obtain ⟨b1, k⟩ := k
  refine Rn.sld (n := 755) d_Lw_law_754 rfl b1 ?_
  refine Rn.aload_n (n := 756) (i := 0) d_Lw_law_755 rfl rfl rfl ?_
  refine Rn.iload_n (n := 757) (i := 3) d_Lw_law_756 rfl rfl rfl ?_
  refine Rn.iconst (n := 758) (v := 2) d_Lw_law_757 rfl (by decide) ?_
  refine Rn.iadd (n := 759) d_Lw_law_758 rfl ?_
  obtain ⟨b2, k⟩ := k
  refine Rn.sld (n := 760) d_Lw_law_759 rfl b2 ?_
  refine Rn.aload_n (n := 761) (i := 0) d_Lw_law_760 rfl rfl rfl ?_
  refine Rn.iload_n (n := 762) (i := 3) d_Lw_law_761 rfl rfl rfl ?_
  refine Rn.iconst (n := 763) (v := 3) d_Lw_law_762 rfl (by decide) ?_
  refine Rn.iadd (n := 764) d_Lw_law_763 rfl ?_
  obtain ⟨b3, k⟩ := k
  refine Rn.sld (n := 765) d_Lw_law_764 rfl b3 ?_
  refine Rn.aload_n (n := 766) (i := 0) d_Lw_law_765 rfl rfl rfl ?_
  refine Rn.iload_n (n := 767) (i := 3) d_Lw_law_766 rfl rfl rfl ?_
  refine Rn.iconst (n := 768) (v := 4) d_Lw_law_767 rfl (by decide) ?_
  refine Rn.iadd (n := 769) d_Lw_law_768 rfl ?_
  obtain ⟨b4, k⟩ := k
  refine Rn.sld (n := 770) d_Lw_law_769 rfl b4 ?_
  refine Rn.aload_n (n := 771) (i := 0) d_Lw_law_770 rfl rfl rfl ?_
  refine Rn.iload_n (n := 772) (i := 3) d_Lw_law_771 rfl rfl rfl ?_
  refine Rn.iconst (n := 773) (v := 5) d_Lw_law_772 rfl (by decide) ?_
  refine Rn.iadd (n := 774) d_Lw_law_773 rfl ?_
  obtain ⟨b5, k⟩ := k
  refine Rn.sld (n := 775) d_Lw_law_774 rfl b5 ?_
  refine Rn.aload_n (n := 776) (i := 0) d_Lw_law_775 rfl rfl rfl ?_
  refine Rn.iload_n (n := 777) (i := 3) d_Lw_law_776 rfl rfl rfl ?_
  refine Rn.bipush (n := 779) (v := 6) d_Lw_law_777 rfl (by decide) ?_
  refine Rn.iadd (n := 780) d_Lw_law_779 rfl ?_
  obtain ⟨b6, k⟩ := k
  refine Rn.sld (n := 781) d_Lw_law_780 rfl b6 ?_
  obtain ⟨Q'10, ev7, k⟩ := k
  refine Rn.callV (n := 784) (av := [vI (X.2 (a3 + 1).toNatClampNeg), vI (X.2 (a3 + 2).toNatClampNeg), vI (X.2 (a3 + 3).toNatClampNeg), vI (X.2 (a3 + 4).toNatClampNeg), vI (X.2 (a3 + 5).toNatClampNeg), vI (X.2 (a3 + 6).toNatClampNeg)]) d_Lw_law_781 rfl ml_Lw_law_98 mi_Us_run Lv_0 rfl rfl rfl rfl (Nat.le_of_ble_eq_true rfl) ev7 (fun v h9 hq => ?_)
  obtain ⟨r11, rfl, hq⟩ := hq
  have k := k r11 h9 hq
  show Rn X m_Lw_law 784 [some (vR [2]), some (vR [0]), some (vR [1]), some (vI a3)] [vI r11] h9 Q
  refine Rn.aload_n (n := 785) (i := 2) d_Lw_law_784 rfl rfl rfl ?_
  refine Rn.aload_n (n := 786) (i := 0) d_Lw_law_785 rfl rfl rfl ?_
  refine Rn.iload_n (n := 787) (i := 3) d_Lw_law_786 rfl rfl rfl ?_
  refine Rn.iconst (n := 788) (v := 1) d_Lw_law_787 rfl (by decide) ?_
  refine Rn.iadd (n := 789) d_Lw_law_788 rfl ?_
  obtain ⟨b12, k⟩ := k
  refine Rn.sld (n := 790) d_Lw_law_789 rfl b12 ?_
  refine Rn.aload_n (n := 791) (i := 0) d_Lw_law_790 rfl rfl rfl ?_
  refine Rn.iload_n (n := 792) (i := 3) d_Lw_law_791 rfl rfl rfl ?_
  refine Rn.iconst (n := 793) (v := 2) d_Lw_law_792 rfl (by decide) ?_
  refine Rn.iadd (n := 794) d_Lw_law_793 rfl ?_
  obtain ⟨b13, k⟩ := k
  refine Rn.sld (n := 795) d_Lw_law_794 rfl b13 ?_
  refine Rn.aload_n (n := 796) (i := 0) d_Lw_law_795 rfl rfl rfl ?_
  refine Rn.iload_n (n := 797) (i := 3) d_Lw_law_796 rfl rfl rfl ?_
  refine Rn.iconst (n := 798) (v := 3) d_Lw_law_797 rfl (by decide) ?_
  refine Rn.iadd (n := 799) d_Lw_law_798 rfl ?_
  obtain ⟨b14, k⟩ := k
  refine Rn.sld (n := 800) d_Lw_law_799 rfl b14 ?_
  refine Rn.aload_n (n := 801) (i := 0) d_Lw_law_800 rfl rfl rfl ?_
  refine Rn.iload_n (n := 802) (i := 3) d_Lw_law_801 rfl rfl rfl ?_
  refine Rn.iconst (n := 803) (v := 4) d_Lw_law_802 rfl (by decide) ?_
  refine Rn.iadd (n := 804) d_Lw_law_803 rfl ?_
  obtain ⟨b15, k⟩ := k
  refine Rn.sld (n := 805) d_Lw_law_804 rfl b15 ?_
  refine Rn.aload_n (n := 806) (i := 0) d_Lw_law_805 rfl rfl rfl ?_
  refine Rn.iload_n (n := 807) (i := 3) d_Lw_law_806 rfl rfl rfl ?_
  refine Rn.iconst (n := 808) (v := 5) d_Lw_law_807 rfl (by decide) ?_
  refine Rn.iadd (n := 809) d_Lw_law_808 rfl ?_
  obtain ⟨b16, k⟩ := k
  refine Rn.sld (n := 810) d_Lw_law_809 rfl b16 ?_
  refine Rn.aload_n (n := 811) (i := 0) d_Lw_law_810 rfl rfl rfl ?_
  refine Rn.iload_n (n := 812) (i := 3) d_Lw_law_811 rfl rfl rfl ?_
  refine Rn.bipush (n := 814) (v := 6) d_Lw_law_812 rfl (by decide) ?_
  refine Rn.iadd (n := 815) d_Lw_law_814 rfl ?_
  obtain ⟨b17, k⟩ := k
  refine Rn.sld (n := 816) d_Lw_law_815 rfl b17 ?_
  obtain ⟨Q'21, ev18, k⟩ := k
  refine Rn.callV (n := 819) (av := [vI (X.2 (a3 + 1).toNatClampNeg), vI (X.2 (a3 + 2).toNatClampNeg), vI (X.2 (a3 + 3).toNatClampNeg), vI (X.2 (a3 + 4).toNatClampNeg), vI (X.2 (a3 + 5).toNatClampNeg), vI (X.2 (a3 + 6).toNatClampNeg)]) d_Lw_law_816 rfl ml_Lw_law_102 mi_Rf_run Lv_1 rfl rfl rfl rfl (Nat.le_of_ble_eq_true rfl) ev18 (fun v h20 hq => ?_)
  obtain ⟨r22, rfl, hq⟩ := hq
  have k := k r22 h20 hq
  show Rn X m_Lw_law 819 [some (vR [2]), some (vR [0]), some (vR [1]), some (vI a3)] [vI r22, vI r11] h20 Q
  refine Rn.icmp_eq (n := 822) (t := 1084) d_Lw_law_819 rfl (by decide) (fun cc => ?_) (fun cc => ?_)
  · have k := k.1 cc
    exact k
  · have k := k.2 cc
    refine Rn.iconst (n := 823) (v := 0) d_Lw_law_822 rfl (by decide) ?_
    exact Rn.iret d_Lw_law_823 rfl (by rfl) k
theorem g_Lw_law_824 {X : XS} (a3 : Int32) (h : Hp) (Q : Option AV → Hp → Prop)  (k : (vp_in (a3 + 1) X.1 ∧ (vp_in (a3 + 2) X.1 ∧ (vp_in (a3 + 3) X.1 ∧ (vp_in (a3 + 4) X.1 ∧ (∃ Q'8, EvI X m_Us_pace [vR [0], vI (X.2 (a3 + 1).toNatClampNeg), vI (X.2 (a3 + 2).toNatClampNeg), vI (X.2 (a3 + 3).toNatClampNeg), vI (X.2 (a3 + 4).toNatClampNeg)] h Q'8 ∧ ∀ (r9 : Int32) (h7 : Hp), Q'8 r9 h7 → (vp_in (a3 + 1) X.1 ∧ (vp_in (a3 + 2) X.1 ∧ (vp_in (a3 + 3) X.1 ∧ (vp_in (a3 + 4) X.1 ∧ (∃ Q'17, EvI X m_Rf_pace [vR [1], vI (X.2 (a3 + 1).toNatClampNeg), vI (X.2 (a3 + 2).toNatClampNeg), vI (X.2 (a3 + 3).toNatClampNeg), vI (X.2 (a3 + 4).toNatClampNeg)] h7 Q'17 ∧ ∀ (r18 : Int32) (h16 : Hp), Q'17 r18 h16 → ((r9 = r18 → Rn X m_Lw_law 1084 [some (vR [2]), some (vR [0]), some (vR [1]), some (vI a3)] [] h16 Q) ∧ (¬ r9 = r18 → Q (some (vI 0)) h16))))))))))))) : Rn X m_Lw_law 824 [some (vR [2]), some (vR [0]), some (vR [1]), some (vI a3)] [] h Q := by
  refine Rn.aload_n (n := 825) (i := 1) d_Lw_law_824 rfl rfl rfl ?_
  refine Rn.aload_n (n := 826) (i := 0) d_Lw_law_825 rfl rfl rfl ?_
  refine Rn.iload_n (n := 827) (i := 3) d_Lw_law_826 rfl rfl rfl ?_
  refine Rn.iconst (n := 828) (v := 1) d_Lw_law_827 rfl (by decide) ?_
  refine Rn.iadd (n := 829) d_Lw_law_828 rfl ?_
  obtain ⟨b1, k⟩ := k
  refine Rn.sld (n := 830) d_Lw_law_829 rfl b1 ?_
  refine Rn.aload_n (n := 831) (i := 0) d_Lw_law_830 rfl rfl rfl ?_
  refine Rn.iload_n (n := 832) (i := 3) d_Lw_law_831 rfl rfl rfl ?_
  refine Rn.iconst (n := 833) (v := 2) d_Lw_law_832 rfl (by decide) ?_
  refine Rn.iadd (n := 834) d_Lw_law_833 rfl ?_
  obtain ⟨b2, k⟩ := k
  refine Rn.sld (n := 835) d_Lw_law_834 rfl b2 ?_
  refine Rn.aload_n (n := 836) (i := 0) d_Lw_law_835 rfl rfl rfl ?_
  refine Rn.iload_n (n := 837) (i := 3) d_Lw_law_836 rfl rfl rfl ?_
  refine Rn.iconst (n := 838) (v := 3) d_Lw_law_837 rfl (by decide) ?_
  refine Rn.iadd (n := 839) d_Lw_law_838 rfl ?_
  obtain ⟨b3, k⟩ := k
  refine Rn.sld (n := 840) d_Lw_law_839 rfl b3 ?_
  refine Rn.aload_n (n := 841) (i := 0) d_Lw_law_840 rfl rfl rfl ?_
  refine Rn.iload_n (n := 842) (i := 3) d_Lw_law_841 rfl rfl rfl ?_
  refine Rn.iconst (n := 843) (v := 4) d_Lw_law_842 rfl (by decide) ?_
  refine Rn.iadd (n := 844) d_Lw_law_843 rfl ?_
  obtain ⟨b4, k⟩ := k
  refine Rn.sld (n := 845) d_Lw_law_844 rfl b4 ?_
  obtain ⟨Q'8, ev5, k⟩ := k
  refine Rn.callV (n := 848) (av := [vI (X.2 (a3 + 1).toNatClampNeg), vI (X.2 (a3 + 2).toNatClampNeg), vI (X.2 (a3 + 3).toNatClampNeg), vI (X.2 (a3 + 4).toNatClampNeg)]) d_Lw_law_845 rfl ml_Lw_law_103 mi_Us_pace Lv_0 rfl rfl rfl rfl (Nat.le_of_ble_eq_true rfl) ev5 (fun v h7 hq => ?_)
  obtain ⟨r9, rfl, hq⟩ := hq
  have k := k r9 h7 hq
  show Rn X m_Lw_law 848 [some (vR [2]), some (vR [0]), some (vR [1]), some (vI a3)] [vI r9] h7 Q
  refine Rn.aload_n (n := 849) (i := 2) d_Lw_law_848 rfl rfl rfl ?_
  refine Rn.aload_n (n := 850) (i := 0) d_Lw_law_849 rfl rfl rfl ?_
  refine Rn.iload_n (n := 851) (i := 3) d_Lw_law_850 rfl rfl rfl ?_
  refine Rn.iconst (n := 852) (v := 1) d_Lw_law_851 rfl (by decide) ?_
  refine Rn.iadd (n := 853) d_Lw_law_852 rfl ?_
  obtain ⟨b10, k⟩ := k
  refine Rn.sld (n := 854) d_Lw_law_853 rfl b10 ?_
  refine Rn.aload_n (n := 855) (i := 0) d_Lw_law_854 rfl rfl rfl ?_
  refine Rn.iload_n (n := 856) (i := 3) d_Lw_law_855 rfl rfl rfl ?_
  refine Rn.iconst (n := 857) (v := 2) d_Lw_law_856 rfl (by decide) ?_
  refine Rn.iadd (n := 858) d_Lw_law_857 rfl ?_
  obtain ⟨b11, k⟩ := k
  refine Rn.sld (n := 859) d_Lw_law_858 rfl b11 ?_
  refine Rn.aload_n (n := 860) (i := 0) d_Lw_law_859 rfl rfl rfl ?_
  refine Rn.iload_n (n := 861) (i := 3) d_Lw_law_860 rfl rfl rfl ?_
  refine Rn.iconst (n := 862) (v := 3) d_Lw_law_861 rfl (by decide) ?_
  refine Rn.iadd (n := 863) d_Lw_law_862 rfl ?_
  obtain ⟨b12, k⟩ := k
  refine Rn.sld (n := 864) d_Lw_law_863 rfl b12 ?_
  refine Rn.aload_n (n := 865) (i := 0) d_Lw_law_864 rfl rfl rfl ?_
  refine Rn.iload_n (n := 866) (i := 3) d_Lw_law_865 rfl rfl rfl ?_
  refine Rn.iconst (n := 867) (v := 4) d_Lw_law_866 rfl (by decide) ?_
  refine Rn.iadd (n := 868) d_Lw_law_867 rfl ?_
  obtain ⟨b13, k⟩ := k
  refine Rn.sld (n := 869) d_Lw_law_868 rfl b13 ?_
  obtain ⟨Q'17, ev14, k⟩ := k
  refine Rn.callV (n := 872) (av := [vI (X.2 (a3 + 1).toNatClampNeg), vI (X.2 (a3 + 2).toNatClampNeg), vI (X.2 (a3 + 3).toNatClampNeg), vI (X.2 (a3 + 4).toNatClampNeg)]) d_Lw_law_869 rfl ml_Lw_law_106 mi_Rf_pace Lv_1 rfl rfl rfl rfl (Nat.le_of_ble_eq_true rfl) ev14 (fun v h16 hq => ?_)
  obtain ⟨r18, rfl, hq⟩ := hq
  have k := k r18 h16 hq
  show Rn X m_Lw_law 872 [some (vR [2]), some (vR [0]), some (vR [1]), some (vI a3)] [vI r18, vI r9] h16 Q
  refine Rn.icmp_eq (n := 875) (t := 1084) d_Lw_law_872 rfl (by decide) (fun cc => ?_) (fun cc => ?_)
  · have k := k.1 cc
    exact k
  · have k := k.2 cc
    refine Rn.iconst (n := 876) (v := 0) d_Lw_law_875 rfl (by decide) ?_
    exact Rn.iret d_Lw_law_876 rfl (by rfl) k
theorem g_Lw_law_877 {X : XS} (a3 : Int32) (h : Hp) (Q : Option AV → Hp → Prop)  (k : (vp_in (a3 + 1) X.1 ∧ (vp_in (a3 + 2) X.1 ∧ (vp_in (a3 + 3) X.1 ∧ (vp_in (a3 + 4) X.1 ∧ (vp_in (a3 + 5) X.1 ∧ (∃ Q'9, EvL X m_Us_door [vR [0], vI (X.2 (a3 + 1).toNatClampNeg), vI (X.2 (a3 + 2).toNatClampNeg), vI (X.2 (a3 + 3).toNatClampNeg), vI (X.2 (a3 + 4).toNatClampNeg), vI (X.2 (a3 + 5).toNatClampNeg)] h Q'9 ∧ ∀ (r10 : Int64) (h8 : Hp), Q'9 r10 h8 → (vp_in (a3 + 1) X.1 ∧ (vp_in (a3 + 2) X.1 ∧ (vp_in (a3 + 3) X.1 ∧ (vp_in (a3 + 4) X.1 ∧ (vp_in (a3 + 5) X.1 ∧ (∃ Q'19, EvL X m_Rf_door [vR [1], vI (X.2 (a3 + 1).toNatClampNeg), vI (X.2 (a3 + 2).toNatClampNeg), vI (X.2 (a3 + 3).toNatClampNeg), vI (X.2 (a3 + 4).toNatClampNeg), vI (X.2 (a3 + 5).toNatClampNeg)] h8 Q'19 ∧ ∀ (r20 : Int64) (h18 : Hp), Q'19 r20 h18 → (((lg_cmp r10 r20) = 0 → Rn X m_Lw_law 1084 [some (vR [2]), some (vR [0]), some (vR [1]), some (vI a3)] [] h18 Q) ∧ (¬ (lg_cmp r10 r20) = 0 → Q (some (vI 0)) h18))))))))))))))) : Rn X m_Lw_law 877 [some (vR [2]), some (vR [0]), some (vR [1]), some (vI a3)] [] h Q := by
  refine Rn.aload_n (n := 878) (i := 1) d_Lw_law_877 rfl rfl rfl ?_
  refine Rn.aload_n (n := 879) (i := 0) d_Lw_law_878 rfl rfl rfl ?_
  refine Rn.iload_n (n := 880) (i := 3) d_Lw_law_879 rfl rfl rfl ?_
  refine Rn.iconst (n := 881) (v := 1) d_Lw_law_880 rfl (by decide) ?_
  refine Rn.iadd (n := 882) d_Lw_law_881 rfl ?_
  obtain ⟨b1, k⟩ := k
  refine Rn.sld (n := 883) d_Lw_law_882 rfl b1 ?_
  refine Rn.aload_n (n := 884) (i := 0) d_Lw_law_883 rfl rfl rfl ?_
  refine Rn.iload_n (n := 885) (i := 3) d_Lw_law_884 rfl rfl rfl ?_
  refine Rn.iconst (n := 886) (v := 2) d_Lw_law_885 rfl (by decide) ?_
  refine Rn.iadd (n := 887) d_Lw_law_886 rfl ?_
  obtain ⟨b2, k⟩ := k
  refine Rn.sld (n := 888) d_Lw_law_887 rfl b2 ?_
  refine Rn.aload_n (n := 889) (i := 0) d_Lw_law_888 rfl rfl rfl ?_
  refine Rn.iload_n (n := 890) (i := 3) d_Lw_law_889 rfl rfl rfl ?_
  refine Rn.iconst (n := 891) (v := 3) d_Lw_law_890 rfl (by decide) ?_
  refine Rn.iadd (n := 892) d_Lw_law_891 rfl ?_
  obtain ⟨b3, k⟩ := k
  refine Rn.sld (n := 893) d_Lw_law_892 rfl b3 ?_
  refine Rn.aload_n (n := 894) (i := 0) d_Lw_law_893 rfl rfl rfl ?_
  refine Rn.iload_n (n := 895) (i := 3) d_Lw_law_894 rfl rfl rfl ?_
  refine Rn.iconst (n := 896) (v := 4) d_Lw_law_895 rfl (by decide) ?_
  refine Rn.iadd (n := 897) d_Lw_law_896 rfl ?_
  obtain ⟨b4, k⟩ := k
  refine Rn.sld (n := 898) d_Lw_law_897 rfl b4 ?_
  refine Rn.aload_n (n := 899) (i := 0) d_Lw_law_898 rfl rfl rfl ?_
  refine Rn.iload_n (n := 900) (i := 3) d_Lw_law_899 rfl rfl rfl ?_
  refine Rn.iconst (n := 901) (v := 5) d_Lw_law_900 rfl (by decide) ?_
  refine Rn.iadd (n := 902) d_Lw_law_901 rfl ?_
  obtain ⟨b5, k⟩ := k
  refine Rn.sld (n := 903) d_Lw_law_902 rfl b5 ?_
  obtain ⟨Q'9, ev6, k⟩ := k
  refine Rn.callV (n := 906) (av := [vI (X.2 (a3 + 1).toNatClampNeg), vI (X.2 (a3 + 2).toNatClampNeg), vI (X.2 (a3 + 3).toNatClampNeg), vI (X.2 (a3 + 4).toNatClampNeg), vI (X.2 (a3 + 5).toNatClampNeg)]) d_Lw_law_903 rfl ml_Lw_law_107 mi_Us_door Lv_0 rfl rfl rfl rfl (Nat.le_of_ble_eq_true rfl) ev6 (fun v h8 hq => ?_)
  obtain ⟨r10, rfl, hq⟩ := hq
  have k := k r10 h8 hq
  show Rn X m_Lw_law 906 [some (vR [2]), some (vR [0]), some (vR [1]), some (vI a3)] [vL r10] h8 Q
  refine Rn.aload_n (n := 907) (i := 2) d_Lw_law_906 rfl rfl rfl ?_
  refine Rn.aload_n (n := 908) (i := 0) d_Lw_law_907 rfl rfl rfl ?_
  refine Rn.iload_n (n := 909) (i := 3) d_Lw_law_908 rfl rfl rfl ?_
  refine Rn.iconst (n := 910) (v := 1) d_Lw_law_909 rfl (by decide) ?_
  refine Rn.iadd (n := 911) d_Lw_law_910 rfl ?_
  obtain ⟨b11, k⟩ := k
  refine Rn.sld (n := 912) d_Lw_law_911 rfl b11 ?_
  refine Rn.aload_n (n := 913) (i := 0) d_Lw_law_912 rfl rfl rfl ?_
  refine Rn.iload_n (n := 914) (i := 3) d_Lw_law_913 rfl rfl rfl ?_
  refine Rn.iconst (n := 915) (v := 2) d_Lw_law_914 rfl (by decide) ?_
  refine Rn.iadd (n := 916) d_Lw_law_915 rfl ?_
  obtain ⟨b12, k⟩ := k
  refine Rn.sld (n := 917) d_Lw_law_916 rfl b12 ?_
  refine Rn.aload_n (n := 918) (i := 0) d_Lw_law_917 rfl rfl rfl ?_
  refine Rn.iload_n (n := 919) (i := 3) d_Lw_law_918 rfl rfl rfl ?_
  refine Rn.iconst (n := 920) (v := 3) d_Lw_law_919 rfl (by decide) ?_
  refine Rn.iadd (n := 921) d_Lw_law_920 rfl ?_
  obtain ⟨b13, k⟩ := k
  refine Rn.sld (n := 922) d_Lw_law_921 rfl b13 ?_
  refine Rn.aload_n (n := 923) (i := 0) d_Lw_law_922 rfl rfl rfl ?_
  refine Rn.iload_n (n := 924) (i := 3) d_Lw_law_923 rfl rfl rfl ?_
  refine Rn.iconst (n := 925) (v := 4) d_Lw_law_924 rfl (by decide) ?_
  refine Rn.iadd (n := 926) d_Lw_law_925 rfl ?_
  obtain ⟨b14, k⟩ := k
  refine Rn.sld (n := 927) d_Lw_law_926 rfl b14 ?_
  refine Rn.aload_n (n := 928) (i := 0) d_Lw_law_927 rfl rfl rfl ?_
  refine Rn.iload_n (n := 929) (i := 3) d_Lw_law_928 rfl rfl rfl ?_
  refine Rn.iconst (n := 930) (v := 5) d_Lw_law_929 rfl (by decide) ?_
  refine Rn.iadd (n := 931) d_Lw_law_930 rfl ?_
  obtain ⟨b15, k⟩ := k
  refine Rn.sld (n := 932) d_Lw_law_931 rfl b15 ?_
  obtain ⟨Q'19, ev16, k⟩ := k
  refine Rn.callV (n := 935) (av := [vI (X.2 (a3 + 1).toNatClampNeg), vI (X.2 (a3 + 2).toNatClampNeg), vI (X.2 (a3 + 3).toNatClampNeg), vI (X.2 (a3 + 4).toNatClampNeg), vI (X.2 (a3 + 5).toNatClampNeg)]) d_Lw_law_932 rfl ml_Lw_law_111 mi_Rf_door Lv_1 rfl rfl rfl rfl (Nat.le_of_ble_eq_true rfl) ev16 (fun v h18 hq => ?_)
  obtain ⟨r20, rfl, hq⟩ := hq
  have k := k r20 h18 hq
  show Rn X m_Lw_law 935 [some (vR [2]), some (vR [0]), some (vR [1]), some (vI a3)] [vL r20, vL r10] h18 Q
  refine Rn.lcmp (n := 936) d_Lw_law_935 rfl ?_
  refine Rn.if_eq (n := 939) (t := 1084) d_Lw_law_936 rfl (by decide) (fun cc => ?_) (fun cc => ?_)
  · have k := k.1 cc
    exact k
  · have k := k.2 cc
    refine Rn.iconst (n := 940) (v := 0) d_Lw_law_939 rfl (by decide) ?_
    exact Rn.iret d_Lw_law_940 rfl (by rfl) k
theorem g_Lw_law_941 {X : XS} (a3 : Int32) (h : Hp) (Q : Option AV → Hp → Prop)  (k : (vp_in (a3 + 1) X.1 ∧ (vp_in (a3 + 2) X.1 ∧ (vp_in (a3 + 3) X.1 ∧ (vp_in (a3 + 4) X.1 ∧ (vp_in (a3 + 5) X.1 ∧ (∃ Q'9, EvL X m_Us_left [vR [0], vI (X.2 (a3 + 1).toNatClampNeg), vI (X.2 (a3 + 2).toNatClampNeg), vI (X.2 (a3 + 3).toNatClampNeg), vI (X.2 (a3 + 4).toNatClampNeg), vI (X.2 (a3 + 5).toNatClampNeg)] h Q'9 ∧ ∀ (r10 : Int64) (h8 : Hp), Q'9 r10 h8 → (vp_in (a3 + 1) X.1 ∧ (vp_in (a3 + 2) X.1 ∧ (vp_in (a3 + 3) X.1 ∧ (vp_in (a3 + 4) X.1 ∧ (vp_in (a3 + 5) X.1 ∧ (∃ Q'19, EvL X m_Rf_left [vR [1], vI (X.2 (a3 + 1).toNatClampNeg), vI (X.2 (a3 + 2).toNatClampNeg), vI (X.2 (a3 + 3).toNatClampNeg), vI (X.2 (a3 + 4).toNatClampNeg), vI (X.2 (a3 + 5).toNatClampNeg)] h8 Q'19 ∧ ∀ (r20 : Int64) (h18 : Hp), Q'19 r20 h18 → (((lg_cmp r10 r20) = 0 → Rn X m_Lw_law 1084 [some (vR [2]), some (vR [0]), some (vR [1]), some (vI a3)] [] h18 Q) ∧ (¬ (lg_cmp r10 r20) = 0 → Q (some (vI 0)) h18))))))))))))))) : Rn X m_Lw_law 941 [some (vR [2]), some (vR [0]), some (vR [1]), some (vI a3)] [] h Q := by
  refine Rn.aload_n (n := 942) (i := 1) d_Lw_law_941 rfl rfl rfl ?_
  refine Rn.aload_n (n := 943) (i := 0) d_Lw_law_942 rfl rfl rfl ?_
  refine Rn.iload_n (n := 944) (i := 3) d_Lw_law_943 rfl rfl rfl ?_
  refine Rn.iconst (n := 945) (v := 1) d_Lw_law_944 rfl (by decide) ?_
  refine Rn.iadd (n := 946) d_Lw_law_945 rfl ?_
  obtain ⟨b1, k⟩ := k
  refine Rn.sld (n := 947) d_Lw_law_946 rfl b1 ?_
  refine Rn.aload_n (n := 948) (i := 0) d_Lw_law_947 rfl rfl rfl ?_
  refine Rn.iload_n (n := 949) (i := 3) d_Lw_law_948 rfl rfl rfl ?_
  refine Rn.iconst (n := 950) (v := 2) d_Lw_law_949 rfl (by decide) ?_
  refine Rn.iadd (n := 951) d_Lw_law_950 rfl ?_
  obtain ⟨b2, k⟩ := k
  refine Rn.sld (n := 952) d_Lw_law_951 rfl b2 ?_
  refine Rn.aload_n (n := 953) (i := 0) d_Lw_law_952 rfl rfl rfl ?_
  refine Rn.iload_n (n := 954) (i := 3) d_Lw_law_953 rfl rfl rfl ?_
  refine Rn.iconst (n := 955) (v := 3) d_Lw_law_954 rfl (by decide) ?_
  refine Rn.iadd (n := 956) d_Lw_law_955 rfl ?_
  obtain ⟨b3, k⟩ := k
  refine Rn.sld (n := 957) d_Lw_law_956 rfl b3 ?_
  refine Rn.aload_n (n := 958) (i := 0) d_Lw_law_957 rfl rfl rfl ?_
  refine Rn.iload_n (n := 959) (i := 3) d_Lw_law_958 rfl rfl rfl ?_
  refine Rn.iconst (n := 960) (v := 4) d_Lw_law_959 rfl (by decide) ?_
  refine Rn.iadd (n := 961) d_Lw_law_960 rfl ?_
  obtain ⟨b4, k⟩ := k
  refine Rn.sld (n := 962) d_Lw_law_961 rfl b4 ?_
  refine Rn.aload_n (n := 963) (i := 0) d_Lw_law_962 rfl rfl rfl ?_
  refine Rn.iload_n (n := 964) (i := 3) d_Lw_law_963 rfl rfl rfl ?_
  refine Rn.iconst (n := 965) (v := 5) d_Lw_law_964 rfl (by decide) ?_
  refine Rn.iadd (n := 966) d_Lw_law_965 rfl ?_
  obtain ⟨b5, k⟩ := k
  refine Rn.sld (n := 967) d_Lw_law_966 rfl b5 ?_
  obtain ⟨Q'9, ev6, k⟩ := k
  refine Rn.callV (n := 970) (av := [vI (X.2 (a3 + 1).toNatClampNeg), vI (X.2 (a3 + 2).toNatClampNeg), vI (X.2 (a3 + 3).toNatClampNeg), vI (X.2 (a3 + 4).toNatClampNeg), vI (X.2 (a3 + 5).toNatClampNeg)]) d_Lw_law_967 rfl ml_Lw_law_112 mi_Us_left Lv_0 rfl rfl rfl rfl (Nat.le_of_ble_eq_true rfl) ev6 (fun v h8 hq => ?_)
  obtain ⟨r10, rfl, hq⟩ := hq
  have k := k r10 h8 hq
  show Rn X m_Lw_law 970 [some (vR [2]), some (vR [0]), some (vR [1]), some (vI a3)] [vL r10] h8 Q
  refine Rn.aload_n (n := 971) (i := 2) d_Lw_law_970 rfl rfl rfl ?_
  refine Rn.aload_n (n := 972) (i := 0) d_Lw_law_971 rfl rfl rfl ?_
  refine Rn.iload_n (n := 973) (i := 3) d_Lw_law_972 rfl rfl rfl ?_
  refine Rn.iconst (n := 974) (v := 1) d_Lw_law_973 rfl (by decide) ?_
  refine Rn.iadd (n := 975) d_Lw_law_974 rfl ?_
  obtain ⟨b11, k⟩ := k
  refine Rn.sld (n := 976) d_Lw_law_975 rfl b11 ?_
  refine Rn.aload_n (n := 977) (i := 0) d_Lw_law_976 rfl rfl rfl ?_
  refine Rn.iload_n (n := 978) (i := 3) d_Lw_law_977 rfl rfl rfl ?_
  refine Rn.iconst (n := 979) (v := 2) d_Lw_law_978 rfl (by decide) ?_
  refine Rn.iadd (n := 980) d_Lw_law_979 rfl ?_
  obtain ⟨b12, k⟩ := k
  refine Rn.sld (n := 981) d_Lw_law_980 rfl b12 ?_
  refine Rn.aload_n (n := 982) (i := 0) d_Lw_law_981 rfl rfl rfl ?_
  refine Rn.iload_n (n := 983) (i := 3) d_Lw_law_982 rfl rfl rfl ?_
  refine Rn.iconst (n := 984) (v := 3) d_Lw_law_983 rfl (by decide) ?_
  refine Rn.iadd (n := 985) d_Lw_law_984 rfl ?_
  obtain ⟨b13, k⟩ := k
  refine Rn.sld (n := 986) d_Lw_law_985 rfl b13 ?_
  refine Rn.aload_n (n := 987) (i := 0) d_Lw_law_986 rfl rfl rfl ?_
  refine Rn.iload_n (n := 988) (i := 3) d_Lw_law_987 rfl rfl rfl ?_
  refine Rn.iconst (n := 989) (v := 4) d_Lw_law_988 rfl (by decide) ?_
  refine Rn.iadd (n := 990) d_Lw_law_989 rfl ?_
  obtain ⟨b14, k⟩ := k
  refine Rn.sld (n := 991) d_Lw_law_990 rfl b14 ?_
  refine Rn.aload_n (n := 992) (i := 0) d_Lw_law_991 rfl rfl rfl ?_
  refine Rn.iload_n (n := 993) (i := 3) d_Lw_law_992 rfl rfl rfl ?_
  refine Rn.iconst (n := 994) (v := 5) d_Lw_law_993 rfl (by decide) ?_
  refine Rn.iadd (n := 995) d_Lw_law_994 rfl ?_
  obtain ⟨b15, k⟩ := k
  refine Rn.sld (n := 996) d_Lw_law_995 rfl b15 ?_
  obtain ⟨Q'19, ev16, k⟩ := k
  refine Rn.callV (n := 999) (av := [vI (X.2 (a3 + 1).toNatClampNeg), vI (X.2 (a3 + 2).toNatClampNeg), vI (X.2 (a3 + 3).toNatClampNeg), vI (X.2 (a3 + 4).toNatClampNeg), vI (X.2 (a3 + 5).toNatClampNeg)]) d_Lw_law_996 rfl ml_Lw_law_115 mi_Rf_left Lv_1 rfl rfl rfl rfl (Nat.le_of_ble_eq_true rfl) ev16 (fun v h18 hq => ?_)
  obtain ⟨r20, rfl, hq⟩ := hq
  have k := k r20 h18 hq
  show Rn X m_Lw_law 999 [some (vR [2]), some (vR [0]), some (vR [1]), some (vI a3)] [vL r20, vL r10] h18 Q
  refine Rn.lcmp (n := 1000) d_Lw_law_999 rfl ?_
  refine Rn.if_eq (n := 1003) (t := 1084) d_Lw_law_1000 rfl (by decide) (fun cc => ?_) (fun cc => ?_)
  · have k := k.1 cc
    exact k
  · have k := k.2 cc
    refine Rn.iconst (n := 1004) (v := 0) d_Lw_law_1003 rfl (by decide) ?_
    exact Rn.iret d_Lw_law_1004 rfl (by rfl) k
theorem g_Lw_law_1005 {X : XS} (a3 : Int32) (h : Hp) (Q : Option AV → Hp → Prop)  (k : (vp_in (a3 + 1) X.1 ∧ (vp_in (a3 + 2) X.1 ∧ (∃ Q'6, EvI X m_Us_seller [vR [0], vI (X.2 (a3 + 1).toNatClampNeg), vI (X.2 (a3 + 2).toNatClampNeg)] h Q'6 ∧ ∀ (r7 : Int32) (h5 : Hp), Q'6 r7 h5 → (vp_in (a3 + 1) X.1 ∧ (vp_in (a3 + 2) X.1 ∧ (∃ Q'13, EvI X m_Rf_seller [vR [1], vI (X.2 (a3 + 1).toNatClampNeg), vI (X.2 (a3 + 2).toNatClampNeg)] h5 Q'13 ∧ ∀ (r14 : Int32) (h12 : Hp), Q'13 r14 h12 → ((r7 = r14 → Rn X m_Lw_law 1084 [some (vR [2]), some (vR [0]), some (vR [1]), some (vI a3)] [] h12 Q) ∧ (¬ r7 = r14 → Q (some (vI 0)) h12))))))))) : Rn X m_Lw_law 1005 [some (vR [2]), some (vR [0]), some (vR [1]), some (vI a3)] [] h Q := by
  refine Rn.aload_n (n := 1006) (i := 1) d_Lw_law_1005 rfl rfl rfl ?_
  refine Rn.aload_n (n := 1007) (i := 0) d_Lw_law_1006 rfl rfl rfl ?_
  refine Rn.iload_n (n := 1008) (i := 3) d_Lw_law_1007 rfl rfl rfl ?_
  refine Rn.iconst (n := 1009) (v := 1) d_Lw_law_1008 rfl (by decide) ?_
  refine Rn.iadd (n := 1010) d_Lw_law_1009 rfl ?_
  obtain ⟨b1, k⟩ := k
  refine Rn.sld (n := 1011) d_Lw_law_1010 rfl b1 ?_
  refine Rn.aload_n (n := 1012) (i := 0) d_Lw_law_1011 rfl rfl rfl ?_
  refine Rn.iload_n (n := 1013) (i := 3) d_Lw_law_1012 rfl rfl rfl ?_
  refine Rn.iconst (n := 1014) (v := 2) d_Lw_law_1013 rfl (by decide) ?_
  refine Rn.iadd (n := 1015) d_Lw_law_1014 rfl ?_
  obtain ⟨b2, k⟩ := k
  refine Rn.sld (n := 1016) d_Lw_law_1015 rfl b2 ?_
  obtain ⟨Q'6, ev3, k⟩ := k
  refine Rn.callV (n := 1019) (av := [vI (X.2 (a3 + 1).toNatClampNeg), vI (X.2 (a3 + 2).toNatClampNeg)]) d_Lw_law_1016 rfl ml_Lw_law_116 mi_Us_seller Lv_0 rfl rfl rfl rfl (Nat.le_of_ble_eq_true rfl) ev3 (fun v h5 hq => ?_)
  obtain ⟨r7, rfl, hq⟩ := hq
  have k := k r7 h5 hq
  show Rn X m_Lw_law 1019 [some (vR [2]), some (vR [0]), some (vR [1]), some (vI a3)] [vI r7] h5 Q
  refine Rn.aload_n (n := 1020) (i := 2) d_Lw_law_1019 rfl rfl rfl ?_
  refine Rn.aload_n (n := 1021) (i := 0) d_Lw_law_1020 rfl rfl rfl ?_
  refine Rn.iload_n (n := 1022) (i := 3) d_Lw_law_1021 rfl rfl rfl ?_
  refine Rn.iconst (n := 1023) (v := 1) d_Lw_law_1022 rfl (by decide) ?_
  refine Rn.iadd (n := 1024) d_Lw_law_1023 rfl ?_
  obtain ⟨b8, k⟩ := k
  refine Rn.sld (n := 1025) d_Lw_law_1024 rfl b8 ?_
  refine Rn.aload_n (n := 1026) (i := 0) d_Lw_law_1025 rfl rfl rfl ?_
  refine Rn.iload_n (n := 1027) (i := 3) d_Lw_law_1026 rfl rfl rfl ?_
  refine Rn.iconst (n := 1028) (v := 2) d_Lw_law_1027 rfl (by decide) ?_
  refine Rn.iadd (n := 1029) d_Lw_law_1028 rfl ?_
  obtain ⟨b9, k⟩ := k
  refine Rn.sld (n := 1030) d_Lw_law_1029 rfl b9 ?_
  obtain ⟨Q'13, ev10, k⟩ := k
  refine Rn.callV (n := 1033) (av := [vI (X.2 (a3 + 1).toNatClampNeg), vI (X.2 (a3 + 2).toNatClampNeg)]) d_Lw_law_1030 rfl ml_Lw_law_119 mi_Rf_seller Lv_1 rfl rfl rfl rfl (Nat.le_of_ble_eq_true rfl) ev10 (fun v h12 hq => ?_)
  obtain ⟨r14, rfl, hq⟩ := hq
  have k := k r14 h12 hq
  show Rn X m_Lw_law 1033 [some (vR [2]), some (vR [0]), some (vR [1]), some (vI a3)] [vI r14, vI r7] h12 Q
  refine Rn.icmp_eq (n := 1036) (t := 1084) d_Lw_law_1033 rfl (by decide) (fun cc => ?_) (fun cc => ?_)
  · have k := k.1 cc
    exact k
  · have k := k.2 cc
    refine Rn.iconst (n := 1037) (v := 0) d_Lw_law_1036 rfl (by decide) ?_
    exact Rn.iret d_Lw_law_1037 rfl (by rfl) k
theorem g_Lw_law_1038 {X : XS} (a3 : Int32) (h : Hp) (Q : Option AV → Hp → Prop)  (k : (vp_in (a3 + 1) X.1 ∧ (∃ Q'5, EvI X m_Us_where [vR [0], vI (X.2 (a3 + 1).toNatClampNeg)] h Q'5 ∧ ∀ (r6 : Int32) (h4 : Hp), Q'5 r6 h4 → (vp_in (a3 + 1) X.1 ∧ (∃ Q'11, EvI X m_Rf_where [vR [1], vI (X.2 (a3 + 1).toNatClampNeg)] h4 Q'11 ∧ ∀ (r12 : Int32) (h10 : Hp), Q'11 r12 h10 → ((r6 = r12 → Rn X m_Lw_law 1084 [some (vR [2]), some (vR [0]), some (vR [1]), some (vI a3)] [] h10 Q) ∧ (¬ r6 = r12 → Q (some (vI 0)) h10))))))) : Rn X m_Lw_law 1038 [some (vR [2]), some (vR [0]), some (vR [1]), some (vI a3)] [] h Q := by
  refine Rn.aload_n (n := 1039) (i := 1) d_Lw_law_1038 rfl rfl rfl ?_
  refine Rn.aload_n (n := 1040) (i := 0) d_Lw_law_1039 rfl rfl rfl ?_
  refine Rn.iload_n (n := 1041) (i := 3) d_Lw_law_1040 rfl rfl rfl ?_
  refine Rn.iconst (n := 1042) (v := 1) d_Lw_law_1041 rfl (by decide) ?_
  refine Rn.iadd (n := 1043) d_Lw_law_1042 rfl ?_
  obtain ⟨b1, k⟩ := k
  refine Rn.sld (n := 1044) d_Lw_law_1043 rfl b1 ?_
  obtain ⟨Q'5, ev2, k⟩ := k
  refine Rn.callV (n := 1047) (av := [vI (X.2 (a3 + 1).toNatClampNeg)]) d_Lw_law_1044 rfl ml_Lw_law_120 mi_Us_where Lv_0 rfl rfl rfl rfl (Nat.le_of_ble_eq_true rfl) ev2 (fun v h4 hq => ?_)
  obtain ⟨r6, rfl, hq⟩ := hq
  have k := k r6 h4 hq
  show Rn X m_Lw_law 1047 [some (vR [2]), some (vR [0]), some (vR [1]), some (vI a3)] [vI r6] h4 Q
  refine Rn.aload_n (n := 1048) (i := 2) d_Lw_law_1047 rfl rfl rfl ?_
  refine Rn.aload_n (n := 1049) (i := 0) d_Lw_law_1048 rfl rfl rfl ?_
  refine Rn.iload_n (n := 1050) (i := 3) d_Lw_law_1049 rfl rfl rfl ?_
  refine Rn.iconst (n := 1051) (v := 1) d_Lw_law_1050 rfl (by decide) ?_
  refine Rn.iadd (n := 1052) d_Lw_law_1051 rfl ?_
  obtain ⟨b7, k⟩ := k
  refine Rn.sld (n := 1053) d_Lw_law_1052 rfl b7 ?_
  obtain ⟨Q'11, ev8, k⟩ := k
  refine Rn.callV (n := 1056) (av := [vI (X.2 (a3 + 1).toNatClampNeg)]) d_Lw_law_1053 rfl ml_Lw_law_123 mi_Rf_where Lv_1 rfl rfl rfl rfl (Nat.le_of_ble_eq_true rfl) ev8 (fun v h10 hq => ?_)
  obtain ⟨r12, rfl, hq⟩ := hq
  have k := k r12 h10 hq
  show Rn X m_Lw_law 1056 [some (vR [2]), some (vR [0]), some (vR [1]), some (vI a3)] [vI r12, vI r6] h10 Q
  refine Rn.icmp_eq (n := 1059) (t := 1084) d_Lw_law_1056 rfl (by decide) (fun cc => ?_) (fun cc => ?_)
  · have k := k.1 cc
    exact k
  · have k := k.2 cc
    refine Rn.iconst (n := 1060) (v := 0) d_Lw_law_1059 rfl (by decide) ?_
    exact Rn.iret d_Lw_law_1060 rfl (by rfl) k
theorem g_Lw_law_1061 {X : XS} (a3 : Int32) (h : Hp) (Q : Option AV → Hp → Prop)  (k : (vp_in (a3 + 1) X.1 ∧ (∃ Q'5, EvI X m_Us_count [vR [0], vI (X.2 (a3 + 1).toNatClampNeg)] h Q'5 ∧ ∀ (r6 : Int32) (h4 : Hp), Q'5 r6 h4 → (vp_in (a3 + 1) X.1 ∧ (∃ Q'11, EvI X m_Rf_count [vR [1], vI (X.2 (a3 + 1).toNatClampNeg)] h4 Q'11 ∧ ∀ (r12 : Int32) (h10 : Hp), Q'11 r12 h10 → ((r6 = r12 → Rn X m_Lw_law 1084 [some (vR [2]), some (vR [0]), some (vR [1]), some (vI a3)] [] h10 Q) ∧ (¬ r6 = r12 → Q (some (vI 0)) h10))))))) : Rn X m_Lw_law 1061 [some (vR [2]), some (vR [0]), some (vR [1]), some (vI a3)] [] h Q := by
  refine Rn.aload_n (n := 1062) (i := 1) d_Lw_law_1061 rfl rfl rfl ?_
  refine Rn.aload_n (n := 1063) (i := 0) d_Lw_law_1062 rfl rfl rfl ?_
  refine Rn.iload_n (n := 1064) (i := 3) d_Lw_law_1063 rfl rfl rfl ?_
  refine Rn.iconst (n := 1065) (v := 1) d_Lw_law_1064 rfl (by decide) ?_
  refine Rn.iadd (n := 1066) d_Lw_law_1065 rfl ?_
  obtain ⟨b1, k⟩ := k
  refine Rn.sld (n := 1067) d_Lw_law_1066 rfl b1 ?_
  obtain ⟨Q'5, ev2, k⟩ := k
  refine Rn.callV (n := 1070) (av := [vI (X.2 (a3 + 1).toNatClampNeg)]) d_Lw_law_1067 rfl ml_Lw_law_124 mi_Us_count Lv_0 rfl rfl rfl rfl (Nat.le_of_ble_eq_true rfl) ev2 (fun v h4 hq => ?_)
  obtain ⟨r6, rfl, hq⟩ := hq
  have k := k r6 h4 hq
  show Rn X m_Lw_law 1070 [some (vR [2]), some (vR [0]), some (vR [1]), some (vI a3)] [vI r6] h4 Q
  refine Rn.aload_n (n := 1071) (i := 2) d_Lw_law_1070 rfl rfl rfl ?_
  refine Rn.aload_n (n := 1072) (i := 0) d_Lw_law_1071 rfl rfl rfl ?_
  refine Rn.iload_n (n := 1073) (i := 3) d_Lw_law_1072 rfl rfl rfl ?_
  refine Rn.iconst (n := 1074) (v := 1) d_Lw_law_1073 rfl (by decide) ?_
  refine Rn.iadd (n := 1075) d_Lw_law_1074 rfl ?_
  obtain ⟨b7, k⟩ := k
  refine Rn.sld (n := 1076) d_Lw_law_1075 rfl b7 ?_
  obtain ⟨Q'11, ev8, k⟩ := k
  refine Rn.callV (n := 1079) (av := [vI (X.2 (a3 + 1).toNatClampNeg)]) d_Lw_law_1076 rfl ml_Lw_law_127 mi_Rf_count Lv_1 rfl rfl rfl rfl (Nat.le_of_ble_eq_true rfl) ev8 (fun v h10 hq => ?_)
  obtain ⟨r12, rfl, hq⟩ := hq
  have k := k r12 h10 hq
  show Rn X m_Lw_law 1079 [some (vR [2]), some (vR [0]), some (vR [1]), some (vI a3)] [vI r12, vI r6] h10 Q
  refine Rn.icmp_eq (n := 1082) (t := 1084) d_Lw_law_1079 rfl (by decide) (fun cc => ?_) (fun cc => ?_)
  · have k := k.1 cc
    exact k
  · have k := k.2 cc
    refine Rn.iconst (n := 1083) (v := 0) d_Lw_law_1082 rfl (by decide) ?_
    exact Rn.iret d_Lw_law_1083 rfl (by rfl) k
theorem g_Lw_law_1084 {X : XS} (a3 : Int32) (h : Hp) (Q : Option AV → Hp → Prop)  (k : Rn X m_Lw_law 18 [some (vR [2]), some (vR [0]), some (vR [1]), some (vI (a3 + 7))] [] h Q) : Rn X m_Lw_law 1084 [some (vR [2]), some (vR [0]), some (vR [1]), some (vI a3)] [] h Q := by
  refine Rn.iinc (n := 1087) (i := 3) (v := a3 + 7) (ls2 := [some (vR [2]), some (vR [0]), some (vR [1]), some (vI (a3 + 7))]) d_Lw_law_1084 rfl rfl rfl (Nat.le_of_ble_eq_true rfl) rfl ?_
  refine Rn.goto (n := 18) d_Lw_law_1087 (by decide) ?_
  exact k

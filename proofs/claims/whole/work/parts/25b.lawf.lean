/-! ===== the law: its instructions ===== -/
theorem r_276_23 : xfetch 276 23 = some (.iload 4, 2) := by decide +kernel
theorem r_276_25 : xfetch 276 25 = some (.aload_n 0, 1) := by decide +kernel
theorem n_276_25 : ∀ l, xpr 276 25 l = l := xpr_no (by decide +kernel)
theorem r_276_26 : xfetch 276 26 = some (.arraylength, 1) := by decide +kernel
theorem n_276_26 : ∀ l, xpr 276 26 l = l := xpr_no (by decide +kernel)
theorem r_276_27 : xfetch 276 27 = some (.bipush 7, 2) := by decide +kernel
theorem n_276_27 : ∀ l, xpr 276 27 l = l := xpr_no (by decide +kernel)
theorem r_276_29 : xfetch 276 29 = some (.isub, 1) := by decide +kernel
theorem n_276_29 : ∀ l, xpr 276 29 l = l := xpr_no (by decide +kernel)
theorem r_276_30 : xfetch 276 30 = some (.if_icmp .gt 2884, 3) := by decide +kernel
theorem n_276_30 : ∀ l, xpr 276 30 l = l := xpr_no (by decide +kernel)
theorem r_276_33 : xfetch 276 33 = some (.aload_n 0, 1) := by decide +kernel
theorem n_276_33 : ∀ l, xpr 276 33 l = l := xpr_no (by decide +kernel)
theorem r_276_34 : xfetch 276 34 = some (.iload 4, 2) := by decide +kernel
theorem n_276_34 : ∀ l, xpr 276 34 l = l := xpr_no (by decide +kernel)
theorem r_276_36 : xfetch 276 36 = some (.iaload, 1) := by decide +kernel
theorem n_276_36 : ∀ l, xpr 276 36 l = l := xpr_no (by decide +kernel)
theorem r_276_37 : xfetch 276 37 = some (.bipush 63, 2) := by decide +kernel
theorem n_276_37 : ∀ l, xpr 276 37 l = l := xpr_no (by decide +kernel)
theorem r_276_39 : xfetch 276 39 = some (.iand, 1) := by decide +kernel
theorem n_276_39 : ∀ l, xpr 276 39 l = l := xpr_no (by decide +kernel)
theorem r_276_40 : xfetch 276 40 = some (.tableswitch 2868 0 36 #[164, 220, 312, 325, 393, 473, 553, 633, 689, 745, 813, 869, 882, 938, 1030, 1086, 1099, 1167, 1247, 1326, 1449, 1505, 1573, 1614, 1694, 1774, 1787, 1883, 2041, 2121, 2245, 2369, 2436, 2574, 2698, 2810, 2854], 164) := by decide +kernel
theorem n_276_40 : ∀ l, xpr 276 40 l = l := xpr_no (by decide +kernel)
theorem r_276_204 : xfetch 276 204 = some (.aload_n 1, 1) := by decide +kernel
theorem r_276_205 : xfetch 276 205 = some (.aload_n 0, 1) := by decide +kernel
theorem n_276_205 : ∀ l, xpr 276 205 l = l := xpr_no (by decide +kernel)
theorem r_276_206 : xfetch 276 206 = some (.iload 4, 2) := by decide +kernel
theorem n_276_206 : ∀ l, xpr 276 206 l = l := xpr_no (by decide +kernel)
theorem r_276_208 : xfetch 276 208 = some (.iconst 1, 1) := by decide +kernel
theorem n_276_208 : ∀ l, xpr 276 208 l = l := xpr_no (by decide +kernel)
theorem r_276_209 : xfetch 276 209 = some (.iadd, 1) := by decide +kernel
theorem n_276_209 : ∀ l, xpr 276 209 l = l := xpr_no (by decide +kernel)
theorem r_276_210 : xfetch 276 210 = some (.iaload, 1) := by decide +kernel
theorem n_276_210 : ∀ l, xpr 276 210 l = l := xpr_no (by decide +kernel)
theorem r_276_211 : xfetch 276 211 = some (.aload_n 3, 1) := by decide +kernel
theorem n_276_211 : ∀ l, xpr 276 211 l = l := xpr_no (by decide +kernel)
theorem r_276_212 : xfetch 276 212 = some (.invokestatic 127, 3) := by decide +kernel
theorem n_276_212 : ∀ l, xpr 276 212 l = l := xpr_no (by decide +kernel)
theorem r_276_215 : xfetch 276 215 = some (.istore 5, 2) := by decide +kernel
theorem n_276_215 : ∀ l, xpr 276 215 l = l := xpr_no (by decide +kernel)
theorem r_276_217 : xfetch 276 217 = some (.aload_n 2, 1) := by decide +kernel
theorem n_276_217 : ∀ l, xpr 276 217 l = l := xpr_no (by decide +kernel)
theorem r_276_218 : xfetch 276 218 = some (.aload_n 0, 1) := by decide +kernel
theorem n_276_218 : ∀ l, xpr 276 218 l = l := xpr_no (by decide +kernel)
theorem r_276_219 : xfetch 276 219 = some (.iload 4, 2) := by decide +kernel
theorem n_276_219 : ∀ l, xpr 276 219 l = l := xpr_no (by decide +kernel)
theorem r_276_221 : xfetch 276 221 = some (.iconst 1, 1) := by decide +kernel
theorem n_276_221 : ∀ l, xpr 276 221 l = l := xpr_no (by decide +kernel)
theorem r_276_222 : xfetch 276 222 = some (.iadd, 1) := by decide +kernel
theorem n_276_222 : ∀ l, xpr 276 222 l = l := xpr_no (by decide +kernel)
theorem r_276_223 : xfetch 276 223 = some (.iaload, 1) := by decide +kernel
theorem n_276_223 : ∀ l, xpr 276 223 l = l := xpr_no (by decide +kernel)
theorem r_276_224 : xfetch 276 224 = some (.invokevirtual 132, 3) := by decide +kernel
theorem n_276_224 : ∀ l, xpr 276 224 l = l := xpr_no (by decide +kernel)
theorem r_276_227 : xfetch 276 227 = some (.istore 6, 2) := by decide +kernel
theorem n_276_227 : ∀ l, xpr 276 227 l = l := xpr_no (by decide +kernel)
theorem r_276_229 : xfetch 276 229 = some (.aload_n 2, 1) := by decide +kernel
theorem n_276_229 : ∀ l, xpr 276 229 l = l := xpr_no (by decide +kernel)
theorem r_276_230 : xfetch 276 230 = some (.invokevirtual 133, 3) := by decide +kernel
theorem n_276_230 : ∀ l, xpr 276 230 l = l := xpr_no (by decide +kernel)
theorem r_276_233 : xfetch 276 233 = some (.iload 5, 2) := by decide +kernel
theorem n_276_233 : ∀ l, xpr 276 233 l = l := xpr_no (by decide +kernel)
theorem r_276_235 : xfetch 276 235 = some (.if_icmp .eq 5, 3) := by decide +kernel
theorem n_276_235 : ∀ l, xpr 276 235 l = l := xpr_no (by decide +kernel)
theorem r_276_238 : xfetch 276 238 = some (.iconst 0, 1) := by decide +kernel
theorem n_276_238 : ∀ l, xpr 276 238 l = l := xpr_no (by decide +kernel)
theorem r_276_239 : xfetch 276 239 = some (.ireturn, 1) := by decide +kernel
theorem n_276_239 : ∀ l, xpr 276 239 l = l := xpr_no (by decide +kernel)
theorem r_276_240 : xfetch 276 240 = some (.iload 5, 2) := by decide +kernel
theorem n_276_240 : ∀ l, xpr 276 240 l = l := xpr_no (by decide +kernel)
theorem r_276_242 : xfetch 276 242 = some (.ifCond .ne 15, 3) := by decide +kernel
theorem n_276_242 : ∀ l, xpr 276 242 l = l := xpr_no (by decide +kernel)
theorem r_276_245 : xfetch 276 245 = some (.aload_n 3, 1) := by decide +kernel
theorem n_276_245 : ∀ l, xpr 276 245 l = l := xpr_no (by decide +kernel)
theorem r_276_246 : xfetch 276 246 = some (.iconst 0, 1) := by decide +kernel
theorem n_276_246 : ∀ l, xpr 276 246 l = l := xpr_no (by decide +kernel)
theorem r_276_247 : xfetch 276 247 = some (.laload, 1) := by decide +kernel
theorem n_276_247 : ∀ l, xpr 276 247 l = l := xpr_no (by decide +kernel)
theorem r_276_248 : xfetch 276 248 = some (.iload 6, 2) := by decide +kernel
theorem n_276_248 : ∀ l, xpr 276 248 l = l := xpr_no (by decide +kernel)
theorem r_276_250 : xfetch 276 250 = some (.i2l, 1) := by decide +kernel
theorem n_276_250 : ∀ l, xpr 276 250 l = l := xpr_no (by decide +kernel)
theorem r_276_251 : xfetch 276 251 = some (.lcmp, 1) := by decide +kernel
theorem n_276_251 : ∀ l, xpr 276 251 l = l := xpr_no (by decide +kernel)
theorem r_276_252 : xfetch 276 252 = some (.ifCond .eq 5, 3) := by decide +kernel
theorem n_276_252 : ∀ l, xpr 276 252 l = l := xpr_no (by decide +kernel)
theorem r_276_255 : xfetch 276 255 = some (.iconst 0, 1) := by decide +kernel
theorem n_276_255 : ∀ l, xpr 276 255 l = l := xpr_no (by decide +kernel)
theorem r_276_256 : xfetch 276 256 = some (.ireturn, 1) := by decide +kernel
theorem n_276_256 : ∀ l, xpr 276 256 l = l := xpr_no (by decide +kernel)
theorem r_276_257 : xfetch 276 257 = some (.goto 2651, 3) := by decide +kernel
theorem n_276_257 : ∀ l, xpr 276 257 l = l := xpr_no (by decide +kernel)
theorem r_276_260 : xfetch 276 260 = some (.aload_n 1, 1) := by decide +kernel
theorem r_276_261 : xfetch 276 261 = some (.aload_n 0, 1) := by decide +kernel
theorem n_276_261 : ∀ l, xpr 276 261 l = l := xpr_no (by decide +kernel)
theorem r_276_262 : xfetch 276 262 = some (.iload 4, 2) := by decide +kernel
theorem n_276_262 : ∀ l, xpr 276 262 l = l := xpr_no (by decide +kernel)
theorem r_276_264 : xfetch 276 264 = some (.iconst 1, 1) := by decide +kernel
theorem n_276_264 : ∀ l, xpr 276 264 l = l := xpr_no (by decide +kernel)
theorem r_276_265 : xfetch 276 265 = some (.iadd, 1) := by decide +kernel
theorem n_276_265 : ∀ l, xpr 276 265 l = l := xpr_no (by decide +kernel)
theorem r_276_266 : xfetch 276 266 = some (.iaload, 1) := by decide +kernel
theorem n_276_266 : ∀ l, xpr 276 266 l = l := xpr_no (by decide +kernel)
theorem r_276_267 : xfetch 276 267 = some (.aload_n 0, 1) := by decide +kernel
theorem n_276_267 : ∀ l, xpr 276 267 l = l := xpr_no (by decide +kernel)
theorem r_276_268 : xfetch 276 268 = some (.iload 4, 2) := by decide +kernel
theorem n_276_268 : ∀ l, xpr 276 268 l = l := xpr_no (by decide +kernel)
theorem r_276_270 : xfetch 276 270 = some (.iconst 2, 1) := by decide +kernel
theorem n_276_270 : ∀ l, xpr 276 270 l = l := xpr_no (by decide +kernel)
theorem r_276_271 : xfetch 276 271 = some (.iadd, 1) := by decide +kernel
theorem n_276_271 : ∀ l, xpr 276 271 l = l := xpr_no (by decide +kernel)
theorem r_276_272 : xfetch 276 272 = some (.iaload, 1) := by decide +kernel
theorem n_276_272 : ∀ l, xpr 276 272 l = l := xpr_no (by decide +kernel)
theorem r_276_273 : xfetch 276 273 = some (.aload_n 0, 1) := by decide +kernel
theorem n_276_273 : ∀ l, xpr 276 273 l = l := xpr_no (by decide +kernel)
theorem r_276_274 : xfetch 276 274 = some (.iload 4, 2) := by decide +kernel
theorem n_276_274 : ∀ l, xpr 276 274 l = l := xpr_no (by decide +kernel)
theorem r_276_276 : xfetch 276 276 = some (.iconst 3, 1) := by decide +kernel
theorem n_276_276 : ∀ l, xpr 276 276 l = l := xpr_no (by decide +kernel)
theorem r_276_277 : xfetch 276 277 = some (.iadd, 1) := by decide +kernel
theorem n_276_277 : ∀ l, xpr 276 277 l = l := xpr_no (by decide +kernel)
theorem r_276_278 : xfetch 276 278 = some (.iaload, 1) := by decide +kernel
theorem n_276_278 : ∀ l, xpr 276 278 l = l := xpr_no (by decide +kernel)
theorem r_276_279 : xfetch 276 279 = some (.aload_n 0, 1) := by decide +kernel
theorem n_276_279 : ∀ l, xpr 276 279 l = l := xpr_no (by decide +kernel)
theorem r_276_280 : xfetch 276 280 = some (.iload 4, 2) := by decide +kernel
theorem n_276_280 : ∀ l, xpr 276 280 l = l := xpr_no (by decide +kernel)
theorem r_276_282 : xfetch 276 282 = some (.iconst 4, 1) := by decide +kernel
theorem n_276_282 : ∀ l, xpr 276 282 l = l := xpr_no (by decide +kernel)
theorem r_276_283 : xfetch 276 283 = some (.iadd, 1) := by decide +kernel
theorem n_276_283 : ∀ l, xpr 276 283 l = l := xpr_no (by decide +kernel)
theorem r_276_284 : xfetch 276 284 = some (.iaload, 1) := by decide +kernel
theorem n_276_284 : ∀ l, xpr 276 284 l = l := xpr_no (by decide +kernel)
theorem r_276_285 : xfetch 276 285 = some (.aload_n 3, 1) := by decide +kernel
theorem n_276_285 : ∀ l, xpr 276 285 l = l := xpr_no (by decide +kernel)
theorem r_276_286 : xfetch 276 286 = some (.invokestatic 136, 3) := by decide +kernel
theorem n_276_286 : ∀ l, xpr 276 286 l = l := xpr_no (by decide +kernel)
theorem r_276_289 : xfetch 276 289 = some (.istore 5, 2) := by decide +kernel
theorem n_276_289 : ∀ l, xpr 276 289 l = l := xpr_no (by decide +kernel)
theorem r_276_291 : xfetch 276 291 = some (.aload_n 2, 1) := by decide +kernel
theorem n_276_291 : ∀ l, xpr 276 291 l = l := xpr_no (by decide +kernel)
theorem r_276_292 : xfetch 276 292 = some (.aload_n 0, 1) := by decide +kernel
theorem n_276_292 : ∀ l, xpr 276 292 l = l := xpr_no (by decide +kernel)
theorem r_276_293 : xfetch 276 293 = some (.iload 4, 2) := by decide +kernel
theorem n_276_293 : ∀ l, xpr 276 293 l = l := xpr_no (by decide +kernel)
theorem r_276_295 : xfetch 276 295 = some (.iconst 1, 1) := by decide +kernel
theorem n_276_295 : ∀ l, xpr 276 295 l = l := xpr_no (by decide +kernel)
theorem r_276_296 : xfetch 276 296 = some (.iadd, 1) := by decide +kernel
theorem n_276_296 : ∀ l, xpr 276 296 l = l := xpr_no (by decide +kernel)
theorem r_276_297 : xfetch 276 297 = some (.iaload, 1) := by decide +kernel
theorem n_276_297 : ∀ l, xpr 276 297 l = l := xpr_no (by decide +kernel)
theorem r_276_298 : xfetch 276 298 = some (.aload_n 0, 1) := by decide +kernel
theorem n_276_298 : ∀ l, xpr 276 298 l = l := xpr_no (by decide +kernel)
theorem r_276_299 : xfetch 276 299 = some (.iload 4, 2) := by decide +kernel
theorem n_276_299 : ∀ l, xpr 276 299 l = l := xpr_no (by decide +kernel)
theorem r_276_301 : xfetch 276 301 = some (.iconst 2, 1) := by decide +kernel
theorem n_276_301 : ∀ l, xpr 276 301 l = l := xpr_no (by decide +kernel)
theorem r_276_302 : xfetch 276 302 = some (.iadd, 1) := by decide +kernel
theorem n_276_302 : ∀ l, xpr 276 302 l = l := xpr_no (by decide +kernel)
theorem r_276_303 : xfetch 276 303 = some (.iaload, 1) := by decide +kernel
theorem n_276_303 : ∀ l, xpr 276 303 l = l := xpr_no (by decide +kernel)
theorem r_276_304 : xfetch 276 304 = some (.aload_n 0, 1) := by decide +kernel
theorem n_276_304 : ∀ l, xpr 276 304 l = l := xpr_no (by decide +kernel)
theorem r_276_305 : xfetch 276 305 = some (.iload 4, 2) := by decide +kernel
theorem n_276_305 : ∀ l, xpr 276 305 l = l := xpr_no (by decide +kernel)
theorem r_276_307 : xfetch 276 307 = some (.iconst 3, 1) := by decide +kernel
theorem n_276_307 : ∀ l, xpr 276 307 l = l := xpr_no (by decide +kernel)
theorem r_276_308 : xfetch 276 308 = some (.iadd, 1) := by decide +kernel
theorem n_276_308 : ∀ l, xpr 276 308 l = l := xpr_no (by decide +kernel)
theorem r_276_309 : xfetch 276 309 = some (.iaload, 1) := by decide +kernel
theorem n_276_309 : ∀ l, xpr 276 309 l = l := xpr_no (by decide +kernel)
theorem r_276_310 : xfetch 276 310 = some (.aload_n 0, 1) := by decide +kernel
theorem n_276_310 : ∀ l, xpr 276 310 l = l := xpr_no (by decide +kernel)
theorem r_276_311 : xfetch 276 311 = some (.iload 4, 2) := by decide +kernel
theorem n_276_311 : ∀ l, xpr 276 311 l = l := xpr_no (by decide +kernel)
theorem r_276_313 : xfetch 276 313 = some (.iconst 4, 1) := by decide +kernel
theorem n_276_313 : ∀ l, xpr 276 313 l = l := xpr_no (by decide +kernel)
theorem r_276_314 : xfetch 276 314 = some (.iadd, 1) := by decide +kernel
theorem n_276_314 : ∀ l, xpr 276 314 l = l := xpr_no (by decide +kernel)
theorem r_276_315 : xfetch 276 315 = some (.iaload, 1) := by decide +kernel
theorem n_276_315 : ∀ l, xpr 276 315 l = l := xpr_no (by decide +kernel)
theorem r_276_316 : xfetch 276 316 = some (.invokevirtual 139, 3) := by decide +kernel
theorem n_276_316 : ∀ l, xpr 276 316 l = l := xpr_no (by decide +kernel)
theorem r_276_319 : xfetch 276 319 = some (.istore 6, 2) := by decide +kernel
theorem n_276_319 : ∀ l, xpr 276 319 l = l := xpr_no (by decide +kernel)
theorem r_276_321 : xfetch 276 321 = some (.aload_n 2, 1) := by decide +kernel
theorem n_276_321 : ∀ l, xpr 276 321 l = l := xpr_no (by decide +kernel)
theorem r_276_322 : xfetch 276 322 = some (.invokevirtual 133, 3) := by decide +kernel
theorem n_276_322 : ∀ l, xpr 276 322 l = l := xpr_no (by decide +kernel)
theorem r_276_325 : xfetch 276 325 = some (.iload 5, 2) := by decide +kernel
theorem n_276_325 : ∀ l, xpr 276 325 l = l := xpr_no (by decide +kernel)
theorem r_276_327 : xfetch 276 327 = some (.if_icmp .eq 5, 3) := by decide +kernel
theorem n_276_327 : ∀ l, xpr 276 327 l = l := xpr_no (by decide +kernel)
theorem r_276_330 : xfetch 276 330 = some (.iconst 0, 1) := by decide +kernel
theorem n_276_330 : ∀ l, xpr 276 330 l = l := xpr_no (by decide +kernel)
theorem r_276_331 : xfetch 276 331 = some (.ireturn, 1) := by decide +kernel
theorem n_276_331 : ∀ l, xpr 276 331 l = l := xpr_no (by decide +kernel)
theorem r_276_332 : xfetch 276 332 = some (.iload 5, 2) := by decide +kernel
theorem n_276_332 : ∀ l, xpr 276 332 l = l := xpr_no (by decide +kernel)
theorem r_276_334 : xfetch 276 334 = some (.ifCond .ne 15, 3) := by decide +kernel
theorem n_276_334 : ∀ l, xpr 276 334 l = l := xpr_no (by decide +kernel)
theorem r_276_337 : xfetch 276 337 = some (.aload_n 3, 1) := by decide +kernel
theorem n_276_337 : ∀ l, xpr 276 337 l = l := xpr_no (by decide +kernel)
theorem r_276_338 : xfetch 276 338 = some (.iconst 0, 1) := by decide +kernel
theorem n_276_338 : ∀ l, xpr 276 338 l = l := xpr_no (by decide +kernel)
theorem r_276_339 : xfetch 276 339 = some (.laload, 1) := by decide +kernel
theorem n_276_339 : ∀ l, xpr 276 339 l = l := xpr_no (by decide +kernel)
theorem r_276_340 : xfetch 276 340 = some (.iload 6, 2) := by decide +kernel
theorem n_276_340 : ∀ l, xpr 276 340 l = l := xpr_no (by decide +kernel)
theorem r_276_342 : xfetch 276 342 = some (.i2l, 1) := by decide +kernel
theorem n_276_342 : ∀ l, xpr 276 342 l = l := xpr_no (by decide +kernel)
theorem r_276_343 : xfetch 276 343 = some (.lcmp, 1) := by decide +kernel
theorem n_276_343 : ∀ l, xpr 276 343 l = l := xpr_no (by decide +kernel)
theorem r_276_344 : xfetch 276 344 = some (.ifCond .eq 5, 3) := by decide +kernel
theorem n_276_344 : ∀ l, xpr 276 344 l = l := xpr_no (by decide +kernel)
theorem r_276_347 : xfetch 276 347 = some (.iconst 0, 1) := by decide +kernel
theorem n_276_347 : ∀ l, xpr 276 347 l = l := xpr_no (by decide +kernel)
theorem r_276_348 : xfetch 276 348 = some (.ireturn, 1) := by decide +kernel
theorem n_276_348 : ∀ l, xpr 276 348 l = l := xpr_no (by decide +kernel)
theorem r_276_349 : xfetch 276 349 = some (.goto 2559, 3) := by decide +kernel
theorem n_276_349 : ∀ l, xpr 276 349 l = l := xpr_no (by decide +kernel)
theorem r_276_352 : xfetch 276 352 = some (.aload_n 1, 1) := by decide +kernel
theorem r_276_353 : xfetch 276 353 = some (.invokevirtual 140, 3) := by decide +kernel
theorem n_276_353 : ∀ l, xpr 276 353 l = l := xpr_no (by decide +kernel)
theorem r_276_356 : xfetch 276 356 = some (.aload_n 2, 1) := by decide +kernel
theorem n_276_356 : ∀ l, xpr 276 356 l = l := xpr_no (by decide +kernel)
theorem r_276_357 : xfetch 276 357 = some (.invokevirtual 143, 3) := by decide +kernel
theorem n_276_357 : ∀ l, xpr 276 357 l = l := xpr_no (by decide +kernel)
theorem r_276_360 : xfetch 276 360 = some (.if_icmp .eq 2548, 3) := by decide +kernel
theorem n_276_360 : ∀ l, xpr 276 360 l = l := xpr_no (by decide +kernel)
theorem r_276_363 : xfetch 276 363 = some (.iconst 0, 1) := by decide +kernel
theorem n_276_363 : ∀ l, xpr 276 363 l = l := xpr_no (by decide +kernel)
theorem r_276_364 : xfetch 276 364 = some (.ireturn, 1) := by decide +kernel
theorem n_276_364 : ∀ l, xpr 276 364 l = l := xpr_no (by decide +kernel)
theorem r_276_365 : xfetch 276 365 = some (.aload_n 1, 1) := by decide +kernel
theorem r_276_366 : xfetch 276 366 = some (.aload_n 0, 1) := by decide +kernel
theorem n_276_366 : ∀ l, xpr 276 366 l = l := xpr_no (by decide +kernel)
theorem r_276_367 : xfetch 276 367 = some (.iload 4, 2) := by decide +kernel
theorem n_276_367 : ∀ l, xpr 276 367 l = l := xpr_no (by decide +kernel)
theorem r_276_369 : xfetch 276 369 = some (.iconst 1, 1) := by decide +kernel
theorem n_276_369 : ∀ l, xpr 276 369 l = l := xpr_no (by decide +kernel)
theorem r_276_370 : xfetch 276 370 = some (.iadd, 1) := by decide +kernel
theorem n_276_370 : ∀ l, xpr 276 370 l = l := xpr_no (by decide +kernel)
theorem r_276_371 : xfetch 276 371 = some (.iaload, 1) := by decide +kernel
theorem n_276_371 : ∀ l, xpr 276 371 l = l := xpr_no (by decide +kernel)
theorem r_276_372 : xfetch 276 372 = some (.aload_n 0, 1) := by decide +kernel
theorem n_276_372 : ∀ l, xpr 276 372 l = l := xpr_no (by decide +kernel)
theorem r_276_373 : xfetch 276 373 = some (.iload 4, 2) := by decide +kernel
theorem n_276_373 : ∀ l, xpr 276 373 l = l := xpr_no (by decide +kernel)
theorem r_276_375 : xfetch 276 375 = some (.iconst 2, 1) := by decide +kernel
theorem n_276_375 : ∀ l, xpr 276 375 l = l := xpr_no (by decide +kernel)
theorem r_276_376 : xfetch 276 376 = some (.iadd, 1) := by decide +kernel
theorem n_276_376 : ∀ l, xpr 276 376 l = l := xpr_no (by decide +kernel)
theorem r_276_377 : xfetch 276 377 = some (.iaload, 1) := by decide +kernel
theorem n_276_377 : ∀ l, xpr 276 377 l = l := xpr_no (by decide +kernel)
theorem r_276_378 : xfetch 276 378 = some (.aload_n 3, 1) := by decide +kernel
theorem n_276_378 : ∀ l, xpr 276 378 l = l := xpr_no (by decide +kernel)
theorem r_276_379 : xfetch 276 379 = some (.invokestatic 144, 3) := by decide +kernel
theorem n_276_379 : ∀ l, xpr 276 379 l = l := xpr_no (by decide +kernel)
theorem r_276_382 : xfetch 276 382 = some (.istore 5, 2) := by decide +kernel
theorem n_276_382 : ∀ l, xpr 276 382 l = l := xpr_no (by decide +kernel)
theorem r_276_384 : xfetch 276 384 = some (.aload_n 2, 1) := by decide +kernel
theorem n_276_384 : ∀ l, xpr 276 384 l = l := xpr_no (by decide +kernel)
theorem r_276_385 : xfetch 276 385 = some (.aload_n 0, 1) := by decide +kernel
theorem n_276_385 : ∀ l, xpr 276 385 l = l := xpr_no (by decide +kernel)
theorem r_276_386 : xfetch 276 386 = some (.iload 4, 2) := by decide +kernel
theorem n_276_386 : ∀ l, xpr 276 386 l = l := xpr_no (by decide +kernel)
theorem r_276_388 : xfetch 276 388 = some (.iconst 1, 1) := by decide +kernel
theorem n_276_388 : ∀ l, xpr 276 388 l = l := xpr_no (by decide +kernel)
theorem r_276_389 : xfetch 276 389 = some (.iadd, 1) := by decide +kernel
theorem n_276_389 : ∀ l, xpr 276 389 l = l := xpr_no (by decide +kernel)
theorem r_276_390 : xfetch 276 390 = some (.iaload, 1) := by decide +kernel
theorem n_276_390 : ∀ l, xpr 276 390 l = l := xpr_no (by decide +kernel)
theorem r_276_391 : xfetch 276 391 = some (.aload_n 0, 1) := by decide +kernel
theorem n_276_391 : ∀ l, xpr 276 391 l = l := xpr_no (by decide +kernel)
theorem r_276_392 : xfetch 276 392 = some (.iload 4, 2) := by decide +kernel
theorem n_276_392 : ∀ l, xpr 276 392 l = l := xpr_no (by decide +kernel)
theorem r_276_394 : xfetch 276 394 = some (.iconst 2, 1) := by decide +kernel
theorem n_276_394 : ∀ l, xpr 276 394 l = l := xpr_no (by decide +kernel)
theorem r_276_395 : xfetch 276 395 = some (.iadd, 1) := by decide +kernel
theorem n_276_395 : ∀ l, xpr 276 395 l = l := xpr_no (by decide +kernel)
theorem r_276_396 : xfetch 276 396 = some (.iaload, 1) := by decide +kernel
theorem n_276_396 : ∀ l, xpr 276 396 l = l := xpr_no (by decide +kernel)
theorem r_276_397 : xfetch 276 397 = some (.invokevirtual 147, 3) := by decide +kernel
theorem n_276_397 : ∀ l, xpr 276 397 l = l := xpr_no (by decide +kernel)
theorem r_276_400 : xfetch 276 400 = some (.istore 6, 2) := by decide +kernel
theorem n_276_400 : ∀ l, xpr 276 400 l = l := xpr_no (by decide +kernel)
theorem r_276_402 : xfetch 276 402 = some (.aload_n 2, 1) := by decide +kernel
theorem n_276_402 : ∀ l, xpr 276 402 l = l := xpr_no (by decide +kernel)
theorem r_276_403 : xfetch 276 403 = some (.invokevirtual 133, 3) := by decide +kernel
theorem n_276_403 : ∀ l, xpr 276 403 l = l := xpr_no (by decide +kernel)
theorem r_276_406 : xfetch 276 406 = some (.iload 5, 2) := by decide +kernel
theorem n_276_406 : ∀ l, xpr 276 406 l = l := xpr_no (by decide +kernel)
theorem r_276_408 : xfetch 276 408 = some (.if_icmp .eq 5, 3) := by decide +kernel
theorem n_276_408 : ∀ l, xpr 276 408 l = l := xpr_no (by decide +kernel)
theorem r_276_411 : xfetch 276 411 = some (.iconst 0, 1) := by decide +kernel
theorem n_276_411 : ∀ l, xpr 276 411 l = l := xpr_no (by decide +kernel)
theorem r_276_412 : xfetch 276 412 = some (.ireturn, 1) := by decide +kernel
theorem n_276_412 : ∀ l, xpr 276 412 l = l := xpr_no (by decide +kernel)
theorem r_276_413 : xfetch 276 413 = some (.iload 5, 2) := by decide +kernel
theorem n_276_413 : ∀ l, xpr 276 413 l = l := xpr_no (by decide +kernel)
theorem r_276_415 : xfetch 276 415 = some (.ifCond .ne 15, 3) := by decide +kernel
theorem n_276_415 : ∀ l, xpr 276 415 l = l := xpr_no (by decide +kernel)
theorem r_276_418 : xfetch 276 418 = some (.aload_n 3, 1) := by decide +kernel
theorem n_276_418 : ∀ l, xpr 276 418 l = l := xpr_no (by decide +kernel)
theorem r_276_419 : xfetch 276 419 = some (.iconst 0, 1) := by decide +kernel
theorem n_276_419 : ∀ l, xpr 276 419 l = l := xpr_no (by decide +kernel)
theorem r_276_420 : xfetch 276 420 = some (.laload, 1) := by decide +kernel
theorem n_276_420 : ∀ l, xpr 276 420 l = l := xpr_no (by decide +kernel)
theorem r_276_421 : xfetch 276 421 = some (.iload 6, 2) := by decide +kernel
theorem n_276_421 : ∀ l, xpr 276 421 l = l := xpr_no (by decide +kernel)
theorem r_276_423 : xfetch 276 423 = some (.i2l, 1) := by decide +kernel
theorem n_276_423 : ∀ l, xpr 276 423 l = l := xpr_no (by decide +kernel)
theorem r_276_424 : xfetch 276 424 = some (.lcmp, 1) := by decide +kernel
theorem n_276_424 : ∀ l, xpr 276 424 l = l := xpr_no (by decide +kernel)
theorem r_276_425 : xfetch 276 425 = some (.ifCond .eq 5, 3) := by decide +kernel
theorem n_276_425 : ∀ l, xpr 276 425 l = l := xpr_no (by decide +kernel)
theorem r_276_428 : xfetch 276 428 = some (.iconst 0, 1) := by decide +kernel
theorem n_276_428 : ∀ l, xpr 276 428 l = l := xpr_no (by decide +kernel)
theorem r_276_429 : xfetch 276 429 = some (.ireturn, 1) := by decide +kernel
theorem n_276_429 : ∀ l, xpr 276 429 l = l := xpr_no (by decide +kernel)
theorem r_276_430 : xfetch 276 430 = some (.goto 2478, 3) := by decide +kernel
theorem n_276_430 : ∀ l, xpr 276 430 l = l := xpr_no (by decide +kernel)
theorem r_276_433 : xfetch 276 433 = some (.aload_n 1, 1) := by decide +kernel
theorem r_276_434 : xfetch 276 434 = some (.aload_n 0, 1) := by decide +kernel
theorem n_276_434 : ∀ l, xpr 276 434 l = l := xpr_no (by decide +kernel)
theorem r_276_435 : xfetch 276 435 = some (.iload 4, 2) := by decide +kernel
theorem n_276_435 : ∀ l, xpr 276 435 l = l := xpr_no (by decide +kernel)
theorem r_276_437 : xfetch 276 437 = some (.iconst 1, 1) := by decide +kernel
theorem n_276_437 : ∀ l, xpr 276 437 l = l := xpr_no (by decide +kernel)
theorem r_276_438 : xfetch 276 438 = some (.iadd, 1) := by decide +kernel
theorem n_276_438 : ∀ l, xpr 276 438 l = l := xpr_no (by decide +kernel)
theorem r_276_439 : xfetch 276 439 = some (.iaload, 1) := by decide +kernel
theorem n_276_439 : ∀ l, xpr 276 439 l = l := xpr_no (by decide +kernel)
theorem r_276_440 : xfetch 276 440 = some (.aload_n 0, 1) := by decide +kernel
theorem n_276_440 : ∀ l, xpr 276 440 l = l := xpr_no (by decide +kernel)
theorem r_276_441 : xfetch 276 441 = some (.iload 4, 2) := by decide +kernel
theorem n_276_441 : ∀ l, xpr 276 441 l = l := xpr_no (by decide +kernel)
theorem r_276_443 : xfetch 276 443 = some (.iconst 2, 1) := by decide +kernel
theorem n_276_443 : ∀ l, xpr 276 443 l = l := xpr_no (by decide +kernel)
theorem r_276_444 : xfetch 276 444 = some (.iadd, 1) := by decide +kernel
theorem n_276_444 : ∀ l, xpr 276 444 l = l := xpr_no (by decide +kernel)
theorem r_276_445 : xfetch 276 445 = some (.iaload, 1) := by decide +kernel
theorem n_276_445 : ∀ l, xpr 276 445 l = l := xpr_no (by decide +kernel)
theorem r_276_446 : xfetch 276 446 = some (.aload_n 0, 1) := by decide +kernel
theorem n_276_446 : ∀ l, xpr 276 446 l = l := xpr_no (by decide +kernel)
theorem r_276_447 : xfetch 276 447 = some (.iload 4, 2) := by decide +kernel
theorem n_276_447 : ∀ l, xpr 276 447 l = l := xpr_no (by decide +kernel)
theorem r_276_449 : xfetch 276 449 = some (.iconst 3, 1) := by decide +kernel
theorem n_276_449 : ∀ l, xpr 276 449 l = l := xpr_no (by decide +kernel)
theorem r_276_450 : xfetch 276 450 = some (.iadd, 1) := by decide +kernel
theorem n_276_450 : ∀ l, xpr 276 450 l = l := xpr_no (by decide +kernel)
theorem r_276_451 : xfetch 276 451 = some (.iaload, 1) := by decide +kernel
theorem n_276_451 : ∀ l, xpr 276 451 l = l := xpr_no (by decide +kernel)
theorem r_276_452 : xfetch 276 452 = some (.aload_n 3, 1) := by decide +kernel
theorem n_276_452 : ∀ l, xpr 276 452 l = l := xpr_no (by decide +kernel)
theorem r_276_453 : xfetch 276 453 = some (.invokestatic 148, 3) := by decide +kernel
theorem n_276_453 : ∀ l, xpr 276 453 l = l := xpr_no (by decide +kernel)
theorem r_276_456 : xfetch 276 456 = some (.istore 5, 2) := by decide +kernel
theorem n_276_456 : ∀ l, xpr 276 456 l = l := xpr_no (by decide +kernel)
theorem r_276_458 : xfetch 276 458 = some (.aload_n 2, 1) := by decide +kernel
theorem n_276_458 : ∀ l, xpr 276 458 l = l := xpr_no (by decide +kernel)
theorem r_276_459 : xfetch 276 459 = some (.aload_n 0, 1) := by decide +kernel
theorem n_276_459 : ∀ l, xpr 276 459 l = l := xpr_no (by decide +kernel)
theorem r_276_460 : xfetch 276 460 = some (.iload 4, 2) := by decide +kernel
theorem n_276_460 : ∀ l, xpr 276 460 l = l := xpr_no (by decide +kernel)
theorem r_276_462 : xfetch 276 462 = some (.iconst 1, 1) := by decide +kernel
theorem n_276_462 : ∀ l, xpr 276 462 l = l := xpr_no (by decide +kernel)
theorem r_276_463 : xfetch 276 463 = some (.iadd, 1) := by decide +kernel
theorem n_276_463 : ∀ l, xpr 276 463 l = l := xpr_no (by decide +kernel)
theorem r_276_464 : xfetch 276 464 = some (.iaload, 1) := by decide +kernel
theorem n_276_464 : ∀ l, xpr 276 464 l = l := xpr_no (by decide +kernel)
theorem r_276_465 : xfetch 276 465 = some (.aload_n 0, 1) := by decide +kernel
theorem n_276_465 : ∀ l, xpr 276 465 l = l := xpr_no (by decide +kernel)
theorem r_276_466 : xfetch 276 466 = some (.iload 4, 2) := by decide +kernel
theorem n_276_466 : ∀ l, xpr 276 466 l = l := xpr_no (by decide +kernel)
theorem r_276_468 : xfetch 276 468 = some (.iconst 2, 1) := by decide +kernel
theorem n_276_468 : ∀ l, xpr 276 468 l = l := xpr_no (by decide +kernel)
theorem r_276_469 : xfetch 276 469 = some (.iadd, 1) := by decide +kernel
theorem n_276_469 : ∀ l, xpr 276 469 l = l := xpr_no (by decide +kernel)
theorem r_276_470 : xfetch 276 470 = some (.iaload, 1) := by decide +kernel
theorem n_276_470 : ∀ l, xpr 276 470 l = l := xpr_no (by decide +kernel)
theorem r_276_471 : xfetch 276 471 = some (.aload_n 0, 1) := by decide +kernel
theorem n_276_471 : ∀ l, xpr 276 471 l = l := xpr_no (by decide +kernel)
theorem r_276_472 : xfetch 276 472 = some (.iload 4, 2) := by decide +kernel
theorem n_276_472 : ∀ l, xpr 276 472 l = l := xpr_no (by decide +kernel)
theorem r_276_474 : xfetch 276 474 = some (.iconst 3, 1) := by decide +kernel
theorem n_276_474 : ∀ l, xpr 276 474 l = l := xpr_no (by decide +kernel)
theorem r_276_475 : xfetch 276 475 = some (.iadd, 1) := by decide +kernel
theorem n_276_475 : ∀ l, xpr 276 475 l = l := xpr_no (by decide +kernel)
theorem r_276_476 : xfetch 276 476 = some (.iaload, 1) := by decide +kernel
theorem n_276_476 : ∀ l, xpr 276 476 l = l := xpr_no (by decide +kernel)
theorem r_276_477 : xfetch 276 477 = some (.invokevirtual 151, 3) := by decide +kernel
theorem n_276_477 : ∀ l, xpr 276 477 l = l := xpr_no (by decide +kernel)
theorem r_276_480 : xfetch 276 480 = some (.istore 6, 2) := by decide +kernel
theorem n_276_480 : ∀ l, xpr 276 480 l = l := xpr_no (by decide +kernel)
theorem r_276_482 : xfetch 276 482 = some (.aload_n 2, 1) := by decide +kernel
theorem n_276_482 : ∀ l, xpr 276 482 l = l := xpr_no (by decide +kernel)
theorem r_276_483 : xfetch 276 483 = some (.invokevirtual 133, 3) := by decide +kernel
theorem n_276_483 : ∀ l, xpr 276 483 l = l := xpr_no (by decide +kernel)
theorem r_276_486 : xfetch 276 486 = some (.iload 5, 2) := by decide +kernel
theorem n_276_486 : ∀ l, xpr 276 486 l = l := xpr_no (by decide +kernel)
theorem r_276_488 : xfetch 276 488 = some (.if_icmp .eq 5, 3) := by decide +kernel
theorem n_276_488 : ∀ l, xpr 276 488 l = l := xpr_no (by decide +kernel)
theorem r_276_491 : xfetch 276 491 = some (.iconst 0, 1) := by decide +kernel
theorem n_276_491 : ∀ l, xpr 276 491 l = l := xpr_no (by decide +kernel)
theorem r_276_492 : xfetch 276 492 = some (.ireturn, 1) := by decide +kernel
theorem n_276_492 : ∀ l, xpr 276 492 l = l := xpr_no (by decide +kernel)
theorem r_276_493 : xfetch 276 493 = some (.iload 5, 2) := by decide +kernel
theorem n_276_493 : ∀ l, xpr 276 493 l = l := xpr_no (by decide +kernel)
theorem r_276_495 : xfetch 276 495 = some (.ifCond .ne 15, 3) := by decide +kernel
theorem n_276_495 : ∀ l, xpr 276 495 l = l := xpr_no (by decide +kernel)
theorem r_276_498 : xfetch 276 498 = some (.aload_n 3, 1) := by decide +kernel
theorem n_276_498 : ∀ l, xpr 276 498 l = l := xpr_no (by decide +kernel)
theorem r_276_499 : xfetch 276 499 = some (.iconst 0, 1) := by decide +kernel
theorem n_276_499 : ∀ l, xpr 276 499 l = l := xpr_no (by decide +kernel)
theorem r_276_500 : xfetch 276 500 = some (.laload, 1) := by decide +kernel
theorem n_276_500 : ∀ l, xpr 276 500 l = l := xpr_no (by decide +kernel)
theorem r_276_501 : xfetch 276 501 = some (.iload 6, 2) := by decide +kernel
theorem n_276_501 : ∀ l, xpr 276 501 l = l := xpr_no (by decide +kernel)
theorem r_276_503 : xfetch 276 503 = some (.i2l, 1) := by decide +kernel
theorem n_276_503 : ∀ l, xpr 276 503 l = l := xpr_no (by decide +kernel)
theorem r_276_504 : xfetch 276 504 = some (.lcmp, 1) := by decide +kernel
theorem n_276_504 : ∀ l, xpr 276 504 l = l := xpr_no (by decide +kernel)
theorem r_276_505 : xfetch 276 505 = some (.ifCond .eq 5, 3) := by decide +kernel
theorem n_276_505 : ∀ l, xpr 276 505 l = l := xpr_no (by decide +kernel)
theorem r_276_508 : xfetch 276 508 = some (.iconst 0, 1) := by decide +kernel
theorem n_276_508 : ∀ l, xpr 276 508 l = l := xpr_no (by decide +kernel)
theorem r_276_509 : xfetch 276 509 = some (.ireturn, 1) := by decide +kernel
theorem n_276_509 : ∀ l, xpr 276 509 l = l := xpr_no (by decide +kernel)
theorem r_276_510 : xfetch 276 510 = some (.goto 2398, 3) := by decide +kernel
theorem n_276_510 : ∀ l, xpr 276 510 l = l := xpr_no (by decide +kernel)
theorem r_276_513 : xfetch 276 513 = some (.aload_n 1, 1) := by decide +kernel
theorem r_276_514 : xfetch 276 514 = some (.aload_n 0, 1) := by decide +kernel
theorem n_276_514 : ∀ l, xpr 276 514 l = l := xpr_no (by decide +kernel)
theorem r_276_515 : xfetch 276 515 = some (.iload 4, 2) := by decide +kernel
theorem n_276_515 : ∀ l, xpr 276 515 l = l := xpr_no (by decide +kernel)
theorem r_276_517 : xfetch 276 517 = some (.iconst 1, 1) := by decide +kernel
theorem n_276_517 : ∀ l, xpr 276 517 l = l := xpr_no (by decide +kernel)
theorem r_276_518 : xfetch 276 518 = some (.iadd, 1) := by decide +kernel
theorem n_276_518 : ∀ l, xpr 276 518 l = l := xpr_no (by decide +kernel)
theorem r_276_519 : xfetch 276 519 = some (.iaload, 1) := by decide +kernel
theorem n_276_519 : ∀ l, xpr 276 519 l = l := xpr_no (by decide +kernel)
theorem r_276_520 : xfetch 276 520 = some (.aload_n 0, 1) := by decide +kernel
theorem n_276_520 : ∀ l, xpr 276 520 l = l := xpr_no (by decide +kernel)
theorem r_276_521 : xfetch 276 521 = some (.iload 4, 2) := by decide +kernel
theorem n_276_521 : ∀ l, xpr 276 521 l = l := xpr_no (by decide +kernel)
theorem r_276_523 : xfetch 276 523 = some (.iconst 2, 1) := by decide +kernel
theorem n_276_523 : ∀ l, xpr 276 523 l = l := xpr_no (by decide +kernel)
theorem r_276_524 : xfetch 276 524 = some (.iadd, 1) := by decide +kernel
theorem n_276_524 : ∀ l, xpr 276 524 l = l := xpr_no (by decide +kernel)
theorem r_276_525 : xfetch 276 525 = some (.iaload, 1) := by decide +kernel
theorem n_276_525 : ∀ l, xpr 276 525 l = l := xpr_no (by decide +kernel)
theorem r_276_526 : xfetch 276 526 = some (.aload_n 0, 1) := by decide +kernel
theorem n_276_526 : ∀ l, xpr 276 526 l = l := xpr_no (by decide +kernel)
theorem r_276_527 : xfetch 276 527 = some (.iload 4, 2) := by decide +kernel
theorem n_276_527 : ∀ l, xpr 276 527 l = l := xpr_no (by decide +kernel)
theorem r_276_529 : xfetch 276 529 = some (.iconst 3, 1) := by decide +kernel
theorem n_276_529 : ∀ l, xpr 276 529 l = l := xpr_no (by decide +kernel)
theorem r_276_530 : xfetch 276 530 = some (.iadd, 1) := by decide +kernel
theorem n_276_530 : ∀ l, xpr 276 530 l = l := xpr_no (by decide +kernel)
theorem r_276_531 : xfetch 276 531 = some (.iaload, 1) := by decide +kernel
theorem n_276_531 : ∀ l, xpr 276 531 l = l := xpr_no (by decide +kernel)
theorem r_276_532 : xfetch 276 532 = some (.aload_n 3, 1) := by decide +kernel
theorem n_276_532 : ∀ l, xpr 276 532 l = l := xpr_no (by decide +kernel)
theorem r_276_533 : xfetch 276 533 = some (.invokestatic 152, 3) := by decide +kernel
theorem n_276_533 : ∀ l, xpr 276 533 l = l := xpr_no (by decide +kernel)
theorem r_276_536 : xfetch 276 536 = some (.istore 5, 2) := by decide +kernel
theorem n_276_536 : ∀ l, xpr 276 536 l = l := xpr_no (by decide +kernel)
theorem r_276_538 : xfetch 276 538 = some (.aload_n 2, 1) := by decide +kernel
theorem n_276_538 : ∀ l, xpr 276 538 l = l := xpr_no (by decide +kernel)
theorem r_276_539 : xfetch 276 539 = some (.aload_n 0, 1) := by decide +kernel
theorem n_276_539 : ∀ l, xpr 276 539 l = l := xpr_no (by decide +kernel)
theorem r_276_540 : xfetch 276 540 = some (.iload 4, 2) := by decide +kernel
theorem n_276_540 : ∀ l, xpr 276 540 l = l := xpr_no (by decide +kernel)
theorem r_276_542 : xfetch 276 542 = some (.iconst 1, 1) := by decide +kernel
theorem n_276_542 : ∀ l, xpr 276 542 l = l := xpr_no (by decide +kernel)
theorem r_276_543 : xfetch 276 543 = some (.iadd, 1) := by decide +kernel
theorem n_276_543 : ∀ l, xpr 276 543 l = l := xpr_no (by decide +kernel)
theorem r_276_544 : xfetch 276 544 = some (.iaload, 1) := by decide +kernel
theorem n_276_544 : ∀ l, xpr 276 544 l = l := xpr_no (by decide +kernel)
theorem r_276_545 : xfetch 276 545 = some (.aload_n 0, 1) := by decide +kernel
theorem n_276_545 : ∀ l, xpr 276 545 l = l := xpr_no (by decide +kernel)
theorem r_276_546 : xfetch 276 546 = some (.iload 4, 2) := by decide +kernel
theorem n_276_546 : ∀ l, xpr 276 546 l = l := xpr_no (by decide +kernel)
theorem r_276_548 : xfetch 276 548 = some (.iconst 2, 1) := by decide +kernel
theorem n_276_548 : ∀ l, xpr 276 548 l = l := xpr_no (by decide +kernel)
theorem r_276_549 : xfetch 276 549 = some (.iadd, 1) := by decide +kernel
theorem n_276_549 : ∀ l, xpr 276 549 l = l := xpr_no (by decide +kernel)
theorem r_276_550 : xfetch 276 550 = some (.iaload, 1) := by decide +kernel
theorem n_276_550 : ∀ l, xpr 276 550 l = l := xpr_no (by decide +kernel)
theorem r_276_551 : xfetch 276 551 = some (.aload_n 0, 1) := by decide +kernel
theorem n_276_551 : ∀ l, xpr 276 551 l = l := xpr_no (by decide +kernel)
theorem r_276_552 : xfetch 276 552 = some (.iload 4, 2) := by decide +kernel
theorem n_276_552 : ∀ l, xpr 276 552 l = l := xpr_no (by decide +kernel)
theorem r_276_554 : xfetch 276 554 = some (.iconst 3, 1) := by decide +kernel
theorem n_276_554 : ∀ l, xpr 276 554 l = l := xpr_no (by decide +kernel)
theorem r_276_555 : xfetch 276 555 = some (.iadd, 1) := by decide +kernel
theorem n_276_555 : ∀ l, xpr 276 555 l = l := xpr_no (by decide +kernel)
theorem r_276_556 : xfetch 276 556 = some (.iaload, 1) := by decide +kernel
theorem n_276_556 : ∀ l, xpr 276 556 l = l := xpr_no (by decide +kernel)
theorem r_276_557 : xfetch 276 557 = some (.invokevirtual 154, 3) := by decide +kernel
theorem n_276_557 : ∀ l, xpr 276 557 l = l := xpr_no (by decide +kernel)
theorem r_276_560 : xfetch 276 560 = some (.istore 6, 2) := by decide +kernel
theorem n_276_560 : ∀ l, xpr 276 560 l = l := xpr_no (by decide +kernel)
theorem r_276_562 : xfetch 276 562 = some (.aload_n 2, 1) := by decide +kernel
theorem n_276_562 : ∀ l, xpr 276 562 l = l := xpr_no (by decide +kernel)
theorem r_276_563 : xfetch 276 563 = some (.invokevirtual 133, 3) := by decide +kernel
theorem n_276_563 : ∀ l, xpr 276 563 l = l := xpr_no (by decide +kernel)
theorem r_276_566 : xfetch 276 566 = some (.iload 5, 2) := by decide +kernel
theorem n_276_566 : ∀ l, xpr 276 566 l = l := xpr_no (by decide +kernel)
theorem r_276_568 : xfetch 276 568 = some (.if_icmp .eq 5, 3) := by decide +kernel
theorem n_276_568 : ∀ l, xpr 276 568 l = l := xpr_no (by decide +kernel)
theorem r_276_571 : xfetch 276 571 = some (.iconst 0, 1) := by decide +kernel
theorem n_276_571 : ∀ l, xpr 276 571 l = l := xpr_no (by decide +kernel)
theorem r_276_572 : xfetch 276 572 = some (.ireturn, 1) := by decide +kernel
theorem n_276_572 : ∀ l, xpr 276 572 l = l := xpr_no (by decide +kernel)
theorem r_276_573 : xfetch 276 573 = some (.iload 5, 2) := by decide +kernel
theorem n_276_573 : ∀ l, xpr 276 573 l = l := xpr_no (by decide +kernel)
theorem r_276_575 : xfetch 276 575 = some (.ifCond .ne 15, 3) := by decide +kernel
theorem n_276_575 : ∀ l, xpr 276 575 l = l := xpr_no (by decide +kernel)
theorem r_276_578 : xfetch 276 578 = some (.aload_n 3, 1) := by decide +kernel
theorem n_276_578 : ∀ l, xpr 276 578 l = l := xpr_no (by decide +kernel)
theorem r_276_579 : xfetch 276 579 = some (.iconst 0, 1) := by decide +kernel
theorem n_276_579 : ∀ l, xpr 276 579 l = l := xpr_no (by decide +kernel)
theorem r_276_580 : xfetch 276 580 = some (.laload, 1) := by decide +kernel
theorem n_276_580 : ∀ l, xpr 276 580 l = l := xpr_no (by decide +kernel)
theorem r_276_581 : xfetch 276 581 = some (.iload 6, 2) := by decide +kernel
theorem n_276_581 : ∀ l, xpr 276 581 l = l := xpr_no (by decide +kernel)
theorem r_276_583 : xfetch 276 583 = some (.i2l, 1) := by decide +kernel
theorem n_276_583 : ∀ l, xpr 276 583 l = l := xpr_no (by decide +kernel)
theorem r_276_584 : xfetch 276 584 = some (.lcmp, 1) := by decide +kernel
theorem n_276_584 : ∀ l, xpr 276 584 l = l := xpr_no (by decide +kernel)
theorem r_276_585 : xfetch 276 585 = some (.ifCond .eq 5, 3) := by decide +kernel
theorem n_276_585 : ∀ l, xpr 276 585 l = l := xpr_no (by decide +kernel)
theorem r_276_588 : xfetch 276 588 = some (.iconst 0, 1) := by decide +kernel
theorem n_276_588 : ∀ l, xpr 276 588 l = l := xpr_no (by decide +kernel)
theorem r_276_589 : xfetch 276 589 = some (.ireturn, 1) := by decide +kernel
theorem n_276_589 : ∀ l, xpr 276 589 l = l := xpr_no (by decide +kernel)
theorem r_276_590 : xfetch 276 590 = some (.goto 2318, 3) := by decide +kernel
theorem n_276_590 : ∀ l, xpr 276 590 l = l := xpr_no (by decide +kernel)
theorem r_276_593 : xfetch 276 593 = some (.aload_n 1, 1) := by decide +kernel
theorem r_276_594 : xfetch 276 594 = some (.aload_n 0, 1) := by decide +kernel
theorem n_276_594 : ∀ l, xpr 276 594 l = l := xpr_no (by decide +kernel)
theorem r_276_595 : xfetch 276 595 = some (.iload 4, 2) := by decide +kernel
theorem n_276_595 : ∀ l, xpr 276 595 l = l := xpr_no (by decide +kernel)
theorem r_276_597 : xfetch 276 597 = some (.iconst 1, 1) := by decide +kernel
theorem n_276_597 : ∀ l, xpr 276 597 l = l := xpr_no (by decide +kernel)
theorem r_276_598 : xfetch 276 598 = some (.iadd, 1) := by decide +kernel
theorem n_276_598 : ∀ l, xpr 276 598 l = l := xpr_no (by decide +kernel)
theorem r_276_599 : xfetch 276 599 = some (.iaload, 1) := by decide +kernel
theorem n_276_599 : ∀ l, xpr 276 599 l = l := xpr_no (by decide +kernel)
theorem r_276_600 : xfetch 276 600 = some (.aload_n 0, 1) := by decide +kernel
theorem n_276_600 : ∀ l, xpr 276 600 l = l := xpr_no (by decide +kernel)
theorem r_276_601 : xfetch 276 601 = some (.iload 4, 2) := by decide +kernel
theorem n_276_601 : ∀ l, xpr 276 601 l = l := xpr_no (by decide +kernel)
theorem r_276_603 : xfetch 276 603 = some (.iconst 2, 1) := by decide +kernel
theorem n_276_603 : ∀ l, xpr 276 603 l = l := xpr_no (by decide +kernel)
theorem r_276_604 : xfetch 276 604 = some (.iadd, 1) := by decide +kernel
theorem n_276_604 : ∀ l, xpr 276 604 l = l := xpr_no (by decide +kernel)
theorem r_276_605 : xfetch 276 605 = some (.iaload, 1) := by decide +kernel
theorem n_276_605 : ∀ l, xpr 276 605 l = l := xpr_no (by decide +kernel)
theorem r_276_606 : xfetch 276 606 = some (.aload_n 0, 1) := by decide +kernel
theorem n_276_606 : ∀ l, xpr 276 606 l = l := xpr_no (by decide +kernel)
theorem r_276_607 : xfetch 276 607 = some (.iload 4, 2) := by decide +kernel
theorem n_276_607 : ∀ l, xpr 276 607 l = l := xpr_no (by decide +kernel)
theorem r_276_609 : xfetch 276 609 = some (.iconst 3, 1) := by decide +kernel
theorem n_276_609 : ∀ l, xpr 276 609 l = l := xpr_no (by decide +kernel)
theorem r_276_610 : xfetch 276 610 = some (.iadd, 1) := by decide +kernel
theorem n_276_610 : ∀ l, xpr 276 610 l = l := xpr_no (by decide +kernel)
theorem r_276_611 : xfetch 276 611 = some (.iaload, 1) := by decide +kernel
theorem n_276_611 : ∀ l, xpr 276 611 l = l := xpr_no (by decide +kernel)
theorem r_276_612 : xfetch 276 612 = some (.aload_n 3, 1) := by decide +kernel
theorem n_276_612 : ∀ l, xpr 276 612 l = l := xpr_no (by decide +kernel)
theorem r_276_613 : xfetch 276 613 = some (.invokestatic 155, 3) := by decide +kernel
theorem n_276_613 : ∀ l, xpr 276 613 l = l := xpr_no (by decide +kernel)
theorem r_276_616 : xfetch 276 616 = some (.istore 5, 2) := by decide +kernel
theorem n_276_616 : ∀ l, xpr 276 616 l = l := xpr_no (by decide +kernel)
theorem r_276_618 : xfetch 276 618 = some (.aload_n 2, 1) := by decide +kernel
theorem n_276_618 : ∀ l, xpr 276 618 l = l := xpr_no (by decide +kernel)
theorem r_276_619 : xfetch 276 619 = some (.aload_n 0, 1) := by decide +kernel
theorem n_276_619 : ∀ l, xpr 276 619 l = l := xpr_no (by decide +kernel)
theorem r_276_620 : xfetch 276 620 = some (.iload 4, 2) := by decide +kernel
theorem n_276_620 : ∀ l, xpr 276 620 l = l := xpr_no (by decide +kernel)
theorem r_276_622 : xfetch 276 622 = some (.iconst 1, 1) := by decide +kernel
theorem n_276_622 : ∀ l, xpr 276 622 l = l := xpr_no (by decide +kernel)
theorem r_276_623 : xfetch 276 623 = some (.iadd, 1) := by decide +kernel
theorem n_276_623 : ∀ l, xpr 276 623 l = l := xpr_no (by decide +kernel)
theorem r_276_624 : xfetch 276 624 = some (.iaload, 1) := by decide +kernel
theorem n_276_624 : ∀ l, xpr 276 624 l = l := xpr_no (by decide +kernel)
theorem r_276_625 : xfetch 276 625 = some (.aload_n 0, 1) := by decide +kernel
theorem n_276_625 : ∀ l, xpr 276 625 l = l := xpr_no (by decide +kernel)
theorem r_276_626 : xfetch 276 626 = some (.iload 4, 2) := by decide +kernel
theorem n_276_626 : ∀ l, xpr 276 626 l = l := xpr_no (by decide +kernel)
theorem r_276_628 : xfetch 276 628 = some (.iconst 2, 1) := by decide +kernel
theorem n_276_628 : ∀ l, xpr 276 628 l = l := xpr_no (by decide +kernel)
theorem r_276_629 : xfetch 276 629 = some (.iadd, 1) := by decide +kernel
theorem n_276_629 : ∀ l, xpr 276 629 l = l := xpr_no (by decide +kernel)
theorem r_276_630 : xfetch 276 630 = some (.iaload, 1) := by decide +kernel
theorem n_276_630 : ∀ l, xpr 276 630 l = l := xpr_no (by decide +kernel)
theorem r_276_631 : xfetch 276 631 = some (.aload_n 0, 1) := by decide +kernel
theorem n_276_631 : ∀ l, xpr 276 631 l = l := xpr_no (by decide +kernel)
theorem r_276_632 : xfetch 276 632 = some (.iload 4, 2) := by decide +kernel
theorem n_276_632 : ∀ l, xpr 276 632 l = l := xpr_no (by decide +kernel)
theorem r_276_634 : xfetch 276 634 = some (.iconst 3, 1) := by decide +kernel
theorem n_276_634 : ∀ l, xpr 276 634 l = l := xpr_no (by decide +kernel)
theorem r_276_635 : xfetch 276 635 = some (.iadd, 1) := by decide +kernel
theorem n_276_635 : ∀ l, xpr 276 635 l = l := xpr_no (by decide +kernel)
theorem r_276_636 : xfetch 276 636 = some (.iaload, 1) := by decide +kernel
theorem n_276_636 : ∀ l, xpr 276 636 l = l := xpr_no (by decide +kernel)
theorem r_276_637 : xfetch 276 637 = some (.invokevirtual 157, 3) := by decide +kernel
theorem n_276_637 : ∀ l, xpr 276 637 l = l := xpr_no (by decide +kernel)
theorem r_276_640 : xfetch 276 640 = some (.istore 6, 2) := by decide +kernel
theorem n_276_640 : ∀ l, xpr 276 640 l = l := xpr_no (by decide +kernel)
theorem r_276_642 : xfetch 276 642 = some (.aload_n 2, 1) := by decide +kernel
theorem n_276_642 : ∀ l, xpr 276 642 l = l := xpr_no (by decide +kernel)
theorem r_276_643 : xfetch 276 643 = some (.invokevirtual 133, 3) := by decide +kernel
theorem n_276_643 : ∀ l, xpr 276 643 l = l := xpr_no (by decide +kernel)
theorem r_276_646 : xfetch 276 646 = some (.iload 5, 2) := by decide +kernel
theorem n_276_646 : ∀ l, xpr 276 646 l = l := xpr_no (by decide +kernel)
theorem r_276_648 : xfetch 276 648 = some (.if_icmp .eq 5, 3) := by decide +kernel
theorem n_276_648 : ∀ l, xpr 276 648 l = l := xpr_no (by decide +kernel)
theorem r_276_651 : xfetch 276 651 = some (.iconst 0, 1) := by decide +kernel
theorem n_276_651 : ∀ l, xpr 276 651 l = l := xpr_no (by decide +kernel)
theorem r_276_652 : xfetch 276 652 = some (.ireturn, 1) := by decide +kernel
theorem n_276_652 : ∀ l, xpr 276 652 l = l := xpr_no (by decide +kernel)
theorem r_276_653 : xfetch 276 653 = some (.iload 5, 2) := by decide +kernel
theorem n_276_653 : ∀ l, xpr 276 653 l = l := xpr_no (by decide +kernel)
theorem r_276_655 : xfetch 276 655 = some (.ifCond .ne 15, 3) := by decide +kernel
theorem n_276_655 : ∀ l, xpr 276 655 l = l := xpr_no (by decide +kernel)
theorem r_276_658 : xfetch 276 658 = some (.aload_n 3, 1) := by decide +kernel
theorem n_276_658 : ∀ l, xpr 276 658 l = l := xpr_no (by decide +kernel)
theorem r_276_659 : xfetch 276 659 = some (.iconst 0, 1) := by decide +kernel
theorem n_276_659 : ∀ l, xpr 276 659 l = l := xpr_no (by decide +kernel)
theorem r_276_660 : xfetch 276 660 = some (.laload, 1) := by decide +kernel
theorem n_276_660 : ∀ l, xpr 276 660 l = l := xpr_no (by decide +kernel)
theorem r_276_661 : xfetch 276 661 = some (.iload 6, 2) := by decide +kernel
theorem n_276_661 : ∀ l, xpr 276 661 l = l := xpr_no (by decide +kernel)
theorem r_276_663 : xfetch 276 663 = some (.i2l, 1) := by decide +kernel
theorem n_276_663 : ∀ l, xpr 276 663 l = l := xpr_no (by decide +kernel)
theorem r_276_664 : xfetch 276 664 = some (.lcmp, 1) := by decide +kernel
theorem n_276_664 : ∀ l, xpr 276 664 l = l := xpr_no (by decide +kernel)
theorem r_276_665 : xfetch 276 665 = some (.ifCond .eq 5, 3) := by decide +kernel
theorem n_276_665 : ∀ l, xpr 276 665 l = l := xpr_no (by decide +kernel)
theorem r_276_668 : xfetch 276 668 = some (.iconst 0, 1) := by decide +kernel
theorem n_276_668 : ∀ l, xpr 276 668 l = l := xpr_no (by decide +kernel)
theorem r_276_669 : xfetch 276 669 = some (.ireturn, 1) := by decide +kernel
theorem n_276_669 : ∀ l, xpr 276 669 l = l := xpr_no (by decide +kernel)
theorem r_276_670 : xfetch 276 670 = some (.goto 2238, 3) := by decide +kernel
theorem n_276_670 : ∀ l, xpr 276 670 l = l := xpr_no (by decide +kernel)
theorem r_276_673 : xfetch 276 673 = some (.aload_n 1, 1) := by decide +kernel
theorem r_276_674 : xfetch 276 674 = some (.aload_n 0, 1) := by decide +kernel
theorem n_276_674 : ∀ l, xpr 276 674 l = l := xpr_no (by decide +kernel)
theorem r_276_675 : xfetch 276 675 = some (.iload 4, 2) := by decide +kernel
theorem n_276_675 : ∀ l, xpr 276 675 l = l := xpr_no (by decide +kernel)
theorem r_276_677 : xfetch 276 677 = some (.iconst 1, 1) := by decide +kernel
theorem n_276_677 : ∀ l, xpr 276 677 l = l := xpr_no (by decide +kernel)
theorem r_276_678 : xfetch 276 678 = some (.iadd, 1) := by decide +kernel
theorem n_276_678 : ∀ l, xpr 276 678 l = l := xpr_no (by decide +kernel)
theorem r_276_679 : xfetch 276 679 = some (.iaload, 1) := by decide +kernel
theorem n_276_679 : ∀ l, xpr 276 679 l = l := xpr_no (by decide +kernel)
theorem r_276_680 : xfetch 276 680 = some (.aload_n 3, 1) := by decide +kernel
theorem n_276_680 : ∀ l, xpr 276 680 l = l := xpr_no (by decide +kernel)
theorem r_276_681 : xfetch 276 681 = some (.invokestatic 158, 3) := by decide +kernel
theorem n_276_681 : ∀ l, xpr 276 681 l = l := xpr_no (by decide +kernel)
theorem r_276_684 : xfetch 276 684 = some (.istore 5, 2) := by decide +kernel
theorem n_276_684 : ∀ l, xpr 276 684 l = l := xpr_no (by decide +kernel)
theorem r_276_686 : xfetch 276 686 = some (.aload_n 2, 1) := by decide +kernel
theorem n_276_686 : ∀ l, xpr 276 686 l = l := xpr_no (by decide +kernel)
theorem r_276_687 : xfetch 276 687 = some (.aload_n 0, 1) := by decide +kernel
theorem n_276_687 : ∀ l, xpr 276 687 l = l := xpr_no (by decide +kernel)
theorem r_276_688 : xfetch 276 688 = some (.iload 4, 2) := by decide +kernel
theorem n_276_688 : ∀ l, xpr 276 688 l = l := xpr_no (by decide +kernel)
theorem r_276_690 : xfetch 276 690 = some (.iconst 1, 1) := by decide +kernel
theorem n_276_690 : ∀ l, xpr 276 690 l = l := xpr_no (by decide +kernel)
theorem r_276_691 : xfetch 276 691 = some (.iadd, 1) := by decide +kernel
theorem n_276_691 : ∀ l, xpr 276 691 l = l := xpr_no (by decide +kernel)
theorem r_276_692 : xfetch 276 692 = some (.iaload, 1) := by decide +kernel
theorem n_276_692 : ∀ l, xpr 276 692 l = l := xpr_no (by decide +kernel)
theorem r_276_693 : xfetch 276 693 = some (.invokevirtual 160, 3) := by decide +kernel
theorem n_276_693 : ∀ l, xpr 276 693 l = l := xpr_no (by decide +kernel)
theorem r_276_696 : xfetch 276 696 = some (.istore 6, 2) := by decide +kernel
theorem n_276_696 : ∀ l, xpr 276 696 l = l := xpr_no (by decide +kernel)
theorem r_276_698 : xfetch 276 698 = some (.aload_n 2, 1) := by decide +kernel
theorem n_276_698 : ∀ l, xpr 276 698 l = l := xpr_no (by decide +kernel)
theorem r_276_699 : xfetch 276 699 = some (.invokevirtual 133, 3) := by decide +kernel
theorem n_276_699 : ∀ l, xpr 276 699 l = l := xpr_no (by decide +kernel)
theorem r_276_702 : xfetch 276 702 = some (.iload 5, 2) := by decide +kernel
theorem n_276_702 : ∀ l, xpr 276 702 l = l := xpr_no (by decide +kernel)
theorem r_276_704 : xfetch 276 704 = some (.if_icmp .eq 5, 3) := by decide +kernel
theorem n_276_704 : ∀ l, xpr 276 704 l = l := xpr_no (by decide +kernel)
theorem r_276_707 : xfetch 276 707 = some (.iconst 0, 1) := by decide +kernel
theorem n_276_707 : ∀ l, xpr 276 707 l = l := xpr_no (by decide +kernel)
theorem r_276_708 : xfetch 276 708 = some (.ireturn, 1) := by decide +kernel
theorem n_276_708 : ∀ l, xpr 276 708 l = l := xpr_no (by decide +kernel)
theorem r_276_709 : xfetch 276 709 = some (.iload 5, 2) := by decide +kernel
theorem n_276_709 : ∀ l, xpr 276 709 l = l := xpr_no (by decide +kernel)
theorem r_276_711 : xfetch 276 711 = some (.ifCond .ne 15, 3) := by decide +kernel
theorem n_276_711 : ∀ l, xpr 276 711 l = l := xpr_no (by decide +kernel)
theorem r_276_714 : xfetch 276 714 = some (.aload_n 3, 1) := by decide +kernel
theorem n_276_714 : ∀ l, xpr 276 714 l = l := xpr_no (by decide +kernel)
theorem r_276_715 : xfetch 276 715 = some (.iconst 0, 1) := by decide +kernel
theorem n_276_715 : ∀ l, xpr 276 715 l = l := xpr_no (by decide +kernel)
theorem r_276_716 : xfetch 276 716 = some (.laload, 1) := by decide +kernel
theorem n_276_716 : ∀ l, xpr 276 716 l = l := xpr_no (by decide +kernel)
theorem r_276_717 : xfetch 276 717 = some (.iload 6, 2) := by decide +kernel
theorem n_276_717 : ∀ l, xpr 276 717 l = l := xpr_no (by decide +kernel)
theorem r_276_719 : xfetch 276 719 = some (.i2l, 1) := by decide +kernel
theorem n_276_719 : ∀ l, xpr 276 719 l = l := xpr_no (by decide +kernel)
theorem r_276_720 : xfetch 276 720 = some (.lcmp, 1) := by decide +kernel
theorem n_276_720 : ∀ l, xpr 276 720 l = l := xpr_no (by decide +kernel)
theorem r_276_721 : xfetch 276 721 = some (.ifCond .eq 5, 3) := by decide +kernel
theorem n_276_721 : ∀ l, xpr 276 721 l = l := xpr_no (by decide +kernel)
theorem r_276_724 : xfetch 276 724 = some (.iconst 0, 1) := by decide +kernel
theorem n_276_724 : ∀ l, xpr 276 724 l = l := xpr_no (by decide +kernel)
theorem r_276_725 : xfetch 276 725 = some (.ireturn, 1) := by decide +kernel
theorem n_276_725 : ∀ l, xpr 276 725 l = l := xpr_no (by decide +kernel)
theorem r_276_726 : xfetch 276 726 = some (.goto 2182, 3) := by decide +kernel
theorem n_276_726 : ∀ l, xpr 276 726 l = l := xpr_no (by decide +kernel)
theorem r_276_729 : xfetch 276 729 = some (.aload_n 1, 1) := by decide +kernel
theorem r_276_730 : xfetch 276 730 = some (.aload_n 0, 1) := by decide +kernel
theorem n_276_730 : ∀ l, xpr 276 730 l = l := xpr_no (by decide +kernel)
theorem r_276_731 : xfetch 276 731 = some (.iload 4, 2) := by decide +kernel
theorem n_276_731 : ∀ l, xpr 276 731 l = l := xpr_no (by decide +kernel)
theorem r_276_733 : xfetch 276 733 = some (.iconst 1, 1) := by decide +kernel
theorem n_276_733 : ∀ l, xpr 276 733 l = l := xpr_no (by decide +kernel)
theorem r_276_734 : xfetch 276 734 = some (.iadd, 1) := by decide +kernel
theorem n_276_734 : ∀ l, xpr 276 734 l = l := xpr_no (by decide +kernel)
theorem r_276_735 : xfetch 276 735 = some (.iaload, 1) := by decide +kernel
theorem n_276_735 : ∀ l, xpr 276 735 l = l := xpr_no (by decide +kernel)
theorem r_276_736 : xfetch 276 736 = some (.aload_n 3, 1) := by decide +kernel
theorem n_276_736 : ∀ l, xpr 276 736 l = l := xpr_no (by decide +kernel)
theorem r_276_737 : xfetch 276 737 = some (.invokestatic 161, 3) := by decide +kernel
theorem n_276_737 : ∀ l, xpr 276 737 l = l := xpr_no (by decide +kernel)
theorem r_276_740 : xfetch 276 740 = some (.istore 5, 2) := by decide +kernel
theorem n_276_740 : ∀ l, xpr 276 740 l = l := xpr_no (by decide +kernel)
theorem r_276_742 : xfetch 276 742 = some (.aload_n 2, 1) := by decide +kernel
theorem n_276_742 : ∀ l, xpr 276 742 l = l := xpr_no (by decide +kernel)
theorem r_276_743 : xfetch 276 743 = some (.aload_n 0, 1) := by decide +kernel
theorem n_276_743 : ∀ l, xpr 276 743 l = l := xpr_no (by decide +kernel)
theorem r_276_744 : xfetch 276 744 = some (.iload 4, 2) := by decide +kernel
theorem n_276_744 : ∀ l, xpr 276 744 l = l := xpr_no (by decide +kernel)
theorem r_276_746 : xfetch 276 746 = some (.iconst 1, 1) := by decide +kernel
theorem n_276_746 : ∀ l, xpr 276 746 l = l := xpr_no (by decide +kernel)
theorem r_276_747 : xfetch 276 747 = some (.iadd, 1) := by decide +kernel
theorem n_276_747 : ∀ l, xpr 276 747 l = l := xpr_no (by decide +kernel)
theorem r_276_748 : xfetch 276 748 = some (.iaload, 1) := by decide +kernel
theorem n_276_748 : ∀ l, xpr 276 748 l = l := xpr_no (by decide +kernel)
theorem r_276_749 : xfetch 276 749 = some (.invokevirtual 163, 3) := by decide +kernel
theorem n_276_749 : ∀ l, xpr 276 749 l = l := xpr_no (by decide +kernel)
theorem r_276_752 : xfetch 276 752 = some (.istore 6, 2) := by decide +kernel
theorem n_276_752 : ∀ l, xpr 276 752 l = l := xpr_no (by decide +kernel)
theorem r_276_754 : xfetch 276 754 = some (.aload_n 2, 1) := by decide +kernel
theorem n_276_754 : ∀ l, xpr 276 754 l = l := xpr_no (by decide +kernel)
theorem r_276_755 : xfetch 276 755 = some (.invokevirtual 133, 3) := by decide +kernel
theorem n_276_755 : ∀ l, xpr 276 755 l = l := xpr_no (by decide +kernel)
theorem r_276_758 : xfetch 276 758 = some (.iload 5, 2) := by decide +kernel
theorem n_276_758 : ∀ l, xpr 276 758 l = l := xpr_no (by decide +kernel)
theorem r_276_760 : xfetch 276 760 = some (.if_icmp .eq 5, 3) := by decide +kernel
theorem n_276_760 : ∀ l, xpr 276 760 l = l := xpr_no (by decide +kernel)
theorem r_276_763 : xfetch 276 763 = some (.iconst 0, 1) := by decide +kernel
theorem n_276_763 : ∀ l, xpr 276 763 l = l := xpr_no (by decide +kernel)
theorem r_276_764 : xfetch 276 764 = some (.ireturn, 1) := by decide +kernel
theorem n_276_764 : ∀ l, xpr 276 764 l = l := xpr_no (by decide +kernel)
theorem r_276_765 : xfetch 276 765 = some (.iload 5, 2) := by decide +kernel
theorem n_276_765 : ∀ l, xpr 276 765 l = l := xpr_no (by decide +kernel)
theorem r_276_767 : xfetch 276 767 = some (.ifCond .ne 15, 3) := by decide +kernel
theorem n_276_767 : ∀ l, xpr 276 767 l = l := xpr_no (by decide +kernel)
theorem r_276_770 : xfetch 276 770 = some (.aload_n 3, 1) := by decide +kernel
theorem n_276_770 : ∀ l, xpr 276 770 l = l := xpr_no (by decide +kernel)
theorem r_276_771 : xfetch 276 771 = some (.iconst 0, 1) := by decide +kernel
theorem n_276_771 : ∀ l, xpr 276 771 l = l := xpr_no (by decide +kernel)
theorem r_276_772 : xfetch 276 772 = some (.laload, 1) := by decide +kernel
theorem n_276_772 : ∀ l, xpr 276 772 l = l := xpr_no (by decide +kernel)
theorem r_276_773 : xfetch 276 773 = some (.iload 6, 2) := by decide +kernel
theorem n_276_773 : ∀ l, xpr 276 773 l = l := xpr_no (by decide +kernel)
theorem r_276_775 : xfetch 276 775 = some (.i2l, 1) := by decide +kernel
theorem n_276_775 : ∀ l, xpr 276 775 l = l := xpr_no (by decide +kernel)
theorem r_276_776 : xfetch 276 776 = some (.lcmp, 1) := by decide +kernel
theorem n_276_776 : ∀ l, xpr 276 776 l = l := xpr_no (by decide +kernel)
theorem r_276_777 : xfetch 276 777 = some (.ifCond .eq 5, 3) := by decide +kernel
theorem n_276_777 : ∀ l, xpr 276 777 l = l := xpr_no (by decide +kernel)
theorem r_276_780 : xfetch 276 780 = some (.iconst 0, 1) := by decide +kernel
theorem n_276_780 : ∀ l, xpr 276 780 l = l := xpr_no (by decide +kernel)
theorem r_276_781 : xfetch 276 781 = some (.ireturn, 1) := by decide +kernel
theorem n_276_781 : ∀ l, xpr 276 781 l = l := xpr_no (by decide +kernel)
theorem r_276_782 : xfetch 276 782 = some (.goto 2126, 3) := by decide +kernel
theorem n_276_782 : ∀ l, xpr 276 782 l = l := xpr_no (by decide +kernel)
theorem r_276_785 : xfetch 276 785 = some (.aload_n 1, 1) := by decide +kernel
theorem r_276_786 : xfetch 276 786 = some (.aload_n 0, 1) := by decide +kernel
theorem n_276_786 : ∀ l, xpr 276 786 l = l := xpr_no (by decide +kernel)
theorem r_276_787 : xfetch 276 787 = some (.iload 4, 2) := by decide +kernel
theorem n_276_787 : ∀ l, xpr 276 787 l = l := xpr_no (by decide +kernel)
theorem r_276_789 : xfetch 276 789 = some (.iconst 1, 1) := by decide +kernel
theorem n_276_789 : ∀ l, xpr 276 789 l = l := xpr_no (by decide +kernel)
theorem r_276_790 : xfetch 276 790 = some (.iadd, 1) := by decide +kernel
theorem n_276_790 : ∀ l, xpr 276 790 l = l := xpr_no (by decide +kernel)
theorem r_276_791 : xfetch 276 791 = some (.iaload, 1) := by decide +kernel
theorem n_276_791 : ∀ l, xpr 276 791 l = l := xpr_no (by decide +kernel)
theorem r_276_792 : xfetch 276 792 = some (.aload_n 0, 1) := by decide +kernel
theorem n_276_792 : ∀ l, xpr 276 792 l = l := xpr_no (by decide +kernel)
theorem r_276_793 : xfetch 276 793 = some (.iload 4, 2) := by decide +kernel
theorem n_276_793 : ∀ l, xpr 276 793 l = l := xpr_no (by decide +kernel)
theorem r_276_795 : xfetch 276 795 = some (.iconst 2, 1) := by decide +kernel
theorem n_276_795 : ∀ l, xpr 276 795 l = l := xpr_no (by decide +kernel)
theorem r_276_796 : xfetch 276 796 = some (.iadd, 1) := by decide +kernel
theorem n_276_796 : ∀ l, xpr 276 796 l = l := xpr_no (by decide +kernel)
theorem r_276_797 : xfetch 276 797 = some (.iaload, 1) := by decide +kernel
theorem n_276_797 : ∀ l, xpr 276 797 l = l := xpr_no (by decide +kernel)
theorem r_276_798 : xfetch 276 798 = some (.aload_n 3, 1) := by decide +kernel
theorem n_276_798 : ∀ l, xpr 276 798 l = l := xpr_no (by decide +kernel)
theorem r_276_799 : xfetch 276 799 = some (.invokestatic 164, 3) := by decide +kernel
theorem n_276_799 : ∀ l, xpr 276 799 l = l := xpr_no (by decide +kernel)
theorem r_276_802 : xfetch 276 802 = some (.istore 5, 2) := by decide +kernel
theorem n_276_802 : ∀ l, xpr 276 802 l = l := xpr_no (by decide +kernel)
theorem r_276_804 : xfetch 276 804 = some (.aload_n 2, 1) := by decide +kernel
theorem n_276_804 : ∀ l, xpr 276 804 l = l := xpr_no (by decide +kernel)
theorem r_276_805 : xfetch 276 805 = some (.aload_n 0, 1) := by decide +kernel
theorem n_276_805 : ∀ l, xpr 276 805 l = l := xpr_no (by decide +kernel)
theorem r_276_806 : xfetch 276 806 = some (.iload 4, 2) := by decide +kernel
theorem n_276_806 : ∀ l, xpr 276 806 l = l := xpr_no (by decide +kernel)
theorem r_276_808 : xfetch 276 808 = some (.iconst 1, 1) := by decide +kernel
theorem n_276_808 : ∀ l, xpr 276 808 l = l := xpr_no (by decide +kernel)
theorem r_276_809 : xfetch 276 809 = some (.iadd, 1) := by decide +kernel
theorem n_276_809 : ∀ l, xpr 276 809 l = l := xpr_no (by decide +kernel)
theorem r_276_810 : xfetch 276 810 = some (.iaload, 1) := by decide +kernel
theorem n_276_810 : ∀ l, xpr 276 810 l = l := xpr_no (by decide +kernel)
theorem r_276_811 : xfetch 276 811 = some (.aload_n 0, 1) := by decide +kernel
theorem n_276_811 : ∀ l, xpr 276 811 l = l := xpr_no (by decide +kernel)
theorem r_276_812 : xfetch 276 812 = some (.iload 4, 2) := by decide +kernel
theorem n_276_812 : ∀ l, xpr 276 812 l = l := xpr_no (by decide +kernel)
theorem r_276_814 : xfetch 276 814 = some (.iconst 2, 1) := by decide +kernel
theorem n_276_814 : ∀ l, xpr 276 814 l = l := xpr_no (by decide +kernel)
theorem r_276_815 : xfetch 276 815 = some (.iadd, 1) := by decide +kernel
theorem n_276_815 : ∀ l, xpr 276 815 l = l := xpr_no (by decide +kernel)
theorem r_276_816 : xfetch 276 816 = some (.iaload, 1) := by decide +kernel
theorem n_276_816 : ∀ l, xpr 276 816 l = l := xpr_no (by decide +kernel)
theorem r_276_817 : xfetch 276 817 = some (.invokevirtual 166, 3) := by decide +kernel
theorem n_276_817 : ∀ l, xpr 276 817 l = l := xpr_no (by decide +kernel)
theorem r_276_820 : xfetch 276 820 = some (.istore 6, 2) := by decide +kernel
theorem n_276_820 : ∀ l, xpr 276 820 l = l := xpr_no (by decide +kernel)
theorem r_276_822 : xfetch 276 822 = some (.aload_n 2, 1) := by decide +kernel
theorem n_276_822 : ∀ l, xpr 276 822 l = l := xpr_no (by decide +kernel)
theorem r_276_823 : xfetch 276 823 = some (.invokevirtual 133, 3) := by decide +kernel
theorem n_276_823 : ∀ l, xpr 276 823 l = l := xpr_no (by decide +kernel)
theorem r_276_826 : xfetch 276 826 = some (.iload 5, 2) := by decide +kernel
theorem n_276_826 : ∀ l, xpr 276 826 l = l := xpr_no (by decide +kernel)
theorem r_276_828 : xfetch 276 828 = some (.if_icmp .eq 5, 3) := by decide +kernel
theorem n_276_828 : ∀ l, xpr 276 828 l = l := xpr_no (by decide +kernel)
theorem r_276_831 : xfetch 276 831 = some (.iconst 0, 1) := by decide +kernel
theorem n_276_831 : ∀ l, xpr 276 831 l = l := xpr_no (by decide +kernel)
theorem r_276_832 : xfetch 276 832 = some (.ireturn, 1) := by decide +kernel
theorem n_276_832 : ∀ l, xpr 276 832 l = l := xpr_no (by decide +kernel)
theorem r_276_833 : xfetch 276 833 = some (.iload 5, 2) := by decide +kernel
theorem n_276_833 : ∀ l, xpr 276 833 l = l := xpr_no (by decide +kernel)
theorem r_276_835 : xfetch 276 835 = some (.ifCond .ne 15, 3) := by decide +kernel
theorem n_276_835 : ∀ l, xpr 276 835 l = l := xpr_no (by decide +kernel)
theorem r_276_838 : xfetch 276 838 = some (.aload_n 3, 1) := by decide +kernel
theorem n_276_838 : ∀ l, xpr 276 838 l = l := xpr_no (by decide +kernel)
theorem r_276_839 : xfetch 276 839 = some (.iconst 0, 1) := by decide +kernel
theorem n_276_839 : ∀ l, xpr 276 839 l = l := xpr_no (by decide +kernel)
theorem r_276_840 : xfetch 276 840 = some (.laload, 1) := by decide +kernel
theorem n_276_840 : ∀ l, xpr 276 840 l = l := xpr_no (by decide +kernel)
theorem r_276_841 : xfetch 276 841 = some (.iload 6, 2) := by decide +kernel
theorem n_276_841 : ∀ l, xpr 276 841 l = l := xpr_no (by decide +kernel)
theorem r_276_843 : xfetch 276 843 = some (.i2l, 1) := by decide +kernel
theorem n_276_843 : ∀ l, xpr 276 843 l = l := xpr_no (by decide +kernel)
theorem r_276_844 : xfetch 276 844 = some (.lcmp, 1) := by decide +kernel
theorem n_276_844 : ∀ l, xpr 276 844 l = l := xpr_no (by decide +kernel)
theorem r_276_845 : xfetch 276 845 = some (.ifCond .eq 5, 3) := by decide +kernel
theorem n_276_845 : ∀ l, xpr 276 845 l = l := xpr_no (by decide +kernel)
theorem r_276_848 : xfetch 276 848 = some (.iconst 0, 1) := by decide +kernel
theorem n_276_848 : ∀ l, xpr 276 848 l = l := xpr_no (by decide +kernel)
theorem r_276_849 : xfetch 276 849 = some (.ireturn, 1) := by decide +kernel
theorem n_276_849 : ∀ l, xpr 276 849 l = l := xpr_no (by decide +kernel)
theorem r_276_850 : xfetch 276 850 = some (.goto 2058, 3) := by decide +kernel
theorem n_276_850 : ∀ l, xpr 276 850 l = l := xpr_no (by decide +kernel)
theorem r_276_853 : xfetch 276 853 = some (.aload_n 1, 1) := by decide +kernel
theorem r_276_854 : xfetch 276 854 = some (.aload_n 0, 1) := by decide +kernel
theorem n_276_854 : ∀ l, xpr 276 854 l = l := xpr_no (by decide +kernel)
theorem r_276_855 : xfetch 276 855 = some (.iload 4, 2) := by decide +kernel
theorem n_276_855 : ∀ l, xpr 276 855 l = l := xpr_no (by decide +kernel)
theorem r_276_857 : xfetch 276 857 = some (.iconst 1, 1) := by decide +kernel
theorem n_276_857 : ∀ l, xpr 276 857 l = l := xpr_no (by decide +kernel)
theorem r_276_858 : xfetch 276 858 = some (.iadd, 1) := by decide +kernel
theorem n_276_858 : ∀ l, xpr 276 858 l = l := xpr_no (by decide +kernel)
theorem r_276_859 : xfetch 276 859 = some (.iaload, 1) := by decide +kernel
theorem n_276_859 : ∀ l, xpr 276 859 l = l := xpr_no (by decide +kernel)
theorem r_276_860 : xfetch 276 860 = some (.aload_n 3, 1) := by decide +kernel
theorem n_276_860 : ∀ l, xpr 276 860 l = l := xpr_no (by decide +kernel)
theorem r_276_861 : xfetch 276 861 = some (.invokestatic 167, 3) := by decide +kernel
theorem n_276_861 : ∀ l, xpr 276 861 l = l := xpr_no (by decide +kernel)
theorem r_276_864 : xfetch 276 864 = some (.istore 5, 2) := by decide +kernel
theorem n_276_864 : ∀ l, xpr 276 864 l = l := xpr_no (by decide +kernel)
theorem r_276_866 : xfetch 276 866 = some (.aload_n 2, 1) := by decide +kernel
theorem n_276_866 : ∀ l, xpr 276 866 l = l := xpr_no (by decide +kernel)
theorem r_276_867 : xfetch 276 867 = some (.aload_n 0, 1) := by decide +kernel
theorem n_276_867 : ∀ l, xpr 276 867 l = l := xpr_no (by decide +kernel)
theorem r_276_868 : xfetch 276 868 = some (.iload 4, 2) := by decide +kernel
theorem n_276_868 : ∀ l, xpr 276 868 l = l := xpr_no (by decide +kernel)
theorem r_276_870 : xfetch 276 870 = some (.iconst 1, 1) := by decide +kernel
theorem n_276_870 : ∀ l, xpr 276 870 l = l := xpr_no (by decide +kernel)
theorem r_276_871 : xfetch 276 871 = some (.iadd, 1) := by decide +kernel
theorem n_276_871 : ∀ l, xpr 276 871 l = l := xpr_no (by decide +kernel)
theorem r_276_872 : xfetch 276 872 = some (.iaload, 1) := by decide +kernel
theorem n_276_872 : ∀ l, xpr 276 872 l = l := xpr_no (by decide +kernel)
theorem r_276_873 : xfetch 276 873 = some (.invokevirtual 169, 3) := by decide +kernel
theorem n_276_873 : ∀ l, xpr 276 873 l = l := xpr_no (by decide +kernel)
theorem r_276_876 : xfetch 276 876 = some (.istore 6, 2) := by decide +kernel
theorem n_276_876 : ∀ l, xpr 276 876 l = l := xpr_no (by decide +kernel)
theorem r_276_878 : xfetch 276 878 = some (.aload_n 2, 1) := by decide +kernel
theorem n_276_878 : ∀ l, xpr 276 878 l = l := xpr_no (by decide +kernel)
theorem r_276_879 : xfetch 276 879 = some (.invokevirtual 133, 3) := by decide +kernel
theorem n_276_879 : ∀ l, xpr 276 879 l = l := xpr_no (by decide +kernel)
theorem r_276_882 : xfetch 276 882 = some (.iload 5, 2) := by decide +kernel
theorem n_276_882 : ∀ l, xpr 276 882 l = l := xpr_no (by decide +kernel)
theorem r_276_884 : xfetch 276 884 = some (.if_icmp .eq 5, 3) := by decide +kernel
theorem n_276_884 : ∀ l, xpr 276 884 l = l := xpr_no (by decide +kernel)
theorem r_276_887 : xfetch 276 887 = some (.iconst 0, 1) := by decide +kernel
theorem n_276_887 : ∀ l, xpr 276 887 l = l := xpr_no (by decide +kernel)
theorem r_276_888 : xfetch 276 888 = some (.ireturn, 1) := by decide +kernel
theorem n_276_888 : ∀ l, xpr 276 888 l = l := xpr_no (by decide +kernel)
theorem r_276_889 : xfetch 276 889 = some (.iload 5, 2) := by decide +kernel
theorem n_276_889 : ∀ l, xpr 276 889 l = l := xpr_no (by decide +kernel)
theorem r_276_891 : xfetch 276 891 = some (.ifCond .ne 15, 3) := by decide +kernel
theorem n_276_891 : ∀ l, xpr 276 891 l = l := xpr_no (by decide +kernel)
theorem r_276_894 : xfetch 276 894 = some (.aload_n 3, 1) := by decide +kernel
theorem n_276_894 : ∀ l, xpr 276 894 l = l := xpr_no (by decide +kernel)
theorem r_276_895 : xfetch 276 895 = some (.iconst 0, 1) := by decide +kernel
theorem n_276_895 : ∀ l, xpr 276 895 l = l := xpr_no (by decide +kernel)
theorem r_276_896 : xfetch 276 896 = some (.laload, 1) := by decide +kernel
theorem n_276_896 : ∀ l, xpr 276 896 l = l := xpr_no (by decide +kernel)
theorem r_276_897 : xfetch 276 897 = some (.iload 6, 2) := by decide +kernel
theorem n_276_897 : ∀ l, xpr 276 897 l = l := xpr_no (by decide +kernel)
theorem r_276_899 : xfetch 276 899 = some (.i2l, 1) := by decide +kernel
theorem n_276_899 : ∀ l, xpr 276 899 l = l := xpr_no (by decide +kernel)
theorem r_276_900 : xfetch 276 900 = some (.lcmp, 1) := by decide +kernel
theorem n_276_900 : ∀ l, xpr 276 900 l = l := xpr_no (by decide +kernel)
theorem r_276_901 : xfetch 276 901 = some (.ifCond .eq 5, 3) := by decide +kernel
theorem n_276_901 : ∀ l, xpr 276 901 l = l := xpr_no (by decide +kernel)
theorem r_276_904 : xfetch 276 904 = some (.iconst 0, 1) := by decide +kernel
theorem n_276_904 : ∀ l, xpr 276 904 l = l := xpr_no (by decide +kernel)
theorem r_276_905 : xfetch 276 905 = some (.ireturn, 1) := by decide +kernel
theorem n_276_905 : ∀ l, xpr 276 905 l = l := xpr_no (by decide +kernel)
theorem r_276_906 : xfetch 276 906 = some (.goto 2002, 3) := by decide +kernel
theorem n_276_906 : ∀ l, xpr 276 906 l = l := xpr_no (by decide +kernel)
theorem r_276_909 : xfetch 276 909 = some (.aload_n 1, 1) := by decide +kernel
theorem r_276_910 : xfetch 276 910 = some (.invokevirtual 170, 3) := by decide +kernel
theorem n_276_910 : ∀ l, xpr 276 910 l = l := xpr_no (by decide +kernel)
theorem r_276_913 : xfetch 276 913 = some (.aload_n 2, 1) := by decide +kernel
theorem n_276_913 : ∀ l, xpr 276 913 l = l := xpr_no (by decide +kernel)
theorem r_276_914 : xfetch 276 914 = some (.invokevirtual 173, 3) := by decide +kernel
theorem n_276_914 : ∀ l, xpr 276 914 l = l := xpr_no (by decide +kernel)
theorem r_276_917 : xfetch 276 917 = some (.if_icmp .eq 1991, 3) := by decide +kernel
theorem n_276_917 : ∀ l, xpr 276 917 l = l := xpr_no (by decide +kernel)
theorem r_276_920 : xfetch 276 920 = some (.iconst 0, 1) := by decide +kernel
theorem n_276_920 : ∀ l, xpr 276 920 l = l := xpr_no (by decide +kernel)
theorem r_276_921 : xfetch 276 921 = some (.ireturn, 1) := by decide +kernel
theorem n_276_921 : ∀ l, xpr 276 921 l = l := xpr_no (by decide +kernel)
theorem r_276_922 : xfetch 276 922 = some (.aload_n 1, 1) := by decide +kernel
theorem r_276_923 : xfetch 276 923 = some (.aload_n 0, 1) := by decide +kernel
theorem n_276_923 : ∀ l, xpr 276 923 l = l := xpr_no (by decide +kernel)
theorem r_276_924 : xfetch 276 924 = some (.iload 4, 2) := by decide +kernel
theorem n_276_924 : ∀ l, xpr 276 924 l = l := xpr_no (by decide +kernel)
theorem r_276_926 : xfetch 276 926 = some (.iconst 1, 1) := by decide +kernel
theorem n_276_926 : ∀ l, xpr 276 926 l = l := xpr_no (by decide +kernel)
theorem r_276_927 : xfetch 276 927 = some (.iadd, 1) := by decide +kernel
theorem n_276_927 : ∀ l, xpr 276 927 l = l := xpr_no (by decide +kernel)
theorem r_276_928 : xfetch 276 928 = some (.iaload, 1) := by decide +kernel
theorem n_276_928 : ∀ l, xpr 276 928 l = l := xpr_no (by decide +kernel)
theorem r_276_929 : xfetch 276 929 = some (.aload_n 3, 1) := by decide +kernel
theorem n_276_929 : ∀ l, xpr 276 929 l = l := xpr_no (by decide +kernel)
theorem r_276_930 : xfetch 276 930 = some (.invokestatic 174, 3) := by decide +kernel
theorem n_276_930 : ∀ l, xpr 276 930 l = l := xpr_no (by decide +kernel)
theorem r_276_933 : xfetch 276 933 = some (.istore 5, 2) := by decide +kernel
theorem n_276_933 : ∀ l, xpr 276 933 l = l := xpr_no (by decide +kernel)
theorem r_276_935 : xfetch 276 935 = some (.aload_n 2, 1) := by decide +kernel
theorem n_276_935 : ∀ l, xpr 276 935 l = l := xpr_no (by decide +kernel)
theorem r_276_936 : xfetch 276 936 = some (.aload_n 0, 1) := by decide +kernel
theorem n_276_936 : ∀ l, xpr 276 936 l = l := xpr_no (by decide +kernel)
theorem r_276_937 : xfetch 276 937 = some (.iload 4, 2) := by decide +kernel
theorem n_276_937 : ∀ l, xpr 276 937 l = l := xpr_no (by decide +kernel)
theorem r_276_939 : xfetch 276 939 = some (.iconst 1, 1) := by decide +kernel
theorem n_276_939 : ∀ l, xpr 276 939 l = l := xpr_no (by decide +kernel)
theorem r_276_940 : xfetch 276 940 = some (.iadd, 1) := by decide +kernel
theorem n_276_940 : ∀ l, xpr 276 940 l = l := xpr_no (by decide +kernel)
theorem r_276_941 : xfetch 276 941 = some (.iaload, 1) := by decide +kernel
theorem n_276_941 : ∀ l, xpr 276 941 l = l := xpr_no (by decide +kernel)
theorem r_276_942 : xfetch 276 942 = some (.invokevirtual 176, 3) := by decide +kernel
theorem n_276_942 : ∀ l, xpr 276 942 l = l := xpr_no (by decide +kernel)
theorem r_276_945 : xfetch 276 945 = some (.istore 6, 2) := by decide +kernel
theorem n_276_945 : ∀ l, xpr 276 945 l = l := xpr_no (by decide +kernel)
theorem r_276_947 : xfetch 276 947 = some (.aload_n 2, 1) := by decide +kernel
theorem n_276_947 : ∀ l, xpr 276 947 l = l := xpr_no (by decide +kernel)
theorem r_276_948 : xfetch 276 948 = some (.invokevirtual 133, 3) := by decide +kernel
theorem n_276_948 : ∀ l, xpr 276 948 l = l := xpr_no (by decide +kernel)
theorem r_276_951 : xfetch 276 951 = some (.iload 5, 2) := by decide +kernel
theorem n_276_951 : ∀ l, xpr 276 951 l = l := xpr_no (by decide +kernel)
theorem r_276_953 : xfetch 276 953 = some (.if_icmp .eq 5, 3) := by decide +kernel
theorem n_276_953 : ∀ l, xpr 276 953 l = l := xpr_no (by decide +kernel)
theorem r_276_956 : xfetch 276 956 = some (.iconst 0, 1) := by decide +kernel
theorem n_276_956 : ∀ l, xpr 276 956 l = l := xpr_no (by decide +kernel)
theorem r_276_957 : xfetch 276 957 = some (.ireturn, 1) := by decide +kernel
theorem n_276_957 : ∀ l, xpr 276 957 l = l := xpr_no (by decide +kernel)
theorem r_276_958 : xfetch 276 958 = some (.iload 5, 2) := by decide +kernel
theorem n_276_958 : ∀ l, xpr 276 958 l = l := xpr_no (by decide +kernel)
theorem r_276_960 : xfetch 276 960 = some (.ifCond .ne 15, 3) := by decide +kernel
theorem n_276_960 : ∀ l, xpr 276 960 l = l := xpr_no (by decide +kernel)
theorem r_276_963 : xfetch 276 963 = some (.aload_n 3, 1) := by decide +kernel
theorem n_276_963 : ∀ l, xpr 276 963 l = l := xpr_no (by decide +kernel)
theorem r_276_964 : xfetch 276 964 = some (.iconst 0, 1) := by decide +kernel
theorem n_276_964 : ∀ l, xpr 276 964 l = l := xpr_no (by decide +kernel)
theorem r_276_965 : xfetch 276 965 = some (.laload, 1) := by decide +kernel
theorem n_276_965 : ∀ l, xpr 276 965 l = l := xpr_no (by decide +kernel)
theorem r_276_966 : xfetch 276 966 = some (.iload 6, 2) := by decide +kernel
theorem n_276_966 : ∀ l, xpr 276 966 l = l := xpr_no (by decide +kernel)
theorem r_276_968 : xfetch 276 968 = some (.i2l, 1) := by decide +kernel
theorem n_276_968 : ∀ l, xpr 276 968 l = l := xpr_no (by decide +kernel)
theorem r_276_969 : xfetch 276 969 = some (.lcmp, 1) := by decide +kernel
theorem n_276_969 : ∀ l, xpr 276 969 l = l := xpr_no (by decide +kernel)
theorem r_276_970 : xfetch 276 970 = some (.ifCond .eq 5, 3) := by decide +kernel
theorem n_276_970 : ∀ l, xpr 276 970 l = l := xpr_no (by decide +kernel)
theorem r_276_973 : xfetch 276 973 = some (.iconst 0, 1) := by decide +kernel
theorem n_276_973 : ∀ l, xpr 276 973 l = l := xpr_no (by decide +kernel)
theorem r_276_974 : xfetch 276 974 = some (.ireturn, 1) := by decide +kernel
theorem n_276_974 : ∀ l, xpr 276 974 l = l := xpr_no (by decide +kernel)
theorem r_276_975 : xfetch 276 975 = some (.goto 1933, 3) := by decide +kernel
theorem n_276_975 : ∀ l, xpr 276 975 l = l := xpr_no (by decide +kernel)
theorem r_276_978 : xfetch 276 978 = some (.aload_n 1, 1) := by decide +kernel
theorem r_276_979 : xfetch 276 979 = some (.aload_n 0, 1) := by decide +kernel
theorem n_276_979 : ∀ l, xpr 276 979 l = l := xpr_no (by decide +kernel)
theorem r_276_980 : xfetch 276 980 = some (.iload 4, 2) := by decide +kernel
theorem n_276_980 : ∀ l, xpr 276 980 l = l := xpr_no (by decide +kernel)
theorem r_276_982 : xfetch 276 982 = some (.iconst 1, 1) := by decide +kernel
theorem n_276_982 : ∀ l, xpr 276 982 l = l := xpr_no (by decide +kernel)
theorem r_276_983 : xfetch 276 983 = some (.iadd, 1) := by decide +kernel
theorem n_276_983 : ∀ l, xpr 276 983 l = l := xpr_no (by decide +kernel)
theorem r_276_984 : xfetch 276 984 = some (.iaload, 1) := by decide +kernel
theorem n_276_984 : ∀ l, xpr 276 984 l = l := xpr_no (by decide +kernel)
theorem r_276_985 : xfetch 276 985 = some (.aload_n 0, 1) := by decide +kernel
theorem n_276_985 : ∀ l, xpr 276 985 l = l := xpr_no (by decide +kernel)
theorem r_276_986 : xfetch 276 986 = some (.iload 4, 2) := by decide +kernel
theorem n_276_986 : ∀ l, xpr 276 986 l = l := xpr_no (by decide +kernel)
theorem r_276_988 : xfetch 276 988 = some (.iconst 2, 1) := by decide +kernel
theorem n_276_988 : ∀ l, xpr 276 988 l = l := xpr_no (by decide +kernel)
theorem r_276_989 : xfetch 276 989 = some (.iadd, 1) := by decide +kernel
theorem n_276_989 : ∀ l, xpr 276 989 l = l := xpr_no (by decide +kernel)
theorem r_276_990 : xfetch 276 990 = some (.iaload, 1) := by decide +kernel
theorem n_276_990 : ∀ l, xpr 276 990 l = l := xpr_no (by decide +kernel)
theorem r_276_991 : xfetch 276 991 = some (.aload_n 0, 1) := by decide +kernel
theorem n_276_991 : ∀ l, xpr 276 991 l = l := xpr_no (by decide +kernel)
theorem r_276_992 : xfetch 276 992 = some (.iload 4, 2) := by decide +kernel
theorem n_276_992 : ∀ l, xpr 276 992 l = l := xpr_no (by decide +kernel)
theorem r_276_994 : xfetch 276 994 = some (.iconst 3, 1) := by decide +kernel
theorem n_276_994 : ∀ l, xpr 276 994 l = l := xpr_no (by decide +kernel)
theorem r_276_995 : xfetch 276 995 = some (.iadd, 1) := by decide +kernel
theorem n_276_995 : ∀ l, xpr 276 995 l = l := xpr_no (by decide +kernel)
theorem r_276_996 : xfetch 276 996 = some (.iaload, 1) := by decide +kernel
theorem n_276_996 : ∀ l, xpr 276 996 l = l := xpr_no (by decide +kernel)
theorem r_276_997 : xfetch 276 997 = some (.aload_n 0, 1) := by decide +kernel
theorem n_276_997 : ∀ l, xpr 276 997 l = l := xpr_no (by decide +kernel)
theorem r_276_998 : xfetch 276 998 = some (.iload 4, 2) := by decide +kernel
theorem n_276_998 : ∀ l, xpr 276 998 l = l := xpr_no (by decide +kernel)
theorem r_276_1000 : xfetch 276 1000 = some (.iconst 4, 1) := by decide +kernel
theorem n_276_1000 : ∀ l, xpr 276 1000 l = l := xpr_no (by decide +kernel)
theorem r_276_1001 : xfetch 276 1001 = some (.iadd, 1) := by decide +kernel
theorem n_276_1001 : ∀ l, xpr 276 1001 l = l := xpr_no (by decide +kernel)
theorem r_276_1002 : xfetch 276 1002 = some (.iaload, 1) := by decide +kernel
theorem n_276_1002 : ∀ l, xpr 276 1002 l = l := xpr_no (by decide +kernel)
theorem r_276_1003 : xfetch 276 1003 = some (.aload_n 3, 1) := by decide +kernel
theorem n_276_1003 : ∀ l, xpr 276 1003 l = l := xpr_no (by decide +kernel)
theorem r_276_1004 : xfetch 276 1004 = some (.invokestatic 177, 3) := by decide +kernel
theorem n_276_1004 : ∀ l, xpr 276 1004 l = l := xpr_no (by decide +kernel)
theorem r_276_1007 : xfetch 276 1007 = some (.istore 5, 2) := by decide +kernel
theorem n_276_1007 : ∀ l, xpr 276 1007 l = l := xpr_no (by decide +kernel)
theorem r_276_1009 : xfetch 276 1009 = some (.aload_n 2, 1) := by decide +kernel
theorem n_276_1009 : ∀ l, xpr 276 1009 l = l := xpr_no (by decide +kernel)
theorem r_276_1010 : xfetch 276 1010 = some (.aload_n 0, 1) := by decide +kernel
theorem n_276_1010 : ∀ l, xpr 276 1010 l = l := xpr_no (by decide +kernel)
theorem r_276_1011 : xfetch 276 1011 = some (.iload 4, 2) := by decide +kernel
theorem n_276_1011 : ∀ l, xpr 276 1011 l = l := xpr_no (by decide +kernel)
theorem r_276_1013 : xfetch 276 1013 = some (.iconst 1, 1) := by decide +kernel
theorem n_276_1013 : ∀ l, xpr 276 1013 l = l := xpr_no (by decide +kernel)
theorem r_276_1014 : xfetch 276 1014 = some (.iadd, 1) := by decide +kernel
theorem n_276_1014 : ∀ l, xpr 276 1014 l = l := xpr_no (by decide +kernel)
theorem r_276_1015 : xfetch 276 1015 = some (.iaload, 1) := by decide +kernel
theorem n_276_1015 : ∀ l, xpr 276 1015 l = l := xpr_no (by decide +kernel)
theorem r_276_1016 : xfetch 276 1016 = some (.aload_n 0, 1) := by decide +kernel
theorem n_276_1016 : ∀ l, xpr 276 1016 l = l := xpr_no (by decide +kernel)
theorem r_276_1017 : xfetch 276 1017 = some (.iload 4, 2) := by decide +kernel
theorem n_276_1017 : ∀ l, xpr 276 1017 l = l := xpr_no (by decide +kernel)
theorem r_276_1019 : xfetch 276 1019 = some (.iconst 2, 1) := by decide +kernel
theorem n_276_1019 : ∀ l, xpr 276 1019 l = l := xpr_no (by decide +kernel)
theorem r_276_1020 : xfetch 276 1020 = some (.iadd, 1) := by decide +kernel
theorem n_276_1020 : ∀ l, xpr 276 1020 l = l := xpr_no (by decide +kernel)
theorem r_276_1021 : xfetch 276 1021 = some (.iaload, 1) := by decide +kernel
theorem n_276_1021 : ∀ l, xpr 276 1021 l = l := xpr_no (by decide +kernel)
theorem r_276_1022 : xfetch 276 1022 = some (.aload_n 0, 1) := by decide +kernel
theorem n_276_1022 : ∀ l, xpr 276 1022 l = l := xpr_no (by decide +kernel)
theorem r_276_1023 : xfetch 276 1023 = some (.iload 4, 2) := by decide +kernel
theorem n_276_1023 : ∀ l, xpr 276 1023 l = l := xpr_no (by decide +kernel)
theorem r_276_1025 : xfetch 276 1025 = some (.iconst 3, 1) := by decide +kernel
theorem n_276_1025 : ∀ l, xpr 276 1025 l = l := xpr_no (by decide +kernel)
theorem r_276_1026 : xfetch 276 1026 = some (.iadd, 1) := by decide +kernel
theorem n_276_1026 : ∀ l, xpr 276 1026 l = l := xpr_no (by decide +kernel)
theorem r_276_1027 : xfetch 276 1027 = some (.iaload, 1) := by decide +kernel
theorem n_276_1027 : ∀ l, xpr 276 1027 l = l := xpr_no (by decide +kernel)
theorem r_276_1028 : xfetch 276 1028 = some (.aload_n 0, 1) := by decide +kernel
theorem n_276_1028 : ∀ l, xpr 276 1028 l = l := xpr_no (by decide +kernel)
theorem r_276_1029 : xfetch 276 1029 = some (.iload 4, 2) := by decide +kernel
theorem n_276_1029 : ∀ l, xpr 276 1029 l = l := xpr_no (by decide +kernel)
theorem r_276_1031 : xfetch 276 1031 = some (.iconst 4, 1) := by decide +kernel
theorem n_276_1031 : ∀ l, xpr 276 1031 l = l := xpr_no (by decide +kernel)
theorem r_276_1032 : xfetch 276 1032 = some (.iadd, 1) := by decide +kernel
theorem n_276_1032 : ∀ l, xpr 276 1032 l = l := xpr_no (by decide +kernel)
theorem r_276_1033 : xfetch 276 1033 = some (.iaload, 1) := by decide +kernel
theorem n_276_1033 : ∀ l, xpr 276 1033 l = l := xpr_no (by decide +kernel)
theorem r_276_1034 : xfetch 276 1034 = some (.invokevirtual 179, 3) := by decide +kernel
theorem n_276_1034 : ∀ l, xpr 276 1034 l = l := xpr_no (by decide +kernel)
theorem r_276_1037 : xfetch 276 1037 = some (.istore 6, 2) := by decide +kernel
theorem n_276_1037 : ∀ l, xpr 276 1037 l = l := xpr_no (by decide +kernel)
theorem r_276_1039 : xfetch 276 1039 = some (.aload_n 2, 1) := by decide +kernel
theorem n_276_1039 : ∀ l, xpr 276 1039 l = l := xpr_no (by decide +kernel)
theorem r_276_1040 : xfetch 276 1040 = some (.invokevirtual 133, 3) := by decide +kernel
theorem n_276_1040 : ∀ l, xpr 276 1040 l = l := xpr_no (by decide +kernel)
theorem r_276_1043 : xfetch 276 1043 = some (.iload 5, 2) := by decide +kernel
theorem n_276_1043 : ∀ l, xpr 276 1043 l = l := xpr_no (by decide +kernel)
theorem r_276_1045 : xfetch 276 1045 = some (.if_icmp .eq 5, 3) := by decide +kernel
theorem n_276_1045 : ∀ l, xpr 276 1045 l = l := xpr_no (by decide +kernel)
theorem r_276_1048 : xfetch 276 1048 = some (.iconst 0, 1) := by decide +kernel
theorem n_276_1048 : ∀ l, xpr 276 1048 l = l := xpr_no (by decide +kernel)
theorem r_276_1049 : xfetch 276 1049 = some (.ireturn, 1) := by decide +kernel
theorem n_276_1049 : ∀ l, xpr 276 1049 l = l := xpr_no (by decide +kernel)
theorem r_276_1050 : xfetch 276 1050 = some (.iload 5, 2) := by decide +kernel
theorem n_276_1050 : ∀ l, xpr 276 1050 l = l := xpr_no (by decide +kernel)
theorem r_276_1052 : xfetch 276 1052 = some (.ifCond .ne 15, 3) := by decide +kernel
theorem n_276_1052 : ∀ l, xpr 276 1052 l = l := xpr_no (by decide +kernel)
theorem r_276_1055 : xfetch 276 1055 = some (.aload_n 3, 1) := by decide +kernel
theorem n_276_1055 : ∀ l, xpr 276 1055 l = l := xpr_no (by decide +kernel)
theorem r_276_1056 : xfetch 276 1056 = some (.iconst 0, 1) := by decide +kernel
theorem n_276_1056 : ∀ l, xpr 276 1056 l = l := xpr_no (by decide +kernel)
theorem r_276_1057 : xfetch 276 1057 = some (.laload, 1) := by decide +kernel
theorem n_276_1057 : ∀ l, xpr 276 1057 l = l := xpr_no (by decide +kernel)
theorem r_276_1058 : xfetch 276 1058 = some (.iload 6, 2) := by decide +kernel
theorem n_276_1058 : ∀ l, xpr 276 1058 l = l := xpr_no (by decide +kernel)
theorem r_276_1060 : xfetch 276 1060 = some (.i2l, 1) := by decide +kernel
theorem n_276_1060 : ∀ l, xpr 276 1060 l = l := xpr_no (by decide +kernel)
theorem r_276_1061 : xfetch 276 1061 = some (.lcmp, 1) := by decide +kernel
theorem n_276_1061 : ∀ l, xpr 276 1061 l = l := xpr_no (by decide +kernel)
theorem r_276_1062 : xfetch 276 1062 = some (.ifCond .eq 5, 3) := by decide +kernel
theorem n_276_1062 : ∀ l, xpr 276 1062 l = l := xpr_no (by decide +kernel)
theorem r_276_1065 : xfetch 276 1065 = some (.iconst 0, 1) := by decide +kernel
theorem n_276_1065 : ∀ l, xpr 276 1065 l = l := xpr_no (by decide +kernel)
theorem r_276_1066 : xfetch 276 1066 = some (.ireturn, 1) := by decide +kernel
theorem n_276_1066 : ∀ l, xpr 276 1066 l = l := xpr_no (by decide +kernel)
theorem r_276_1067 : xfetch 276 1067 = some (.goto 1841, 3) := by decide +kernel
theorem n_276_1067 : ∀ l, xpr 276 1067 l = l := xpr_no (by decide +kernel)
theorem r_276_1070 : xfetch 276 1070 = some (.aload_n 1, 1) := by decide +kernel
theorem r_276_1071 : xfetch 276 1071 = some (.aload_n 0, 1) := by decide +kernel
theorem n_276_1071 : ∀ l, xpr 276 1071 l = l := xpr_no (by decide +kernel)
theorem r_276_1072 : xfetch 276 1072 = some (.iload 4, 2) := by decide +kernel
theorem n_276_1072 : ∀ l, xpr 276 1072 l = l := xpr_no (by decide +kernel)
theorem r_276_1074 : xfetch 276 1074 = some (.iconst 1, 1) := by decide +kernel
theorem n_276_1074 : ∀ l, xpr 276 1074 l = l := xpr_no (by decide +kernel)
theorem r_276_1075 : xfetch 276 1075 = some (.iadd, 1) := by decide +kernel
theorem n_276_1075 : ∀ l, xpr 276 1075 l = l := xpr_no (by decide +kernel)
theorem r_276_1076 : xfetch 276 1076 = some (.iaload, 1) := by decide +kernel
theorem n_276_1076 : ∀ l, xpr 276 1076 l = l := xpr_no (by decide +kernel)
theorem r_276_1077 : xfetch 276 1077 = some (.aload_n 3, 1) := by decide +kernel
theorem n_276_1077 : ∀ l, xpr 276 1077 l = l := xpr_no (by decide +kernel)
theorem r_276_1078 : xfetch 276 1078 = some (.invokestatic 180, 3) := by decide +kernel
theorem n_276_1078 : ∀ l, xpr 276 1078 l = l := xpr_no (by decide +kernel)
theorem r_276_1081 : xfetch 276 1081 = some (.istore 5, 2) := by decide +kernel
theorem n_276_1081 : ∀ l, xpr 276 1081 l = l := xpr_no (by decide +kernel)
theorem r_276_1083 : xfetch 276 1083 = some (.aload_n 2, 1) := by decide +kernel
theorem n_276_1083 : ∀ l, xpr 276 1083 l = l := xpr_no (by decide +kernel)
theorem r_276_1084 : xfetch 276 1084 = some (.aload_n 0, 1) := by decide +kernel
theorem n_276_1084 : ∀ l, xpr 276 1084 l = l := xpr_no (by decide +kernel)
theorem r_276_1085 : xfetch 276 1085 = some (.iload 4, 2) := by decide +kernel
theorem n_276_1085 : ∀ l, xpr 276 1085 l = l := xpr_no (by decide +kernel)
theorem r_276_1087 : xfetch 276 1087 = some (.iconst 1, 1) := by decide +kernel
theorem n_276_1087 : ∀ l, xpr 276 1087 l = l := xpr_no (by decide +kernel)
theorem r_276_1088 : xfetch 276 1088 = some (.iadd, 1) := by decide +kernel
theorem n_276_1088 : ∀ l, xpr 276 1088 l = l := xpr_no (by decide +kernel)
theorem r_276_1089 : xfetch 276 1089 = some (.iaload, 1) := by decide +kernel
theorem n_276_1089 : ∀ l, xpr 276 1089 l = l := xpr_no (by decide +kernel)
theorem r_276_1090 : xfetch 276 1090 = some (.invokevirtual 182, 3) := by decide +kernel
theorem n_276_1090 : ∀ l, xpr 276 1090 l = l := xpr_no (by decide +kernel)
theorem r_276_1093 : xfetch 276 1093 = some (.istore 6, 2) := by decide +kernel
theorem n_276_1093 : ∀ l, xpr 276 1093 l = l := xpr_no (by decide +kernel)
theorem r_276_1095 : xfetch 276 1095 = some (.aload_n 2, 1) := by decide +kernel
theorem n_276_1095 : ∀ l, xpr 276 1095 l = l := xpr_no (by decide +kernel)
theorem r_276_1096 : xfetch 276 1096 = some (.invokevirtual 133, 3) := by decide +kernel
theorem n_276_1096 : ∀ l, xpr 276 1096 l = l := xpr_no (by decide +kernel)
theorem r_276_1099 : xfetch 276 1099 = some (.iload 5, 2) := by decide +kernel
theorem n_276_1099 : ∀ l, xpr 276 1099 l = l := xpr_no (by decide +kernel)
theorem r_276_1101 : xfetch 276 1101 = some (.if_icmp .eq 5, 3) := by decide +kernel
theorem n_276_1101 : ∀ l, xpr 276 1101 l = l := xpr_no (by decide +kernel)
theorem r_276_1104 : xfetch 276 1104 = some (.iconst 0, 1) := by decide +kernel
theorem n_276_1104 : ∀ l, xpr 276 1104 l = l := xpr_no (by decide +kernel)
theorem r_276_1105 : xfetch 276 1105 = some (.ireturn, 1) := by decide +kernel
theorem n_276_1105 : ∀ l, xpr 276 1105 l = l := xpr_no (by decide +kernel)
theorem r_276_1106 : xfetch 276 1106 = some (.iload 5, 2) := by decide +kernel
theorem n_276_1106 : ∀ l, xpr 276 1106 l = l := xpr_no (by decide +kernel)
theorem r_276_1108 : xfetch 276 1108 = some (.ifCond .ne 15, 3) := by decide +kernel
theorem n_276_1108 : ∀ l, xpr 276 1108 l = l := xpr_no (by decide +kernel)
theorem r_276_1111 : xfetch 276 1111 = some (.aload_n 3, 1) := by decide +kernel
theorem n_276_1111 : ∀ l, xpr 276 1111 l = l := xpr_no (by decide +kernel)
theorem r_276_1112 : xfetch 276 1112 = some (.iconst 0, 1) := by decide +kernel
theorem n_276_1112 : ∀ l, xpr 276 1112 l = l := xpr_no (by decide +kernel)
theorem r_276_1113 : xfetch 276 1113 = some (.laload, 1) := by decide +kernel
theorem n_276_1113 : ∀ l, xpr 276 1113 l = l := xpr_no (by decide +kernel)
theorem r_276_1114 : xfetch 276 1114 = some (.iload 6, 2) := by decide +kernel
theorem n_276_1114 : ∀ l, xpr 276 1114 l = l := xpr_no (by decide +kernel)
theorem r_276_1116 : xfetch 276 1116 = some (.i2l, 1) := by decide +kernel
theorem n_276_1116 : ∀ l, xpr 276 1116 l = l := xpr_no (by decide +kernel)
theorem r_276_1117 : xfetch 276 1117 = some (.lcmp, 1) := by decide +kernel
theorem n_276_1117 : ∀ l, xpr 276 1117 l = l := xpr_no (by decide +kernel)
theorem r_276_1118 : xfetch 276 1118 = some (.ifCond .eq 5, 3) := by decide +kernel
theorem n_276_1118 : ∀ l, xpr 276 1118 l = l := xpr_no (by decide +kernel)
theorem r_276_1121 : xfetch 276 1121 = some (.iconst 0, 1) := by decide +kernel
theorem n_276_1121 : ∀ l, xpr 276 1121 l = l := xpr_no (by decide +kernel)
theorem r_276_1122 : xfetch 276 1122 = some (.ireturn, 1) := by decide +kernel
theorem n_276_1122 : ∀ l, xpr 276 1122 l = l := xpr_no (by decide +kernel)
theorem r_276_1123 : xfetch 276 1123 = some (.goto 1785, 3) := by decide +kernel
theorem n_276_1123 : ∀ l, xpr 276 1123 l = l := xpr_no (by decide +kernel)
theorem r_276_1126 : xfetch 276 1126 = some (.aload_n 1, 1) := by decide +kernel
theorem r_276_1127 : xfetch 276 1127 = some (.invokevirtual 183, 3) := by decide +kernel
theorem n_276_1127 : ∀ l, xpr 276 1127 l = l := xpr_no (by decide +kernel)
theorem r_276_1130 : xfetch 276 1130 = some (.aload_n 2, 1) := by decide +kernel
theorem n_276_1130 : ∀ l, xpr 276 1130 l = l := xpr_no (by decide +kernel)
theorem r_276_1131 : xfetch 276 1131 = some (.invokevirtual 186, 3) := by decide +kernel
theorem n_276_1131 : ∀ l, xpr 276 1131 l = l := xpr_no (by decide +kernel)
theorem r_276_1134 : xfetch 276 1134 = some (.if_icmp .eq 1774, 3) := by decide +kernel
theorem n_276_1134 : ∀ l, xpr 276 1134 l = l := xpr_no (by decide +kernel)
theorem r_276_1137 : xfetch 276 1137 = some (.iconst 0, 1) := by decide +kernel
theorem n_276_1137 : ∀ l, xpr 276 1137 l = l := xpr_no (by decide +kernel)
theorem r_276_1138 : xfetch 276 1138 = some (.ireturn, 1) := by decide +kernel
theorem n_276_1138 : ∀ l, xpr 276 1138 l = l := xpr_no (by decide +kernel)
theorem r_276_1139 : xfetch 276 1139 = some (.aload_n 1, 1) := by decide +kernel
theorem r_276_1140 : xfetch 276 1140 = some (.aload_n 0, 1) := by decide +kernel
theorem n_276_1140 : ∀ l, xpr 276 1140 l = l := xpr_no (by decide +kernel)
theorem r_276_1141 : xfetch 276 1141 = some (.iload 4, 2) := by decide +kernel
theorem n_276_1141 : ∀ l, xpr 276 1141 l = l := xpr_no (by decide +kernel)
theorem r_276_1143 : xfetch 276 1143 = some (.iconst 1, 1) := by decide +kernel
theorem n_276_1143 : ∀ l, xpr 276 1143 l = l := xpr_no (by decide +kernel)
theorem r_276_1144 : xfetch 276 1144 = some (.iadd, 1) := by decide +kernel
theorem n_276_1144 : ∀ l, xpr 276 1144 l = l := xpr_no (by decide +kernel)
theorem r_276_1145 : xfetch 276 1145 = some (.iaload, 1) := by decide +kernel
theorem n_276_1145 : ∀ l, xpr 276 1145 l = l := xpr_no (by decide +kernel)
theorem r_276_1146 : xfetch 276 1146 = some (.aload_n 0, 1) := by decide +kernel
theorem n_276_1146 : ∀ l, xpr 276 1146 l = l := xpr_no (by decide +kernel)
theorem r_276_1147 : xfetch 276 1147 = some (.iload 4, 2) := by decide +kernel
theorem n_276_1147 : ∀ l, xpr 276 1147 l = l := xpr_no (by decide +kernel)
theorem r_276_1149 : xfetch 276 1149 = some (.iconst 2, 1) := by decide +kernel
theorem n_276_1149 : ∀ l, xpr 276 1149 l = l := xpr_no (by decide +kernel)
theorem r_276_1150 : xfetch 276 1150 = some (.iadd, 1) := by decide +kernel
theorem n_276_1150 : ∀ l, xpr 276 1150 l = l := xpr_no (by decide +kernel)
theorem r_276_1151 : xfetch 276 1151 = some (.iaload, 1) := by decide +kernel
theorem n_276_1151 : ∀ l, xpr 276 1151 l = l := xpr_no (by decide +kernel)
theorem r_276_1152 : xfetch 276 1152 = some (.aload_n 3, 1) := by decide +kernel
theorem n_276_1152 : ∀ l, xpr 276 1152 l = l := xpr_no (by decide +kernel)
theorem r_276_1153 : xfetch 276 1153 = some (.invokestatic 187, 3) := by decide +kernel
theorem n_276_1153 : ∀ l, xpr 276 1153 l = l := xpr_no (by decide +kernel)
theorem r_276_1156 : xfetch 276 1156 = some (.istore 5, 2) := by decide +kernel
theorem n_276_1156 : ∀ l, xpr 276 1156 l = l := xpr_no (by decide +kernel)
theorem r_276_1158 : xfetch 276 1158 = some (.aload_n 2, 1) := by decide +kernel
theorem n_276_1158 : ∀ l, xpr 276 1158 l = l := xpr_no (by decide +kernel)
theorem r_276_1159 : xfetch 276 1159 = some (.aload_n 0, 1) := by decide +kernel
theorem n_276_1159 : ∀ l, xpr 276 1159 l = l := xpr_no (by decide +kernel)
theorem r_276_1160 : xfetch 276 1160 = some (.iload 4, 2) := by decide +kernel
theorem n_276_1160 : ∀ l, xpr 276 1160 l = l := xpr_no (by decide +kernel)
theorem r_276_1162 : xfetch 276 1162 = some (.iconst 1, 1) := by decide +kernel
theorem n_276_1162 : ∀ l, xpr 276 1162 l = l := xpr_no (by decide +kernel)
theorem r_276_1163 : xfetch 276 1163 = some (.iadd, 1) := by decide +kernel
theorem n_276_1163 : ∀ l, xpr 276 1163 l = l := xpr_no (by decide +kernel)
theorem r_276_1164 : xfetch 276 1164 = some (.iaload, 1) := by decide +kernel
theorem n_276_1164 : ∀ l, xpr 276 1164 l = l := xpr_no (by decide +kernel)
theorem r_276_1165 : xfetch 276 1165 = some (.aload_n 0, 1) := by decide +kernel
theorem n_276_1165 : ∀ l, xpr 276 1165 l = l := xpr_no (by decide +kernel)
theorem r_276_1166 : xfetch 276 1166 = some (.iload 4, 2) := by decide +kernel
theorem n_276_1166 : ∀ l, xpr 276 1166 l = l := xpr_no (by decide +kernel)
theorem r_276_1168 : xfetch 276 1168 = some (.iconst 2, 1) := by decide +kernel
theorem n_276_1168 : ∀ l, xpr 276 1168 l = l := xpr_no (by decide +kernel)
theorem r_276_1169 : xfetch 276 1169 = some (.iadd, 1) := by decide +kernel
theorem n_276_1169 : ∀ l, xpr 276 1169 l = l := xpr_no (by decide +kernel)
theorem r_276_1170 : xfetch 276 1170 = some (.iaload, 1) := by decide +kernel
theorem n_276_1170 : ∀ l, xpr 276 1170 l = l := xpr_no (by decide +kernel)
theorem r_276_1171 : xfetch 276 1171 = some (.invokevirtual 189, 3) := by decide +kernel
theorem n_276_1171 : ∀ l, xpr 276 1171 l = l := xpr_no (by decide +kernel)
theorem r_276_1174 : xfetch 276 1174 = some (.istore 6, 2) := by decide +kernel
theorem n_276_1174 : ∀ l, xpr 276 1174 l = l := xpr_no (by decide +kernel)
theorem r_276_1176 : xfetch 276 1176 = some (.aload_n 2, 1) := by decide +kernel
theorem n_276_1176 : ∀ l, xpr 276 1176 l = l := xpr_no (by decide +kernel)
theorem r_276_1177 : xfetch 276 1177 = some (.invokevirtual 133, 3) := by decide +kernel
theorem n_276_1177 : ∀ l, xpr 276 1177 l = l := xpr_no (by decide +kernel)
theorem r_276_1180 : xfetch 276 1180 = some (.iload 5, 2) := by decide +kernel
theorem n_276_1180 : ∀ l, xpr 276 1180 l = l := xpr_no (by decide +kernel)
theorem r_276_1182 : xfetch 276 1182 = some (.if_icmp .eq 5, 3) := by decide +kernel
theorem n_276_1182 : ∀ l, xpr 276 1182 l = l := xpr_no (by decide +kernel)
theorem r_276_1185 : xfetch 276 1185 = some (.iconst 0, 1) := by decide +kernel
theorem n_276_1185 : ∀ l, xpr 276 1185 l = l := xpr_no (by decide +kernel)
theorem r_276_1186 : xfetch 276 1186 = some (.ireturn, 1) := by decide +kernel
theorem n_276_1186 : ∀ l, xpr 276 1186 l = l := xpr_no (by decide +kernel)
theorem r_276_1187 : xfetch 276 1187 = some (.iload 5, 2) := by decide +kernel
theorem n_276_1187 : ∀ l, xpr 276 1187 l = l := xpr_no (by decide +kernel)
theorem r_276_1189 : xfetch 276 1189 = some (.ifCond .ne 15, 3) := by decide +kernel
theorem n_276_1189 : ∀ l, xpr 276 1189 l = l := xpr_no (by decide +kernel)
theorem r_276_1192 : xfetch 276 1192 = some (.aload_n 3, 1) := by decide +kernel
theorem n_276_1192 : ∀ l, xpr 276 1192 l = l := xpr_no (by decide +kernel)
theorem r_276_1193 : xfetch 276 1193 = some (.iconst 0, 1) := by decide +kernel
theorem n_276_1193 : ∀ l, xpr 276 1193 l = l := xpr_no (by decide +kernel)
theorem r_276_1194 : xfetch 276 1194 = some (.laload, 1) := by decide +kernel
theorem n_276_1194 : ∀ l, xpr 276 1194 l = l := xpr_no (by decide +kernel)
theorem r_276_1195 : xfetch 276 1195 = some (.iload 6, 2) := by decide +kernel
theorem n_276_1195 : ∀ l, xpr 276 1195 l = l := xpr_no (by decide +kernel)
theorem r_276_1197 : xfetch 276 1197 = some (.i2l, 1) := by decide +kernel
theorem n_276_1197 : ∀ l, xpr 276 1197 l = l := xpr_no (by decide +kernel)
theorem r_276_1198 : xfetch 276 1198 = some (.lcmp, 1) := by decide +kernel
theorem n_276_1198 : ∀ l, xpr 276 1198 l = l := xpr_no (by decide +kernel)
theorem r_276_1199 : xfetch 276 1199 = some (.ifCond .eq 5, 3) := by decide +kernel
theorem n_276_1199 : ∀ l, xpr 276 1199 l = l := xpr_no (by decide +kernel)
theorem r_276_1202 : xfetch 276 1202 = some (.iconst 0, 1) := by decide +kernel
theorem n_276_1202 : ∀ l, xpr 276 1202 l = l := xpr_no (by decide +kernel)
theorem r_276_1203 : xfetch 276 1203 = some (.ireturn, 1) := by decide +kernel
theorem n_276_1203 : ∀ l, xpr 276 1203 l = l := xpr_no (by decide +kernel)
theorem r_276_1204 : xfetch 276 1204 = some (.goto 1704, 3) := by decide +kernel
theorem n_276_1204 : ∀ l, xpr 276 1204 l = l := xpr_no (by decide +kernel)
theorem r_276_1207 : xfetch 276 1207 = some (.aload_n 1, 1) := by decide +kernel
theorem r_276_1208 : xfetch 276 1208 = some (.aload_n 0, 1) := by decide +kernel
theorem n_276_1208 : ∀ l, xpr 276 1208 l = l := xpr_no (by decide +kernel)
theorem r_276_1209 : xfetch 276 1209 = some (.iload 4, 2) := by decide +kernel
theorem n_276_1209 : ∀ l, xpr 276 1209 l = l := xpr_no (by decide +kernel)
theorem r_276_1211 : xfetch 276 1211 = some (.iconst 1, 1) := by decide +kernel
theorem n_276_1211 : ∀ l, xpr 276 1211 l = l := xpr_no (by decide +kernel)
theorem r_276_1212 : xfetch 276 1212 = some (.iadd, 1) := by decide +kernel
theorem n_276_1212 : ∀ l, xpr 276 1212 l = l := xpr_no (by decide +kernel)
theorem r_276_1213 : xfetch 276 1213 = some (.iaload, 1) := by decide +kernel
theorem n_276_1213 : ∀ l, xpr 276 1213 l = l := xpr_no (by decide +kernel)
theorem r_276_1214 : xfetch 276 1214 = some (.aload_n 0, 1) := by decide +kernel
theorem n_276_1214 : ∀ l, xpr 276 1214 l = l := xpr_no (by decide +kernel)
theorem r_276_1215 : xfetch 276 1215 = some (.iload 4, 2) := by decide +kernel
theorem n_276_1215 : ∀ l, xpr 276 1215 l = l := xpr_no (by decide +kernel)
theorem r_276_1217 : xfetch 276 1217 = some (.iconst 2, 1) := by decide +kernel
theorem n_276_1217 : ∀ l, xpr 276 1217 l = l := xpr_no (by decide +kernel)
theorem r_276_1218 : xfetch 276 1218 = some (.iadd, 1) := by decide +kernel
theorem n_276_1218 : ∀ l, xpr 276 1218 l = l := xpr_no (by decide +kernel)
theorem r_276_1219 : xfetch 276 1219 = some (.iaload, 1) := by decide +kernel
theorem n_276_1219 : ∀ l, xpr 276 1219 l = l := xpr_no (by decide +kernel)
theorem r_276_1220 : xfetch 276 1220 = some (.aload_n 0, 1) := by decide +kernel
theorem n_276_1220 : ∀ l, xpr 276 1220 l = l := xpr_no (by decide +kernel)
theorem r_276_1221 : xfetch 276 1221 = some (.iload 4, 2) := by decide +kernel
theorem n_276_1221 : ∀ l, xpr 276 1221 l = l := xpr_no (by decide +kernel)
theorem r_276_1223 : xfetch 276 1223 = some (.iconst 3, 1) := by decide +kernel
theorem n_276_1223 : ∀ l, xpr 276 1223 l = l := xpr_no (by decide +kernel)
theorem r_276_1224 : xfetch 276 1224 = some (.iadd, 1) := by decide +kernel
theorem n_276_1224 : ∀ l, xpr 276 1224 l = l := xpr_no (by decide +kernel)
theorem r_276_1225 : xfetch 276 1225 = some (.iaload, 1) := by decide +kernel
theorem n_276_1225 : ∀ l, xpr 276 1225 l = l := xpr_no (by decide +kernel)
theorem r_276_1226 : xfetch 276 1226 = some (.aload_n 3, 1) := by decide +kernel
theorem n_276_1226 : ∀ l, xpr 276 1226 l = l := xpr_no (by decide +kernel)
theorem r_276_1227 : xfetch 276 1227 = some (.invokestatic 190, 3) := by decide +kernel
theorem n_276_1227 : ∀ l, xpr 276 1227 l = l := xpr_no (by decide +kernel)
theorem r_276_1230 : xfetch 276 1230 = some (.istore 5, 2) := by decide +kernel
theorem n_276_1230 : ∀ l, xpr 276 1230 l = l := xpr_no (by decide +kernel)
theorem r_276_1232 : xfetch 276 1232 = some (.aload_n 2, 1) := by decide +kernel
theorem n_276_1232 : ∀ l, xpr 276 1232 l = l := xpr_no (by decide +kernel)
theorem r_276_1233 : xfetch 276 1233 = some (.aload_n 0, 1) := by decide +kernel
theorem n_276_1233 : ∀ l, xpr 276 1233 l = l := xpr_no (by decide +kernel)
theorem r_276_1234 : xfetch 276 1234 = some (.iload 4, 2) := by decide +kernel
theorem n_276_1234 : ∀ l, xpr 276 1234 l = l := xpr_no (by decide +kernel)
theorem r_276_1236 : xfetch 276 1236 = some (.iconst 1, 1) := by decide +kernel
theorem n_276_1236 : ∀ l, xpr 276 1236 l = l := xpr_no (by decide +kernel)
theorem r_276_1237 : xfetch 276 1237 = some (.iadd, 1) := by decide +kernel
theorem n_276_1237 : ∀ l, xpr 276 1237 l = l := xpr_no (by decide +kernel)
theorem r_276_1238 : xfetch 276 1238 = some (.iaload, 1) := by decide +kernel
theorem n_276_1238 : ∀ l, xpr 276 1238 l = l := xpr_no (by decide +kernel)
theorem r_276_1239 : xfetch 276 1239 = some (.aload_n 0, 1) := by decide +kernel
theorem n_276_1239 : ∀ l, xpr 276 1239 l = l := xpr_no (by decide +kernel)
theorem r_276_1240 : xfetch 276 1240 = some (.iload 4, 2) := by decide +kernel
theorem n_276_1240 : ∀ l, xpr 276 1240 l = l := xpr_no (by decide +kernel)
theorem r_276_1242 : xfetch 276 1242 = some (.iconst 2, 1) := by decide +kernel
theorem n_276_1242 : ∀ l, xpr 276 1242 l = l := xpr_no (by decide +kernel)
theorem r_276_1243 : xfetch 276 1243 = some (.iadd, 1) := by decide +kernel
theorem n_276_1243 : ∀ l, xpr 276 1243 l = l := xpr_no (by decide +kernel)
theorem r_276_1244 : xfetch 276 1244 = some (.iaload, 1) := by decide +kernel
theorem n_276_1244 : ∀ l, xpr 276 1244 l = l := xpr_no (by decide +kernel)
theorem r_276_1245 : xfetch 276 1245 = some (.aload_n 0, 1) := by decide +kernel
theorem n_276_1245 : ∀ l, xpr 276 1245 l = l := xpr_no (by decide +kernel)
theorem r_276_1246 : xfetch 276 1246 = some (.iload 4, 2) := by decide +kernel
theorem n_276_1246 : ∀ l, xpr 276 1246 l = l := xpr_no (by decide +kernel)
theorem r_276_1248 : xfetch 276 1248 = some (.iconst 3, 1) := by decide +kernel
theorem n_276_1248 : ∀ l, xpr 276 1248 l = l := xpr_no (by decide +kernel)
theorem r_276_1249 : xfetch 276 1249 = some (.iadd, 1) := by decide +kernel
theorem n_276_1249 : ∀ l, xpr 276 1249 l = l := xpr_no (by decide +kernel)
theorem r_276_1250 : xfetch 276 1250 = some (.iaload, 1) := by decide +kernel
theorem n_276_1250 : ∀ l, xpr 276 1250 l = l := xpr_no (by decide +kernel)
theorem r_276_1251 : xfetch 276 1251 = some (.invokevirtual 192, 3) := by decide +kernel
theorem n_276_1251 : ∀ l, xpr 276 1251 l = l := xpr_no (by decide +kernel)
theorem r_276_1254 : xfetch 276 1254 = some (.istore 6, 2) := by decide +kernel
theorem n_276_1254 : ∀ l, xpr 276 1254 l = l := xpr_no (by decide +kernel)
theorem r_276_1256 : xfetch 276 1256 = some (.aload_n 2, 1) := by decide +kernel
theorem n_276_1256 : ∀ l, xpr 276 1256 l = l := xpr_no (by decide +kernel)
theorem r_276_1257 : xfetch 276 1257 = some (.invokevirtual 133, 3) := by decide +kernel
theorem n_276_1257 : ∀ l, xpr 276 1257 l = l := xpr_no (by decide +kernel)
theorem r_276_1260 : xfetch 276 1260 = some (.iload 5, 2) := by decide +kernel
theorem n_276_1260 : ∀ l, xpr 276 1260 l = l := xpr_no (by decide +kernel)
theorem r_276_1262 : xfetch 276 1262 = some (.if_icmp .eq 5, 3) := by decide +kernel
theorem n_276_1262 : ∀ l, xpr 276 1262 l = l := xpr_no (by decide +kernel)
theorem r_276_1265 : xfetch 276 1265 = some (.iconst 0, 1) := by decide +kernel
theorem n_276_1265 : ∀ l, xpr 276 1265 l = l := xpr_no (by decide +kernel)
theorem r_276_1266 : xfetch 276 1266 = some (.ireturn, 1) := by decide +kernel
theorem n_276_1266 : ∀ l, xpr 276 1266 l = l := xpr_no (by decide +kernel)
theorem r_276_1267 : xfetch 276 1267 = some (.iload 5, 2) := by decide +kernel
theorem n_276_1267 : ∀ l, xpr 276 1267 l = l := xpr_no (by decide +kernel)
theorem r_276_1269 : xfetch 276 1269 = some (.ifCond .ne 15, 3) := by decide +kernel
theorem n_276_1269 : ∀ l, xpr 276 1269 l = l := xpr_no (by decide +kernel)
theorem r_276_1272 : xfetch 276 1272 = some (.aload_n 3, 1) := by decide +kernel
theorem n_276_1272 : ∀ l, xpr 276 1272 l = l := xpr_no (by decide +kernel)
theorem r_276_1273 : xfetch 276 1273 = some (.iconst 0, 1) := by decide +kernel
theorem n_276_1273 : ∀ l, xpr 276 1273 l = l := xpr_no (by decide +kernel)
theorem r_276_1274 : xfetch 276 1274 = some (.laload, 1) := by decide +kernel
theorem n_276_1274 : ∀ l, xpr 276 1274 l = l := xpr_no (by decide +kernel)
theorem r_276_1275 : xfetch 276 1275 = some (.iload 6, 2) := by decide +kernel
theorem n_276_1275 : ∀ l, xpr 276 1275 l = l := xpr_no (by decide +kernel)
theorem r_276_1277 : xfetch 276 1277 = some (.i2l, 1) := by decide +kernel
theorem n_276_1277 : ∀ l, xpr 276 1277 l = l := xpr_no (by decide +kernel)
theorem r_276_1278 : xfetch 276 1278 = some (.lcmp, 1) := by decide +kernel
theorem n_276_1278 : ∀ l, xpr 276 1278 l = l := xpr_no (by decide +kernel)
theorem r_276_1279 : xfetch 276 1279 = some (.ifCond .eq 5, 3) := by decide +kernel
theorem n_276_1279 : ∀ l, xpr 276 1279 l = l := xpr_no (by decide +kernel)
theorem r_276_1282 : xfetch 276 1282 = some (.iconst 0, 1) := by decide +kernel
theorem n_276_1282 : ∀ l, xpr 276 1282 l = l := xpr_no (by decide +kernel)
theorem r_276_1283 : xfetch 276 1283 = some (.ireturn, 1) := by decide +kernel
theorem n_276_1283 : ∀ l, xpr 276 1283 l = l := xpr_no (by decide +kernel)
theorem r_276_1284 : xfetch 276 1284 = some (.goto 1624, 3) := by decide +kernel
theorem n_276_1284 : ∀ l, xpr 276 1284 l = l := xpr_no (by decide +kernel)
theorem r_276_1287 : xfetch 276 1287 = some (.aload_n 1, 1) := by decide +kernel
theorem r_276_1288 : xfetch 276 1288 = some (.aload_n 0, 1) := by decide +kernel
theorem n_276_1288 : ∀ l, xpr 276 1288 l = l := xpr_no (by decide +kernel)
theorem r_276_1289 : xfetch 276 1289 = some (.iload 4, 2) := by decide +kernel
theorem n_276_1289 : ∀ l, xpr 276 1289 l = l := xpr_no (by decide +kernel)
theorem r_276_1291 : xfetch 276 1291 = some (.iconst 1, 1) := by decide +kernel
theorem n_276_1291 : ∀ l, xpr 276 1291 l = l := xpr_no (by decide +kernel)
theorem r_276_1292 : xfetch 276 1292 = some (.iadd, 1) := by decide +kernel
theorem n_276_1292 : ∀ l, xpr 276 1292 l = l := xpr_no (by decide +kernel)
theorem r_276_1293 : xfetch 276 1293 = some (.iaload, 1) := by decide +kernel
theorem n_276_1293 : ∀ l, xpr 276 1293 l = l := xpr_no (by decide +kernel)
theorem r_276_1294 : xfetch 276 1294 = some (.aload_n 0, 1) := by decide +kernel
theorem n_276_1294 : ∀ l, xpr 276 1294 l = l := xpr_no (by decide +kernel)
theorem r_276_1295 : xfetch 276 1295 = some (.iload 4, 2) := by decide +kernel
theorem n_276_1295 : ∀ l, xpr 276 1295 l = l := xpr_no (by decide +kernel)
theorem r_276_1297 : xfetch 276 1297 = some (.iconst 2, 1) := by decide +kernel
theorem n_276_1297 : ∀ l, xpr 276 1297 l = l := xpr_no (by decide +kernel)
theorem r_276_1298 : xfetch 276 1298 = some (.iadd, 1) := by decide +kernel
theorem n_276_1298 : ∀ l, xpr 276 1298 l = l := xpr_no (by decide +kernel)
theorem r_276_1299 : xfetch 276 1299 = some (.iaload, 1) := by decide +kernel
theorem n_276_1299 : ∀ l, xpr 276 1299 l = l := xpr_no (by decide +kernel)
theorem r_276_1300 : xfetch 276 1300 = some (.aload_n 0, 1) := by decide +kernel
theorem n_276_1300 : ∀ l, xpr 276 1300 l = l := xpr_no (by decide +kernel)
theorem r_276_1301 : xfetch 276 1301 = some (.iload 4, 2) := by decide +kernel
theorem n_276_1301 : ∀ l, xpr 276 1301 l = l := xpr_no (by decide +kernel)
theorem r_276_1303 : xfetch 276 1303 = some (.iconst 3, 1) := by decide +kernel
theorem n_276_1303 : ∀ l, xpr 276 1303 l = l := xpr_no (by decide +kernel)
theorem r_276_1304 : xfetch 276 1304 = some (.iadd, 1) := by decide +kernel
theorem n_276_1304 : ∀ l, xpr 276 1304 l = l := xpr_no (by decide +kernel)
theorem r_276_1305 : xfetch 276 1305 = some (.iaload, 1) := by decide +kernel
theorem n_276_1305 : ∀ l, xpr 276 1305 l = l := xpr_no (by decide +kernel)
theorem r_276_1306 : xfetch 276 1306 = some (.aload_n 3, 1) := by decide +kernel
theorem n_276_1306 : ∀ l, xpr 276 1306 l = l := xpr_no (by decide +kernel)
theorem r_276_1307 : xfetch 276 1307 = some (.invokestatic 193, 3) := by decide +kernel
theorem n_276_1307 : ∀ l, xpr 276 1307 l = l := xpr_no (by decide +kernel)
theorem r_276_1310 : xfetch 276 1310 = some (.istore 5, 2) := by decide +kernel
theorem n_276_1310 : ∀ l, xpr 276 1310 l = l := xpr_no (by decide +kernel)
theorem r_276_1312 : xfetch 276 1312 = some (.aload_n 2, 1) := by decide +kernel
theorem n_276_1312 : ∀ l, xpr 276 1312 l = l := xpr_no (by decide +kernel)
theorem r_276_1313 : xfetch 276 1313 = some (.aload_n 0, 1) := by decide +kernel
theorem n_276_1313 : ∀ l, xpr 276 1313 l = l := xpr_no (by decide +kernel)
theorem r_276_1314 : xfetch 276 1314 = some (.iload 4, 2) := by decide +kernel
theorem n_276_1314 : ∀ l, xpr 276 1314 l = l := xpr_no (by decide +kernel)
theorem r_276_1316 : xfetch 276 1316 = some (.iconst 1, 1) := by decide +kernel
theorem n_276_1316 : ∀ l, xpr 276 1316 l = l := xpr_no (by decide +kernel)
theorem r_276_1317 : xfetch 276 1317 = some (.iadd, 1) := by decide +kernel
theorem n_276_1317 : ∀ l, xpr 276 1317 l = l := xpr_no (by decide +kernel)
theorem r_276_1318 : xfetch 276 1318 = some (.iaload, 1) := by decide +kernel
theorem n_276_1318 : ∀ l, xpr 276 1318 l = l := xpr_no (by decide +kernel)
theorem r_276_1319 : xfetch 276 1319 = some (.aload_n 0, 1) := by decide +kernel
theorem n_276_1319 : ∀ l, xpr 276 1319 l = l := xpr_no (by decide +kernel)
theorem r_276_1320 : xfetch 276 1320 = some (.iload 4, 2) := by decide +kernel
theorem n_276_1320 : ∀ l, xpr 276 1320 l = l := xpr_no (by decide +kernel)
theorem r_276_1322 : xfetch 276 1322 = some (.iconst 2, 1) := by decide +kernel
theorem n_276_1322 : ∀ l, xpr 276 1322 l = l := xpr_no (by decide +kernel)
theorem r_276_1323 : xfetch 276 1323 = some (.iadd, 1) := by decide +kernel
theorem n_276_1323 : ∀ l, xpr 276 1323 l = l := xpr_no (by decide +kernel)
theorem r_276_1324 : xfetch 276 1324 = some (.iaload, 1) := by decide +kernel
theorem n_276_1324 : ∀ l, xpr 276 1324 l = l := xpr_no (by decide +kernel)
theorem r_276_1325 : xfetch 276 1325 = some (.aload_n 0, 1) := by decide +kernel
theorem n_276_1325 : ∀ l, xpr 276 1325 l = l := xpr_no (by decide +kernel)
theorem r_276_1326 : xfetch 276 1326 = some (.iload 4, 2) := by decide +kernel
theorem n_276_1326 : ∀ l, xpr 276 1326 l = l := xpr_no (by decide +kernel)
theorem r_276_1328 : xfetch 276 1328 = some (.iconst 3, 1) := by decide +kernel
theorem n_276_1328 : ∀ l, xpr 276 1328 l = l := xpr_no (by decide +kernel)
theorem r_276_1329 : xfetch 276 1329 = some (.iadd, 1) := by decide +kernel
theorem n_276_1329 : ∀ l, xpr 276 1329 l = l := xpr_no (by decide +kernel)
theorem r_276_1330 : xfetch 276 1330 = some (.iaload, 1) := by decide +kernel
theorem n_276_1330 : ∀ l, xpr 276 1330 l = l := xpr_no (by decide +kernel)
theorem r_276_1331 : xfetch 276 1331 = some (.invokevirtual 195, 3) := by decide +kernel
theorem n_276_1331 : ∀ l, xpr 276 1331 l = l := xpr_no (by decide +kernel)
theorem r_276_1334 : xfetch 276 1334 = some (.lstore 6, 2) := by decide +kernel
theorem n_276_1334 : ∀ l, xpr 276 1334 l = l := xpr_no (by decide +kernel)
theorem r_276_1336 : xfetch 276 1336 = some (.aload_n 2, 1) := by decide +kernel
theorem n_276_1336 : ∀ l, xpr 276 1336 l = l := xpr_no (by decide +kernel)
theorem r_276_1337 : xfetch 276 1337 = some (.invokevirtual 133, 3) := by decide +kernel
theorem n_276_1337 : ∀ l, xpr 276 1337 l = l := xpr_no (by decide +kernel)
theorem r_276_1340 : xfetch 276 1340 = some (.iload 5, 2) := by decide +kernel
theorem n_276_1340 : ∀ l, xpr 276 1340 l = l := xpr_no (by decide +kernel)
theorem r_276_1342 : xfetch 276 1342 = some (.if_icmp .eq 5, 3) := by decide +kernel
theorem n_276_1342 : ∀ l, xpr 276 1342 l = l := xpr_no (by decide +kernel)
theorem r_276_1345 : xfetch 276 1345 = some (.iconst 0, 1) := by decide +kernel
theorem n_276_1345 : ∀ l, xpr 276 1345 l = l := xpr_no (by decide +kernel)
theorem r_276_1346 : xfetch 276 1346 = some (.ireturn, 1) := by decide +kernel
theorem n_276_1346 : ∀ l, xpr 276 1346 l = l := xpr_no (by decide +kernel)
theorem r_276_1347 : xfetch 276 1347 = some (.iload 5, 2) := by decide +kernel
theorem n_276_1347 : ∀ l, xpr 276 1347 l = l := xpr_no (by decide +kernel)
theorem r_276_1349 : xfetch 276 1349 = some (.ifCond .ne 14, 3) := by decide +kernel
theorem n_276_1349 : ∀ l, xpr 276 1349 l = l := xpr_no (by decide +kernel)
theorem r_276_1352 : xfetch 276 1352 = some (.aload_n 3, 1) := by decide +kernel
theorem n_276_1352 : ∀ l, xpr 276 1352 l = l := xpr_no (by decide +kernel)
theorem r_276_1353 : xfetch 276 1353 = some (.iconst 0, 1) := by decide +kernel
theorem n_276_1353 : ∀ l, xpr 276 1353 l = l := xpr_no (by decide +kernel)
theorem r_276_1354 : xfetch 276 1354 = some (.laload, 1) := by decide +kernel
theorem n_276_1354 : ∀ l, xpr 276 1354 l = l := xpr_no (by decide +kernel)
theorem r_276_1355 : xfetch 276 1355 = some (.lload 6, 2) := by decide +kernel
theorem n_276_1355 : ∀ l, xpr 276 1355 l = l := xpr_no (by decide +kernel)
theorem r_276_1357 : xfetch 276 1357 = some (.lcmp, 1) := by decide +kernel
theorem n_276_1357 : ∀ l, xpr 276 1357 l = l := xpr_no (by decide +kernel)
theorem r_276_1358 : xfetch 276 1358 = some (.ifCond .eq 5, 3) := by decide +kernel
theorem n_276_1358 : ∀ l, xpr 276 1358 l = l := xpr_no (by decide +kernel)
theorem r_276_1361 : xfetch 276 1361 = some (.iconst 0, 1) := by decide +kernel
theorem n_276_1361 : ∀ l, xpr 276 1361 l = l := xpr_no (by decide +kernel)
theorem r_276_1362 : xfetch 276 1362 = some (.ireturn, 1) := by decide +kernel
theorem n_276_1362 : ∀ l, xpr 276 1362 l = l := xpr_no (by decide +kernel)
theorem r_276_1363 : xfetch 276 1363 = some (.goto 1545, 3) := by decide +kernel
theorem n_276_1363 : ∀ l, xpr 276 1363 l = l := xpr_no (by decide +kernel)
theorem r_276_1366 : xfetch 276 1366 = some (.aload_n 1, 1) := by decide +kernel
theorem r_276_1367 : xfetch 276 1367 = some (.aload_n 0, 1) := by decide +kernel
theorem n_276_1367 : ∀ l, xpr 276 1367 l = l := xpr_no (by decide +kernel)
theorem r_276_1368 : xfetch 276 1368 = some (.iload 4, 2) := by decide +kernel
theorem n_276_1368 : ∀ l, xpr 276 1368 l = l := xpr_no (by decide +kernel)
theorem r_276_1370 : xfetch 276 1370 = some (.iconst 1, 1) := by decide +kernel
theorem n_276_1370 : ∀ l, xpr 276 1370 l = l := xpr_no (by decide +kernel)
theorem r_276_1371 : xfetch 276 1371 = some (.iadd, 1) := by decide +kernel
theorem n_276_1371 : ∀ l, xpr 276 1371 l = l := xpr_no (by decide +kernel)
theorem r_276_1372 : xfetch 276 1372 = some (.iaload, 1) := by decide +kernel
theorem n_276_1372 : ∀ l, xpr 276 1372 l = l := xpr_no (by decide +kernel)
theorem r_276_1373 : xfetch 276 1373 = some (.aload_n 0, 1) := by decide +kernel
theorem n_276_1373 : ∀ l, xpr 276 1373 l = l := xpr_no (by decide +kernel)
theorem r_276_1374 : xfetch 276 1374 = some (.iload 4, 2) := by decide +kernel
theorem n_276_1374 : ∀ l, xpr 276 1374 l = l := xpr_no (by decide +kernel)
theorem r_276_1376 : xfetch 276 1376 = some (.iconst 2, 1) := by decide +kernel
theorem n_276_1376 : ∀ l, xpr 276 1376 l = l := xpr_no (by decide +kernel)
theorem r_276_1377 : xfetch 276 1377 = some (.iadd, 1) := by decide +kernel
theorem n_276_1377 : ∀ l, xpr 276 1377 l = l := xpr_no (by decide +kernel)
theorem r_276_1378 : xfetch 276 1378 = some (.iaload, 1) := by decide +kernel
theorem n_276_1378 : ∀ l, xpr 276 1378 l = l := xpr_no (by decide +kernel)
theorem r_276_1379 : xfetch 276 1379 = some (.aload_n 0, 1) := by decide +kernel
theorem n_276_1379 : ∀ l, xpr 276 1379 l = l := xpr_no (by decide +kernel)
theorem r_276_1380 : xfetch 276 1380 = some (.iload 4, 2) := by decide +kernel
theorem n_276_1380 : ∀ l, xpr 276 1380 l = l := xpr_no (by decide +kernel)
theorem r_276_1382 : xfetch 276 1382 = some (.iconst 3, 1) := by decide +kernel
theorem n_276_1382 : ∀ l, xpr 276 1382 l = l := xpr_no (by decide +kernel)
theorem r_276_1383 : xfetch 276 1383 = some (.iadd, 1) := by decide +kernel
theorem n_276_1383 : ∀ l, xpr 276 1383 l = l := xpr_no (by decide +kernel)
theorem r_276_1384 : xfetch 276 1384 = some (.iaload, 1) := by decide +kernel
theorem n_276_1384 : ∀ l, xpr 276 1384 l = l := xpr_no (by decide +kernel)
theorem r_276_1385 : xfetch 276 1385 = some (.aload_n 0, 1) := by decide +kernel
theorem n_276_1385 : ∀ l, xpr 276 1385 l = l := xpr_no (by decide +kernel)
theorem r_276_1386 : xfetch 276 1386 = some (.iload 4, 2) := by decide +kernel
theorem n_276_1386 : ∀ l, xpr 276 1386 l = l := xpr_no (by decide +kernel)
theorem r_276_1388 : xfetch 276 1388 = some (.iconst 4, 1) := by decide +kernel
theorem n_276_1388 : ∀ l, xpr 276 1388 l = l := xpr_no (by decide +kernel)
theorem r_276_1389 : xfetch 276 1389 = some (.iadd, 1) := by decide +kernel
theorem n_276_1389 : ∀ l, xpr 276 1389 l = l := xpr_no (by decide +kernel)
theorem r_276_1390 : xfetch 276 1390 = some (.iaload, 1) := by decide +kernel
theorem n_276_1390 : ∀ l, xpr 276 1390 l = l := xpr_no (by decide +kernel)
theorem r_276_1391 : xfetch 276 1391 = some (.i2l, 1) := by decide +kernel
theorem n_276_1391 : ∀ l, xpr 276 1391 l = l := xpr_no (by decide +kernel)
theorem r_276_1392 : xfetch 276 1392 = some (.bipush 32, 2) := by decide +kernel
theorem n_276_1392 : ∀ l, xpr 276 1392 l = l := xpr_no (by decide +kernel)
theorem r_276_1394 : xfetch 276 1394 = some (.lshl, 1) := by decide +kernel
theorem n_276_1394 : ∀ l, xpr 276 1394 l = l := xpr_no (by decide +kernel)
theorem r_276_1395 : xfetch 276 1395 = some (.aload_n 0, 1) := by decide +kernel
theorem n_276_1395 : ∀ l, xpr 276 1395 l = l := xpr_no (by decide +kernel)
theorem r_276_1396 : xfetch 276 1396 = some (.iload 4, 2) := by decide +kernel
theorem n_276_1396 : ∀ l, xpr 276 1396 l = l := xpr_no (by decide +kernel)
theorem r_276_1398 : xfetch 276 1398 = some (.iconst 5, 1) := by decide +kernel
theorem n_276_1398 : ∀ l, xpr 276 1398 l = l := xpr_no (by decide +kernel)
theorem r_276_1399 : xfetch 276 1399 = some (.iadd, 1) := by decide +kernel
theorem n_276_1399 : ∀ l, xpr 276 1399 l = l := xpr_no (by decide +kernel)
theorem r_276_1400 : xfetch 276 1400 = some (.iaload, 1) := by decide +kernel
theorem n_276_1400 : ∀ l, xpr 276 1400 l = l := xpr_no (by decide +kernel)
theorem r_276_1401 : xfetch 276 1401 = some (.i2l, 1) := by decide +kernel
theorem n_276_1401 : ∀ l, xpr 276 1401 l = l := xpr_no (by decide +kernel)
theorem r_276_1402 : xfetch 276 1402 = some (.ldc2_w 196, 3) := by decide +kernel
theorem n_276_1402 : ∀ l, xpr 276 1402 l = l := xpr_no (by decide +kernel)
theorem r_276_1405 : xfetch 276 1405 = some (.land, 1) := by decide +kernel
theorem n_276_1405 : ∀ l, xpr 276 1405 l = l := xpr_no (by decide +kernel)
theorem r_276_1406 : xfetch 276 1406 = some (.lor, 1) := by decide +kernel
theorem n_276_1406 : ∀ l, xpr 276 1406 l = l := xpr_no (by decide +kernel)
theorem r_276_1407 : xfetch 276 1407 = some (.aload_n 3, 1) := by decide +kernel
theorem n_276_1407 : ∀ l, xpr 276 1407 l = l := xpr_no (by decide +kernel)
theorem r_276_1408 : xfetch 276 1408 = some (.invokestatic 198, 3) := by decide +kernel
theorem n_276_1408 : ∀ l, xpr 276 1408 l = l := xpr_no (by decide +kernel)
theorem r_276_1411 : xfetch 276 1411 = some (.istore 5, 2) := by decide +kernel
theorem n_276_1411 : ∀ l, xpr 276 1411 l = l := xpr_no (by decide +kernel)
theorem r_276_1413 : xfetch 276 1413 = some (.aload_n 2, 1) := by decide +kernel
theorem n_276_1413 : ∀ l, xpr 276 1413 l = l := xpr_no (by decide +kernel)
theorem r_276_1414 : xfetch 276 1414 = some (.aload_n 0, 1) := by decide +kernel
theorem n_276_1414 : ∀ l, xpr 276 1414 l = l := xpr_no (by decide +kernel)
theorem r_276_1415 : xfetch 276 1415 = some (.iload 4, 2) := by decide +kernel
theorem n_276_1415 : ∀ l, xpr 276 1415 l = l := xpr_no (by decide +kernel)
theorem r_276_1417 : xfetch 276 1417 = some (.iconst 1, 1) := by decide +kernel
theorem n_276_1417 : ∀ l, xpr 276 1417 l = l := xpr_no (by decide +kernel)
theorem r_276_1418 : xfetch 276 1418 = some (.iadd, 1) := by decide +kernel
theorem n_276_1418 : ∀ l, xpr 276 1418 l = l := xpr_no (by decide +kernel)
theorem r_276_1419 : xfetch 276 1419 = some (.iaload, 1) := by decide +kernel
theorem n_276_1419 : ∀ l, xpr 276 1419 l = l := xpr_no (by decide +kernel)
theorem r_276_1420 : xfetch 276 1420 = some (.aload_n 0, 1) := by decide +kernel
theorem n_276_1420 : ∀ l, xpr 276 1420 l = l := xpr_no (by decide +kernel)
theorem r_276_1421 : xfetch 276 1421 = some (.iload 4, 2) := by decide +kernel
theorem n_276_1421 : ∀ l, xpr 276 1421 l = l := xpr_no (by decide +kernel)
theorem r_276_1423 : xfetch 276 1423 = some (.iconst 2, 1) := by decide +kernel
theorem n_276_1423 : ∀ l, xpr 276 1423 l = l := xpr_no (by decide +kernel)
theorem r_276_1424 : xfetch 276 1424 = some (.iadd, 1) := by decide +kernel
theorem n_276_1424 : ∀ l, xpr 276 1424 l = l := xpr_no (by decide +kernel)
theorem r_276_1425 : xfetch 276 1425 = some (.iaload, 1) := by decide +kernel
theorem n_276_1425 : ∀ l, xpr 276 1425 l = l := xpr_no (by decide +kernel)
theorem r_276_1426 : xfetch 276 1426 = some (.aload_n 0, 1) := by decide +kernel
theorem n_276_1426 : ∀ l, xpr 276 1426 l = l := xpr_no (by decide +kernel)
theorem r_276_1427 : xfetch 276 1427 = some (.iload 4, 2) := by decide +kernel
theorem n_276_1427 : ∀ l, xpr 276 1427 l = l := xpr_no (by decide +kernel)
theorem r_276_1429 : xfetch 276 1429 = some (.iconst 3, 1) := by decide +kernel
theorem n_276_1429 : ∀ l, xpr 276 1429 l = l := xpr_no (by decide +kernel)
theorem r_276_1430 : xfetch 276 1430 = some (.iadd, 1) := by decide +kernel
theorem n_276_1430 : ∀ l, xpr 276 1430 l = l := xpr_no (by decide +kernel)
theorem r_276_1431 : xfetch 276 1431 = some (.iaload, 1) := by decide +kernel
theorem n_276_1431 : ∀ l, xpr 276 1431 l = l := xpr_no (by decide +kernel)
theorem r_276_1432 : xfetch 276 1432 = some (.aload_n 0, 1) := by decide +kernel
theorem n_276_1432 : ∀ l, xpr 276 1432 l = l := xpr_no (by decide +kernel)
theorem r_276_1433 : xfetch 276 1433 = some (.iload 4, 2) := by decide +kernel
theorem n_276_1433 : ∀ l, xpr 276 1433 l = l := xpr_no (by decide +kernel)
theorem r_276_1435 : xfetch 276 1435 = some (.iconst 4, 1) := by decide +kernel
theorem n_276_1435 : ∀ l, xpr 276 1435 l = l := xpr_no (by decide +kernel)
theorem r_276_1436 : xfetch 276 1436 = some (.iadd, 1) := by decide +kernel
theorem n_276_1436 : ∀ l, xpr 276 1436 l = l := xpr_no (by decide +kernel)
theorem r_276_1437 : xfetch 276 1437 = some (.iaload, 1) := by decide +kernel
theorem n_276_1437 : ∀ l, xpr 276 1437 l = l := xpr_no (by decide +kernel)
theorem r_276_1438 : xfetch 276 1438 = some (.i2l, 1) := by decide +kernel
theorem n_276_1438 : ∀ l, xpr 276 1438 l = l := xpr_no (by decide +kernel)
theorem r_276_1439 : xfetch 276 1439 = some (.bipush 32, 2) := by decide +kernel
theorem n_276_1439 : ∀ l, xpr 276 1439 l = l := xpr_no (by decide +kernel)
theorem r_276_1441 : xfetch 276 1441 = some (.lshl, 1) := by decide +kernel
theorem n_276_1441 : ∀ l, xpr 276 1441 l = l := xpr_no (by decide +kernel)
theorem r_276_1442 : xfetch 276 1442 = some (.aload_n 0, 1) := by decide +kernel
theorem n_276_1442 : ∀ l, xpr 276 1442 l = l := xpr_no (by decide +kernel)
theorem r_276_1443 : xfetch 276 1443 = some (.iload 4, 2) := by decide +kernel
theorem n_276_1443 : ∀ l, xpr 276 1443 l = l := xpr_no (by decide +kernel)
theorem r_276_1445 : xfetch 276 1445 = some (.iconst 5, 1) := by decide +kernel
theorem n_276_1445 : ∀ l, xpr 276 1445 l = l := xpr_no (by decide +kernel)
theorem r_276_1446 : xfetch 276 1446 = some (.iadd, 1) := by decide +kernel
theorem n_276_1446 : ∀ l, xpr 276 1446 l = l := xpr_no (by decide +kernel)
theorem r_276_1447 : xfetch 276 1447 = some (.iaload, 1) := by decide +kernel
theorem n_276_1447 : ∀ l, xpr 276 1447 l = l := xpr_no (by decide +kernel)
theorem r_276_1448 : xfetch 276 1448 = some (.i2l, 1) := by decide +kernel
theorem n_276_1448 : ∀ l, xpr 276 1448 l = l := xpr_no (by decide +kernel)
theorem r_276_1449 : xfetch 276 1449 = some (.ldc2_w 196, 3) := by decide +kernel
theorem n_276_1449 : ∀ l, xpr 276 1449 l = l := xpr_no (by decide +kernel)
theorem r_276_1452 : xfetch 276 1452 = some (.land, 1) := by decide +kernel
theorem n_276_1452 : ∀ l, xpr 276 1452 l = l := xpr_no (by decide +kernel)
theorem r_276_1453 : xfetch 276 1453 = some (.lor, 1) := by decide +kernel
theorem n_276_1453 : ∀ l, xpr 276 1453 l = l := xpr_no (by decide +kernel)
theorem r_276_1454 : xfetch 276 1454 = some (.invokevirtual 201, 3) := by decide +kernel
theorem n_276_1454 : ∀ l, xpr 276 1454 l = l := xpr_no (by decide +kernel)
theorem r_276_1457 : xfetch 276 1457 = some (.lstore 6, 2) := by decide +kernel
theorem n_276_1457 : ∀ l, xpr 276 1457 l = l := xpr_no (by decide +kernel)
theorem r_276_1459 : xfetch 276 1459 = some (.aload_n 2, 1) := by decide +kernel
theorem n_276_1459 : ∀ l, xpr 276 1459 l = l := xpr_no (by decide +kernel)
theorem r_276_1460 : xfetch 276 1460 = some (.invokevirtual 133, 3) := by decide +kernel
theorem n_276_1460 : ∀ l, xpr 276 1460 l = l := xpr_no (by decide +kernel)
theorem r_276_1463 : xfetch 276 1463 = some (.iload 5, 2) := by decide +kernel
theorem n_276_1463 : ∀ l, xpr 276 1463 l = l := xpr_no (by decide +kernel)
theorem r_276_1465 : xfetch 276 1465 = some (.if_icmp .eq 5, 3) := by decide +kernel
theorem n_276_1465 : ∀ l, xpr 276 1465 l = l := xpr_no (by decide +kernel)
theorem r_276_1468 : xfetch 276 1468 = some (.iconst 0, 1) := by decide +kernel
theorem n_276_1468 : ∀ l, xpr 276 1468 l = l := xpr_no (by decide +kernel)
theorem r_276_1469 : xfetch 276 1469 = some (.ireturn, 1) := by decide +kernel
theorem n_276_1469 : ∀ l, xpr 276 1469 l = l := xpr_no (by decide +kernel)
theorem r_276_1470 : xfetch 276 1470 = some (.iload 5, 2) := by decide +kernel
theorem n_276_1470 : ∀ l, xpr 276 1470 l = l := xpr_no (by decide +kernel)
theorem r_276_1472 : xfetch 276 1472 = some (.ifCond .ne 14, 3) := by decide +kernel
theorem n_276_1472 : ∀ l, xpr 276 1472 l = l := xpr_no (by decide +kernel)
theorem r_276_1475 : xfetch 276 1475 = some (.aload_n 3, 1) := by decide +kernel
theorem n_276_1475 : ∀ l, xpr 276 1475 l = l := xpr_no (by decide +kernel)
theorem r_276_1476 : xfetch 276 1476 = some (.iconst 0, 1) := by decide +kernel
theorem n_276_1476 : ∀ l, xpr 276 1476 l = l := xpr_no (by decide +kernel)
theorem r_276_1477 : xfetch 276 1477 = some (.laload, 1) := by decide +kernel
theorem n_276_1477 : ∀ l, xpr 276 1477 l = l := xpr_no (by decide +kernel)
theorem r_276_1478 : xfetch 276 1478 = some (.lload 6, 2) := by decide +kernel
theorem n_276_1478 : ∀ l, xpr 276 1478 l = l := xpr_no (by decide +kernel)
theorem r_276_1480 : xfetch 276 1480 = some (.lcmp, 1) := by decide +kernel
theorem n_276_1480 : ∀ l, xpr 276 1480 l = l := xpr_no (by decide +kernel)
theorem r_276_1481 : xfetch 276 1481 = some (.ifCond .eq 5, 3) := by decide +kernel
theorem n_276_1481 : ∀ l, xpr 276 1481 l = l := xpr_no (by decide +kernel)
theorem r_276_1484 : xfetch 276 1484 = some (.iconst 0, 1) := by decide +kernel
theorem n_276_1484 : ∀ l, xpr 276 1484 l = l := xpr_no (by decide +kernel)
theorem r_276_1485 : xfetch 276 1485 = some (.ireturn, 1) := by decide +kernel
theorem n_276_1485 : ∀ l, xpr 276 1485 l = l := xpr_no (by decide +kernel)
theorem r_276_1486 : xfetch 276 1486 = some (.goto 1422, 3) := by decide +kernel
theorem n_276_1486 : ∀ l, xpr 276 1486 l = l := xpr_no (by decide +kernel)
theorem r_276_1489 : xfetch 276 1489 = some (.aload_n 1, 1) := by decide +kernel
theorem r_276_1490 : xfetch 276 1490 = some (.aload_n 0, 1) := by decide +kernel
theorem n_276_1490 : ∀ l, xpr 276 1490 l = l := xpr_no (by decide +kernel)
theorem r_276_1491 : xfetch 276 1491 = some (.iload 4, 2) := by decide +kernel
theorem n_276_1491 : ∀ l, xpr 276 1491 l = l := xpr_no (by decide +kernel)
theorem r_276_1493 : xfetch 276 1493 = some (.iconst 1, 1) := by decide +kernel
theorem n_276_1493 : ∀ l, xpr 276 1493 l = l := xpr_no (by decide +kernel)
theorem r_276_1494 : xfetch 276 1494 = some (.iadd, 1) := by decide +kernel
theorem n_276_1494 : ∀ l, xpr 276 1494 l = l := xpr_no (by decide +kernel)
theorem r_276_1495 : xfetch 276 1495 = some (.iaload, 1) := by decide +kernel
theorem n_276_1495 : ∀ l, xpr 276 1495 l = l := xpr_no (by decide +kernel)
theorem r_276_1496 : xfetch 276 1496 = some (.aload_n 3, 1) := by decide +kernel
theorem n_276_1496 : ∀ l, xpr 276 1496 l = l := xpr_no (by decide +kernel)
theorem r_276_1497 : xfetch 276 1497 = some (.invokestatic 202, 3) := by decide +kernel
theorem n_276_1497 : ∀ l, xpr 276 1497 l = l := xpr_no (by decide +kernel)
theorem r_276_1500 : xfetch 276 1500 = some (.istore 5, 2) := by decide +kernel
theorem n_276_1500 : ∀ l, xpr 276 1500 l = l := xpr_no (by decide +kernel)
theorem r_276_1502 : xfetch 276 1502 = some (.aload_n 2, 1) := by decide +kernel
theorem n_276_1502 : ∀ l, xpr 276 1502 l = l := xpr_no (by decide +kernel)
theorem r_276_1503 : xfetch 276 1503 = some (.aload_n 0, 1) := by decide +kernel
theorem n_276_1503 : ∀ l, xpr 276 1503 l = l := xpr_no (by decide +kernel)
theorem r_276_1504 : xfetch 276 1504 = some (.iload 4, 2) := by decide +kernel
theorem n_276_1504 : ∀ l, xpr 276 1504 l = l := xpr_no (by decide +kernel)
theorem r_276_1506 : xfetch 276 1506 = some (.iconst 1, 1) := by decide +kernel
theorem n_276_1506 : ∀ l, xpr 276 1506 l = l := xpr_no (by decide +kernel)
theorem r_276_1507 : xfetch 276 1507 = some (.iadd, 1) := by decide +kernel
theorem n_276_1507 : ∀ l, xpr 276 1507 l = l := xpr_no (by decide +kernel)
theorem r_276_1508 : xfetch 276 1508 = some (.iaload, 1) := by decide +kernel
theorem n_276_1508 : ∀ l, xpr 276 1508 l = l := xpr_no (by decide +kernel)
theorem r_276_1509 : xfetch 276 1509 = some (.invokevirtual 204, 3) := by decide +kernel
theorem n_276_1509 : ∀ l, xpr 276 1509 l = l := xpr_no (by decide +kernel)
theorem r_276_1512 : xfetch 276 1512 = some (.istore 6, 2) := by decide +kernel
theorem n_276_1512 : ∀ l, xpr 276 1512 l = l := xpr_no (by decide +kernel)
theorem r_276_1514 : xfetch 276 1514 = some (.aload_n 2, 1) := by decide +kernel
theorem n_276_1514 : ∀ l, xpr 276 1514 l = l := xpr_no (by decide +kernel)
theorem r_276_1515 : xfetch 276 1515 = some (.invokevirtual 133, 3) := by decide +kernel
theorem n_276_1515 : ∀ l, xpr 276 1515 l = l := xpr_no (by decide +kernel)
theorem r_276_1518 : xfetch 276 1518 = some (.iload 5, 2) := by decide +kernel
theorem n_276_1518 : ∀ l, xpr 276 1518 l = l := xpr_no (by decide +kernel)
theorem r_276_1520 : xfetch 276 1520 = some (.if_icmp .eq 5, 3) := by decide +kernel
theorem n_276_1520 : ∀ l, xpr 276 1520 l = l := xpr_no (by decide +kernel)
theorem r_276_1523 : xfetch 276 1523 = some (.iconst 0, 1) := by decide +kernel
theorem n_276_1523 : ∀ l, xpr 276 1523 l = l := xpr_no (by decide +kernel)
theorem r_276_1524 : xfetch 276 1524 = some (.ireturn, 1) := by decide +kernel
theorem n_276_1524 : ∀ l, xpr 276 1524 l = l := xpr_no (by decide +kernel)
theorem r_276_1525 : xfetch 276 1525 = some (.iload 5, 2) := by decide +kernel
theorem n_276_1525 : ∀ l, xpr 276 1525 l = l := xpr_no (by decide +kernel)
theorem r_276_1527 : xfetch 276 1527 = some (.ifCond .ne 15, 3) := by decide +kernel
theorem n_276_1527 : ∀ l, xpr 276 1527 l = l := xpr_no (by decide +kernel)
theorem r_276_1530 : xfetch 276 1530 = some (.aload_n 3, 1) := by decide +kernel
theorem n_276_1530 : ∀ l, xpr 276 1530 l = l := xpr_no (by decide +kernel)
theorem r_276_1531 : xfetch 276 1531 = some (.iconst 0, 1) := by decide +kernel
theorem n_276_1531 : ∀ l, xpr 276 1531 l = l := xpr_no (by decide +kernel)
theorem r_276_1532 : xfetch 276 1532 = some (.laload, 1) := by decide +kernel
theorem n_276_1532 : ∀ l, xpr 276 1532 l = l := xpr_no (by decide +kernel)
theorem r_276_1533 : xfetch 276 1533 = some (.iload 6, 2) := by decide +kernel
theorem n_276_1533 : ∀ l, xpr 276 1533 l = l := xpr_no (by decide +kernel)
theorem r_276_1535 : xfetch 276 1535 = some (.i2l, 1) := by decide +kernel
theorem n_276_1535 : ∀ l, xpr 276 1535 l = l := xpr_no (by decide +kernel)
theorem r_276_1536 : xfetch 276 1536 = some (.lcmp, 1) := by decide +kernel
theorem n_276_1536 : ∀ l, xpr 276 1536 l = l := xpr_no (by decide +kernel)
theorem r_276_1537 : xfetch 276 1537 = some (.ifCond .eq 5, 3) := by decide +kernel
theorem n_276_1537 : ∀ l, xpr 276 1537 l = l := xpr_no (by decide +kernel)
theorem r_276_1540 : xfetch 276 1540 = some (.iconst 0, 1) := by decide +kernel
theorem n_276_1540 : ∀ l, xpr 276 1540 l = l := xpr_no (by decide +kernel)
theorem r_276_1541 : xfetch 276 1541 = some (.ireturn, 1) := by decide +kernel
theorem n_276_1541 : ∀ l, xpr 276 1541 l = l := xpr_no (by decide +kernel)
theorem r_276_1542 : xfetch 276 1542 = some (.goto 1366, 3) := by decide +kernel
theorem n_276_1542 : ∀ l, xpr 276 1542 l = l := xpr_no (by decide +kernel)
theorem r_276_1545 : xfetch 276 1545 = some (.aload_n 1, 1) := by decide +kernel
theorem r_276_1546 : xfetch 276 1546 = some (.aload_n 0, 1) := by decide +kernel
theorem n_276_1546 : ∀ l, xpr 276 1546 l = l := xpr_no (by decide +kernel)
theorem r_276_1547 : xfetch 276 1547 = some (.iload 4, 2) := by decide +kernel
theorem n_276_1547 : ∀ l, xpr 276 1547 l = l := xpr_no (by decide +kernel)
theorem r_276_1549 : xfetch 276 1549 = some (.iconst 1, 1) := by decide +kernel
theorem n_276_1549 : ∀ l, xpr 276 1549 l = l := xpr_no (by decide +kernel)
theorem r_276_1550 : xfetch 276 1550 = some (.iadd, 1) := by decide +kernel
theorem n_276_1550 : ∀ l, xpr 276 1550 l = l := xpr_no (by decide +kernel)
theorem r_276_1551 : xfetch 276 1551 = some (.iaload, 1) := by decide +kernel
theorem n_276_1551 : ∀ l, xpr 276 1551 l = l := xpr_no (by decide +kernel)
theorem r_276_1552 : xfetch 276 1552 = some (.aload_n 0, 1) := by decide +kernel
theorem n_276_1552 : ∀ l, xpr 276 1552 l = l := xpr_no (by decide +kernel)
theorem r_276_1553 : xfetch 276 1553 = some (.iload 4, 2) := by decide +kernel
theorem n_276_1553 : ∀ l, xpr 276 1553 l = l := xpr_no (by decide +kernel)
theorem r_276_1555 : xfetch 276 1555 = some (.iconst 2, 1) := by decide +kernel
theorem n_276_1555 : ∀ l, xpr 276 1555 l = l := xpr_no (by decide +kernel)
theorem r_276_1556 : xfetch 276 1556 = some (.iadd, 1) := by decide +kernel
theorem n_276_1556 : ∀ l, xpr 276 1556 l = l := xpr_no (by decide +kernel)
theorem r_276_1557 : xfetch 276 1557 = some (.iaload, 1) := by decide +kernel
theorem n_276_1557 : ∀ l, xpr 276 1557 l = l := xpr_no (by decide +kernel)
theorem r_276_1558 : xfetch 276 1558 = some (.aload_n 3, 1) := by decide +kernel
theorem n_276_1558 : ∀ l, xpr 276 1558 l = l := xpr_no (by decide +kernel)
theorem r_276_1559 : xfetch 276 1559 = some (.invokestatic 205, 3) := by decide +kernel
theorem n_276_1559 : ∀ l, xpr 276 1559 l = l := xpr_no (by decide +kernel)
theorem r_276_1562 : xfetch 276 1562 = some (.istore 5, 2) := by decide +kernel
theorem n_276_1562 : ∀ l, xpr 276 1562 l = l := xpr_no (by decide +kernel)
theorem r_276_1564 : xfetch 276 1564 = some (.aload_n 2, 1) := by decide +kernel
theorem n_276_1564 : ∀ l, xpr 276 1564 l = l := xpr_no (by decide +kernel)
theorem r_276_1565 : xfetch 276 1565 = some (.aload_n 0, 1) := by decide +kernel
theorem n_276_1565 : ∀ l, xpr 276 1565 l = l := xpr_no (by decide +kernel)
theorem r_276_1566 : xfetch 276 1566 = some (.iload 4, 2) := by decide +kernel
theorem n_276_1566 : ∀ l, xpr 276 1566 l = l := xpr_no (by decide +kernel)
theorem r_276_1568 : xfetch 276 1568 = some (.iconst 1, 1) := by decide +kernel
theorem n_276_1568 : ∀ l, xpr 276 1568 l = l := xpr_no (by decide +kernel)
theorem r_276_1569 : xfetch 276 1569 = some (.iadd, 1) := by decide +kernel
theorem n_276_1569 : ∀ l, xpr 276 1569 l = l := xpr_no (by decide +kernel)
theorem r_276_1570 : xfetch 276 1570 = some (.iaload, 1) := by decide +kernel
theorem n_276_1570 : ∀ l, xpr 276 1570 l = l := xpr_no (by decide +kernel)
theorem r_276_1571 : xfetch 276 1571 = some (.aload_n 0, 1) := by decide +kernel
theorem n_276_1571 : ∀ l, xpr 276 1571 l = l := xpr_no (by decide +kernel)
theorem r_276_1572 : xfetch 276 1572 = some (.iload 4, 2) := by decide +kernel

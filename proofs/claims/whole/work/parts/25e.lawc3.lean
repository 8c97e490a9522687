/-! ===== the law: its cases ===== -/
theorem v_Law_law_2285 {S : Option (Nat × (Nat → Int32))} {L : Nat} {xs : Nat → Int32} (hS : S = some (L, xs)) {s : zSt} {Q : Option Value ⊕ Nat → zSt → Prop} {x4 : Int} 
    (h : (0 ≤ (x4 + 1) ∧ (x4 + 1) < (L : Int) ∧ rng (x4 + 1)) ∧ ((0 ≤ (x4 + 2) ∧ (x4 + 2) < (L : Int) ∧ rng (x4 + 2)) ∧ ((0 ≤ (x4 + 3) ∧ (x4 + 3) < (L : Int) ∧ rng (x4 + 3)) ∧ ((0 ≤ (x4 + 4) ∧ (x4 + 4) < (L : Int) ∧ rng (x4 + 4)) ∧ ((0 ≤ (x4 + 5) ∧ (x4 + 5) < (L : Int) ∧ rng (x4 + 5)) ∧ (wp S 155 0 [(0, rf 2), (1, iv ((xs (x4 + 1).toNat).toInt)), (2, iv ((xs (x4 + 2).toNat).toInt)), (3, .long ((zshlL (zi2l ((xs (x4 + 3).toNat).toInt)) 32) ||| ((zi2l ((xs (x4 + 4).toNat).toInt)) &&& 4294967295))), (5, iv ((xs (x4 + 5).toNat).toInt)), (6, rf 275)] [] s (fun o11 s11 => zkI (fun y11 => wp S 266 0 [(0, rf 252), (1, iv ((xs (x4 + 1).toNat).toInt)), (2, iv ((xs (x4 + 2).toNat).toInt)), (3, .long ((zshlL (zi2l ((xs (x4 + 3).toNat).toInt)) 32) ||| ((zi2l ((xs (x4 + 4).toNat).toInt)) &&& 4294967295))), (5, iv ((xs (x4 + 5).toNat).toInt))] [] s11 (fun o18 s18 => zkI (fun y18 => ((zI s18 252 3) = y11 → (y11 ≠ 0 → wp S 276 23 [(0, rf 0), (1, rf 2), (2, rf 252), (3, rf 275), (4, iv (x4 + 7))] [] s18 Q) ∧ (y11 = 0 → ((zcmp (zL s18 275 0) (zi2l y18)) = 0 → wp S 276 23 [(0, rf 0), (1, rf 2), (2, rf 252), (3, rf 275), (4, iv (x4 + 7))] [] s18 Q) ∧ ((zcmp (zL s18 275 0) (zi2l y18)) ≠ 0 → Q (rI 0) s18))) ∧ ((zI s18 252 3) ≠ y11 → Q (rI 0) s18)) (fun e18 => False) o18)) (fun e11 => False) o11))))))) :
    wp S 276 2285 [(0, rf 0), (1, rf 2), (2, rf 252), (3, rf 275), (4, iv x4)] [] s Q := by
  refine i_aload_n (a := 2) r_276_2285 rfl rfl ?_
  refine i_aload_n (a := 0) r_276_2286 (n_276_2286 _) rfl ?_
  refine i_iload (x := x4) r_276_2287 (n_276_2287 _) rfl ?_
  refine i_iconst r_276_2289 (n_276_2289 _) ?_
  refine i_iadd r_276_2290 (n_276_2290 _) ?_
  obtain ⟨g1, h⟩ := h
  refine i_script hS r_276_2291 (n_276_2291 _) g1.2.2 g1.1 g1.2.1 (fun q2 => ?_)
  refine i_aload_n (a := 0) r_276_2292 (n_276_2292 _) rfl ?_
  refine i_iload (x := x4) r_276_2293 (n_276_2293 _) rfl ?_
  refine i_iconst r_276_2295 (n_276_2295 _) ?_
  refine i_iadd r_276_2296 (n_276_2296 _) ?_
  obtain ⟨g3, h⟩ := h
  refine i_script hS r_276_2297 (n_276_2297 _) g3.2.2 g3.1 g3.2.1 (fun q4 => ?_)
  refine i_aload_n (a := 0) r_276_2298 (n_276_2298 _) rfl ?_
  refine i_iload (x := x4) r_276_2299 (n_276_2299 _) rfl ?_
  refine i_iconst r_276_2301 (n_276_2301 _) ?_
  refine i_iadd r_276_2302 (n_276_2302 _) ?_
  obtain ⟨g5, h⟩ := h
  refine i_script hS r_276_2303 (n_276_2303 _) g5.2.2 g5.1 g5.2.1 (fun q6 => ?_)
  refine i_i2l r_276_2304 (n_276_2304 _) ?_
  refine i_bipush r_276_2305 (n_276_2305 _) rfl ?_
  refine i_lshl r_276_2307 (n_276_2307 _) ?_
  refine i_aload_n (a := 0) r_276_2308 (n_276_2308 _) rfl ?_
  refine i_iload (x := x4) r_276_2309 (n_276_2309 _) rfl ?_
  refine i_iconst r_276_2311 (n_276_2311 _) ?_
  refine i_iadd r_276_2312 (n_276_2312 _) ?_
  obtain ⟨g7, h⟩ := h
  refine i_script hS r_276_2313 (n_276_2313 _) g7.2.2 g7.1 g7.2.1 (fun q8 => ?_)
  refine i_i2l r_276_2314 (n_276_2314 _) ?_
  refine i_ldc2 r_276_2315 (n_276_2315 _) rfl ?_
  refine i_land r_276_2318 (n_276_2318 _) ?_
  refine i_lor r_276_2319 (n_276_2319 _) ?_
  refine i_aload_n (a := 0) r_276_2320 (n_276_2320 _) rfl ?_
  refine i_iload (x := x4) r_276_2321 (n_276_2321 _) rfl ?_
  refine i_iconst r_276_2323 (n_276_2323 _) ?_
  refine i_iadd r_276_2324 (n_276_2324 _) ?_
  obtain ⟨g9, h⟩ := h
  refine i_script hS r_276_2325 (n_276_2325 _) g9.2.2 g9.1 g9.2.1 (fun q10 => ?_)
  refine i_aload_n (a := 275) r_276_2326 (n_276_2326 _) rfl ?_
  refine wp_stat (rest := []) (Ls := [(0, rf 2), (1, iv ((xs (x4 + 1).toNat).toInt)), (2, iv ((xs (x4 + 2).toNat).toInt)), (3, .long ((zshlL (zi2l ((xs (x4 + 3).toNat).toInt)) 32) ||| ((zi2l ((xs (x4 + 4).toNat).toInt)) &&& 4294967295))), (5, iv ((xs (x4 + 5).toNat).toInt)), (6, rf 275)]) r_276_2327 (n_276_2327 _) rfl ⟨rfl, by decide, by decide, by decide⟩ rfl rfl ⟨rfl, Nat.le_of_ble_eq_true rfl, Nat.le_of_ble_eq_true rfl⟩ rfl h ?_
  intro o11 s11 h
  rcases h with ⟨y11, q12, rfl, h⟩ | ⟨e11, rfl, h⟩
  · refine .inl ⟨some (iv y11), rfl, ?_⟩
    show wp S 276 2330 [(0, rf 0), (1, rf 2), (2, rf 252), (3, rf 275), (4, iv x4)] [iv y11] s11 Q
    refine i_istore (l' := [(0, rf 0), (1, rf 2), (2, rf 252), (3, rf 275), (4, iv x4), (5, iv y11)]) r_276_2330 (n_276_2330 _) (by decide) rfl ?_
    refine i_aload_n (a := 252) r_276_2332 (n_276_2332 _) rfl ?_
    refine i_aload_n (a := 0) r_276_2333 (n_276_2333 _) rfl ?_
    refine i_iload (x := x4) r_276_2334 (n_276_2334 _) rfl ?_
    refine i_iconst r_276_2336 (n_276_2336 _) ?_
    refine i_iadd r_276_2337 (n_276_2337 _) ?_
    refine i_script hS r_276_2338 (n_276_2338 _) g1.2.2 g1.1 g1.2.1 (fun q13 => ?_)
    refine i_aload_n (a := 0) r_276_2339 (n_276_2339 _) rfl ?_
    refine i_iload (x := x4) r_276_2340 (n_276_2340 _) rfl ?_
    refine i_iconst r_276_2342 (n_276_2342 _) ?_
    refine i_iadd r_276_2343 (n_276_2343 _) ?_
    refine i_script hS r_276_2344 (n_276_2344 _) g3.2.2 g3.1 g3.2.1 (fun q14 => ?_)
    refine i_aload_n (a := 0) r_276_2345 (n_276_2345 _) rfl ?_
    refine i_iload (x := x4) r_276_2346 (n_276_2346 _) rfl ?_
    refine i_iconst r_276_2348 (n_276_2348 _) ?_
    refine i_iadd r_276_2349 (n_276_2349 _) ?_
    refine i_script hS r_276_2350 (n_276_2350 _) g5.2.2 g5.1 g5.2.1 (fun q15 => ?_)
    refine i_i2l r_276_2351 (n_276_2351 _) ?_
    refine i_bipush r_276_2352 (n_276_2352 _) rfl ?_
    refine i_lshl r_276_2354 (n_276_2354 _) ?_
    refine i_aload_n (a := 0) r_276_2355 (n_276_2355 _) rfl ?_
    refine i_iload (x := x4) r_276_2356 (n_276_2356 _) rfl ?_
    refine i_iconst r_276_2358 (n_276_2358 _) ?_
    refine i_iadd r_276_2359 (n_276_2359 _) ?_
    refine i_script hS r_276_2360 (n_276_2360 _) g7.2.2 g7.1 g7.2.1 (fun q16 => ?_)
    refine i_i2l r_276_2361 (n_276_2361 _) ?_
    refine i_ldc2 r_276_2362 (n_276_2362 _) rfl ?_
    refine i_land r_276_2365 (n_276_2365 _) ?_
    refine i_lor r_276_2366 (n_276_2366 _) ?_
    refine i_aload_n (a := 0) r_276_2367 (n_276_2367 _) rfl ?_
    refine i_iload (x := x4) r_276_2368 (n_276_2368 _) rfl ?_
    refine i_iconst r_276_2370 (n_276_2370 _) ?_
    refine i_iadd r_276_2371 (n_276_2371 _) ?_
    refine i_script hS r_276_2372 (n_276_2372 _) g9.2.2 g9.1 g9.2.1 (fun q17 => ?_)
    refine wp_virt (b := 252) (rest := []) (Ls := [(0, rf 252), (1, iv ((xs (x4 + 1).toNat).toInt)), (2, iv ((xs (x4 + 2).toNat).toInt)), (3, .long ((zshlL (zi2l ((xs (x4 + 3).toNat).toInt)) 32) ||| ((zi2l ((xs (x4 + 4).toNat).toInt)) &&& 4294967295))), (5, iv ((xs (x4 + 5).toNat).toInt))]) r_276_2373 (n_276_2373 _) rfl ⟨rfl, rfl, by decide, by decide⟩ rfl rfl lf_252 ⟨rfl, Nat.le_of_ble_eq_true rfl, Nat.le_of_ble_eq_true rfl⟩ rfl h ?_
    intro o18 s18 h
    rcases h with ⟨y18, q19, rfl, h⟩ | ⟨e18, rfl, h⟩
    · refine .inl ⟨some (iv y18), rfl, ?_⟩
      show wp S 276 2376 [(0, rf 0), (1, rf 2), (2, rf 252), (3, rf 275), (4, iv x4), (5, iv y11)] [iv y18] s18 Q
      refine i_istore (l' := [(0, rf 0), (1, rf 2), (2, rf 252), (3, rf 275), (4, iv x4), (5, iv y11), (6, iv y18)]) r_276_2376 (n_276_2376 _) (by decide) rfl ?_
      refine i_aload_n (a := 252) r_276_2378 (n_276_2378 _) rfl ?_
      refine wp_virt (b := 252) (rest := []) (Ls := [(0, rf 252)]) r_276_2379 (n_276_2379 _) rfl ⟨rfl, rfl, by decide, by decide⟩ rfl rfl lf_252 ⟨rfl, Nat.le_of_ble_eq_true rfl, Nat.le_of_ble_eq_true rfl⟩ rfl K_Model_thrown ?_
      rintro _ _ ⟨rfl, rfl⟩
      refine .inl ⟨some (iv (zI s18 252 3)), rfl, ?_⟩
      show wp S 276 2382 [(0, rf 0), (1, rf 2), (2, rf 252), (3, rf 275), (4, iv x4), (5, iv y11), (6, iv y18)] [iv (zI s18 252 3)] s18 Q
      refine wp_rd (a := 252) (j := 3) (fun q21 => ?_)
      refine i_iload (x := y11) r_276_2382 (n_276_2382 _) rfl ?_
      refine i_icmp (t := 2389) r_276_2384 (n_276_2384 _) rfl (T_eq q21 q12) (fun c22 => ?_) (fun c22 => ?_)
      · replace h := h.1 c22
        refine i_iload (x := y11) r_276_2389 (n_276_2389 _) rfl ?_
        refine i_if (t := 2406) r_276_2391 (n_276_2391 _) rfl (T_ne q12 ⟨by omega, by omega⟩) (fun c23 => ?_) (fun c23 => ?_)
        · replace h := h.1 c23
          refine i_goto (t := 2908) r_276_2406 (n_276_2406 _) rfl ?_
          refine i_iinc (x := x4) (l' := [(0, rf 0), (1, rf 2), (2, rf 252), (3, rf 275), (4, iv (x4 + 7)), (5, iv y11), (6, iv y18)]) r_276_2908 (n_276_2908 _) (by decide) rfl rfl ?_
          refine i_goto (t := 23) r_276_2911 (n_276_2911 _) rfl ?_
          exact wp_pr (l' := [(0, rf 0), (1, rf 2), (2, rf 252), (3, rf 275), (4, iv (x4 + 7))]) rfl h
        · replace h := h.2 c23
          refine i_aload_n (a := 275) r_276_2394 (n_276_2394 _) rfl ?_
          refine i_iconst r_276_2395 (n_276_2395 _) ?_
          refine i_laload (a := 275) (j := 0) r_276_2396 (n_276_2396 _) lf_275 ⟨by omega, by omega⟩ (by omega) (by omega) ?_
          refine i_iload (x := y18) r_276_2397 (n_276_2397 _) rfl ?_
          refine i_i2l r_276_2399 (n_276_2399 _) ?_
          refine i_lcmp r_276_2400 (n_276_2400 _) ?_
          refine i_if (t := 2406) r_276_2401 (n_276_2401 _) rfl (T_eq (zcmp_rng _ _) ⟨by omega, by omega⟩) (fun c24 => ?_) (fun c24 => ?_)
          · replace h := h.1 c24
            refine i_goto (t := 2908) r_276_2406 (n_276_2406 _) rfl ?_
            refine i_iinc (x := x4) (l' := [(0, rf 0), (1, rf 2), (2, rf 252), (3, rf 275), (4, iv (x4 + 7)), (5, iv y11), (6, iv y18)]) r_276_2908 (n_276_2908 _) (by decide) rfl rfl ?_
            refine i_goto (t := 23) r_276_2911 (n_276_2911 _) rfl ?_
            exact wp_pr (l' := [(0, rf 0), (1, rf 2), (2, rf 252), (3, rf 275), (4, iv (x4 + 7))]) rfl h
          · replace h := h.2 c24
            refine i_iconst r_276_2404 (n_276_2404 _) ?_
            exact i_zreturn r_276_2405 (n_276_2405 _) rfl (by decide) h
      · replace h := h.2 c22
        refine i_iconst r_276_2387 (n_276_2387 _) ?_
        exact i_zreturn r_276_2388 (n_276_2388 _) rfl (by decide) h
    · skip
      exact h.elim
  · skip
    exact h.elim
theorem v_Law_law_2409 {S : Option (Nat × (Nat → Int32))} {L : Nat} {xs : Nat → Int32} (hS : S = some (L, xs)) {s : zSt} {Q : Option Value ⊕ Nat → zSt → Prop} {x4 : Int} 
    (h : (0 ≤ (x4 + 1) ∧ (x4 + 1) < (L : Int) ∧ rng (x4 + 1)) ∧ ((0 ≤ (x4 + 2) ∧ (x4 + 2) < (L : Int) ∧ rng (x4 + 2)) ∧ (wp S 157 0 [(0, rf 2), (1, iv ((xs (x4 + 1).toNat).toInt)), (2, iv ((xs (x4 + 2).toNat).toInt)), (3, rf 275)] [] s (fun o5 s5 => zkI (fun y5 => wp S 267 0 [(0, rf 252), (1, iv ((xs (x4 + 1).toNat).toInt)), (2, iv ((xs (x4 + 2).toNat).toInt))] [] s5 (fun o9 s9 => zkL (fun y9 => ((zI s9 252 3) = y5 → (y5 ≠ 0 → wp S 276 23 [(0, rf 0), (1, rf 2), (2, rf 252), (3, rf 275), (4, iv (x4 + 7))] [] s9 Q) ∧ (y5 = 0 → ((zcmp (zL s9 275 0) y9) = 0 → wp S 276 23 [(0, rf 0), (1, rf 2), (2, rf 252), (3, rf 275), (4, iv (x4 + 7))] [] s9 Q) ∧ ((zcmp (zL s9 275 0) y9) ≠ 0 → Q (rI 0) s9))) ∧ ((zI s9 252 3) ≠ y5 → Q (rI 0) s9)) (fun e9 => False) o9)) (fun e5 => False) o5)))) :
    wp S 276 2409 [(0, rf 0), (1, rf 2), (2, rf 252), (3, rf 275), (4, iv x4)] [] s Q := by
  refine i_aload_n (a := 2) r_276_2409 rfl rfl ?_
  refine i_aload_n (a := 0) r_276_2410 (n_276_2410 _) rfl ?_
  refine i_iload (x := x4) r_276_2411 (n_276_2411 _) rfl ?_
  refine i_iconst r_276_2413 (n_276_2413 _) ?_
  refine i_iadd r_276_2414 (n_276_2414 _) ?_
  obtain ⟨g1, h⟩ := h
  refine i_script hS r_276_2415 (n_276_2415 _) g1.2.2 g1.1 g1.2.1 (fun q2 => ?_)
  refine i_aload_n (a := 0) r_276_2416 (n_276_2416 _) rfl ?_
  refine i_iload (x := x4) r_276_2417 (n_276_2417 _) rfl ?_
  refine i_iconst r_276_2419 (n_276_2419 _) ?_
  refine i_iadd r_276_2420 (n_276_2420 _) ?_
  obtain ⟨g3, h⟩ := h
  refine i_script hS r_276_2421 (n_276_2421 _) g3.2.2 g3.1 g3.2.1 (fun q4 => ?_)
  refine i_aload_n (a := 275) r_276_2422 (n_276_2422 _) rfl ?_
  refine wp_stat (rest := []) (Ls := [(0, rf 2), (1, iv ((xs (x4 + 1).toNat).toInt)), (2, iv ((xs (x4 + 2).toNat).toInt)), (3, rf 275)]) r_276_2423 (n_276_2423 _) rfl ⟨rfl, by decide, by decide, by decide⟩ rfl rfl ⟨rfl, Nat.le_of_ble_eq_true rfl, Nat.le_of_ble_eq_true rfl⟩ rfl h ?_
  intro o5 s5 h
  rcases h with ⟨y5, q6, rfl, h⟩ | ⟨e5, rfl, h⟩
  · refine .inl ⟨some (iv y5), rfl, ?_⟩
    show wp S 276 2426 [(0, rf 0), (1, rf 2), (2, rf 252), (3, rf 275), (4, iv x4)] [iv y5] s5 Q
    refine i_istore (l' := [(0, rf 0), (1, rf 2), (2, rf 252), (3, rf 275), (4, iv x4), (5, iv y5)]) r_276_2426 (n_276_2426 _) (by decide) rfl ?_
    refine i_aload_n (a := 252) r_276_2428 (n_276_2428 _) rfl ?_
    refine i_aload_n (a := 0) r_276_2429 (n_276_2429 _) rfl ?_
    refine i_iload (x := x4) r_276_2430 (n_276_2430 _) rfl ?_
    refine i_iconst r_276_2432 (n_276_2432 _) ?_
    refine i_iadd r_276_2433 (n_276_2433 _) ?_
    refine i_script hS r_276_2434 (n_276_2434 _) g1.2.2 g1.1 g1.2.1 (fun q7 => ?_)
    refine i_aload_n (a := 0) r_276_2435 (n_276_2435 _) rfl ?_
    refine i_iload (x := x4) r_276_2436 (n_276_2436 _) rfl ?_
    refine i_iconst r_276_2438 (n_276_2438 _) ?_
    refine i_iadd r_276_2439 (n_276_2439 _) ?_
    refine i_script hS r_276_2440 (n_276_2440 _) g3.2.2 g3.1 g3.2.1 (fun q8 => ?_)
    refine wp_virt (b := 252) (rest := []) (Ls := [(0, rf 252), (1, iv ((xs (x4 + 1).toNat).toInt)), (2, iv ((xs (x4 + 2).toNat).toInt))]) r_276_2441 (n_276_2441 _) rfl ⟨rfl, rfl, by decide, by decide⟩ rfl rfl lf_252 ⟨rfl, Nat.le_of_ble_eq_true rfl, Nat.le_of_ble_eq_true rfl⟩ rfl h ?_
    intro o9 s9 h
    rcases h with ⟨y9, rfl, h⟩ | ⟨e9, rfl, h⟩
    · refine .inl ⟨some (.long y9), rfl, ?_⟩
      show wp S 276 2444 [(0, rf 0), (1, rf 2), (2, rf 252), (3, rf 275), (4, iv x4), (5, iv y5)] [.long y9] s9 Q
      refine i_lstore (l' := [(0, rf 0), (1, rf 2), (2, rf 252), (3, rf 275), (4, iv x4), (5, iv y5), (6, .long y9)]) r_276_2444 (n_276_2444 _) (by decide) rfl ?_
      refine i_aload_n (a := 252) r_276_2446 (n_276_2446 _) rfl ?_
      refine wp_virt (b := 252) (rest := []) (Ls := [(0, rf 252)]) r_276_2447 (n_276_2447 _) rfl ⟨rfl, rfl, by decide, by decide⟩ rfl rfl lf_252 ⟨rfl, Nat.le_of_ble_eq_true rfl, Nat.le_of_ble_eq_true rfl⟩ rfl K_Model_thrown ?_
      rintro _ _ ⟨rfl, rfl⟩
      refine .inl ⟨some (iv (zI s9 252 3)), rfl, ?_⟩
      show wp S 276 2450 [(0, rf 0), (1, rf 2), (2, rf 252), (3, rf 275), (4, iv x4), (5, iv y5), (6, .long y9)] [iv (zI s9 252 3)] s9 Q
      refine wp_rd (a := 252) (j := 3) (fun q12 => ?_)
      refine i_iload (x := y5) r_276_2450 (n_276_2450 _) rfl ?_
      refine i_icmp (t := 2457) r_276_2452 (n_276_2452 _) rfl (T_eq q12 q6) (fun c13 => ?_) (fun c13 => ?_)
      · replace h := h.1 c13
        refine i_iload (x := y5) r_276_2457 (n_276_2457 _) rfl ?_
        refine i_if (t := 2473) r_276_2459 (n_276_2459 _) rfl (T_ne q6 ⟨by omega, by omega⟩) (fun c14 => ?_) (fun c14 => ?_)
        · replace h := h.1 c14
          refine i_goto (t := 2908) r_276_2473 (n_276_2473 _) rfl ?_
          refine i_iinc (x := x4) (l' := [(0, rf 0), (1, rf 2), (2, rf 252), (3, rf 275), (4, iv (x4 + 7)), (5, iv y5), (6, .long y9)]) r_276_2908 (n_276_2908 _) (by decide) rfl rfl ?_
          refine i_goto (t := 23) r_276_2911 (n_276_2911 _) rfl ?_
          exact wp_pr (l' := [(0, rf 0), (1, rf 2), (2, rf 252), (3, rf 275), (4, iv (x4 + 7))]) rfl h
        · replace h := h.2 c14
          refine i_aload_n (a := 275) r_276_2462 (n_276_2462 _) rfl ?_
          refine i_iconst r_276_2463 (n_276_2463 _) ?_
          refine i_laload (a := 275) (j := 0) r_276_2464 (n_276_2464 _) lf_275 ⟨by omega, by omega⟩ (by omega) (by omega) ?_
          refine i_lload (u := y9) r_276_2465 (n_276_2465 _) rfl ?_
          refine i_lcmp r_276_2467 (n_276_2467 _) ?_
          refine i_if (t := 2473) r_276_2468 (n_276_2468 _) rfl (T_eq (zcmp_rng _ _) ⟨by omega, by omega⟩) (fun c15 => ?_) (fun c15 => ?_)
          · replace h := h.1 c15
            refine i_goto (t := 2908) r_276_2473 (n_276_2473 _) rfl ?_
            refine i_iinc (x := x4) (l' := [(0, rf 0), (1, rf 2), (2, rf 252), (3, rf 275), (4, iv (x4 + 7)), (5, iv y5), (6, .long y9)]) r_276_2908 (n_276_2908 _) (by decide) rfl rfl ?_
            refine i_goto (t := 23) r_276_2911 (n_276_2911 _) rfl ?_
            exact wp_pr (l' := [(0, rf 0), (1, rf 2), (2, rf 252), (3, rf 275), (4, iv (x4 + 7))]) rfl h
          · replace h := h.2 c15
            refine i_iconst r_276_2471 (n_276_2471 _) ?_
            exact i_zreturn r_276_2472 (n_276_2472 _) rfl (by decide) h
      · replace h := h.2 c13
        refine i_iconst r_276_2455 (n_276_2455 _) ?_
        exact i_zreturn r_276_2456 (n_276_2456 _) rfl (by decide) h
    · skip
      exact h.elim
  · skip
    exact h.elim
theorem v_Law_law_2476 {S : Option (Nat × (Nat → Int32))} {L : Nat} {xs : Nat → Int32} (hS : S = some (L, xs)) {s : zSt} {Q : Option Value ⊕ Nat → zSt → Prop} {x4 : Int} 
    (h : (0 ≤ (x4 + 1) ∧ (x4 + 1) < (L : Int) ∧ rng (x4 + 1)) ∧ ((0 ≤ (x4 + 2) ∧ (x4 + 2) < (L : Int) ∧ rng (x4 + 2)) ∧ ((0 ≤ (x4 + 3) ∧ (x4 + 3) < (L : Int) ∧ rng (x4 + 3)) ∧ ((0 ≤ (x4 + 4) ∧ (x4 + 4) < (L : Int) ∧ rng (x4 + 4)) ∧ ((0 ≤ (x4 + 5) ∧ (x4 + 5) < (L : Int) ∧ rng (x4 + 5)) ∧ ((0 ≤ (x4 + 6) ∧ (x4 + 6) < (L : Int) ∧ rng (x4 + 6)) ∧ (wp S 159 0 [(0, rf 2), (1, iv ((xs (x4 + 1).toNat).toInt)), (2, .long ((zshlL (zi2l ((xs (x4 + 2).toNat).toInt)) 32) ||| ((zi2l ((xs (x4 + 3).toNat).toInt)) &&& 4294967295))), (4, iv ((xs (x4 + 4).toNat).toInt)), (5, iv ((xs (x4 + 5).toNat).toInt)), (6, iv ((xs (x4 + 6).toNat).toInt)), (7, rf 275)] [] s (fun o13 s13 => zkI (fun y13 => wp S 268 0 [(0, rf 252), (1, iv ((xs (x4 + 1).toNat).toInt)), (2, .long ((zshlL (zi2l ((xs (x4 + 2).toNat).toInt)) 32) ||| ((zi2l ((xs (x4 + 3).toNat).toInt)) &&& 4294967295))), (4, iv ((xs (x4 + 4).toNat).toInt)), (5, iv ((xs (x4 + 5).toNat).toInt)), (6, iv ((xs (x4 + 6).toNat).toInt))] [] s13 (fun o21 s21 => zkI (fun y21 => ((zI s21 252 3) = y13 → (y13 ≠ 0 → wp S 276 23 [(0, rf 0), (1, rf 2), (2, rf 252), (3, rf 275), (4, iv (x4 + 7))] [] s21 Q) ∧ (y13 = 0 → ((zcmp (zL s21 275 0) (zi2l y21)) = 0 → wp S 276 23 [(0, rf 0), (1, rf 2), (2, rf 252), (3, rf 275), (4, iv (x4 + 7))] [] s21 Q) ∧ ((zcmp (zL s21 275 0) (zi2l y21)) ≠ 0 → Q (rI 0) s21))) ∧ ((zI s21 252 3) ≠ y13 → Q (rI 0) s21)) (fun e21 => False) o21)) (fun e13 => False) o13)))))))) :
    wp S 276 2476 [(0, rf 0), (1, rf 2), (2, rf 252), (3, rf 275), (4, iv x4)] [] s Q := by
  refine i_aload_n (a := 2) r_276_2476 rfl rfl ?_
  refine i_aload_n (a := 0) r_276_2477 (n_276_2477 _) rfl ?_
  refine i_iload (x := x4) r_276_2478 (n_276_2478 _) rfl ?_
  refine i_iconst r_276_2480 (n_276_2480 _) ?_
  refine i_iadd r_276_2481 (n_276_2481 _) ?_
  obtain ⟨g1, h⟩ := h
  refine i_script hS r_276_2482 (n_276_2482 _) g1.2.2 g1.1 g1.2.1 (fun q2 => ?_)
  refine i_aload_n (a := 0) r_276_2483 (n_276_2483 _) rfl ?_
  refine i_iload (x := x4) r_276_2484 (n_276_2484 _) rfl ?_
  refine i_iconst r_276_2486 (n_276_2486 _) ?_
  refine i_iadd r_276_2487 (n_276_2487 _) ?_
  obtain ⟨g3, h⟩ := h
  refine i_script hS r_276_2488 (n_276_2488 _) g3.2.2 g3.1 g3.2.1 (fun q4 => ?_)
  refine i_i2l r_276_2489 (n_276_2489 _) ?_
  refine i_bipush r_276_2490 (n_276_2490 _) rfl ?_
  refine i_lshl r_276_2492 (n_276_2492 _) ?_
  refine i_aload_n (a := 0) r_276_2493 (n_276_2493 _) rfl ?_
  refine i_iload (x := x4) r_276_2494 (n_276_2494 _) rfl ?_
  refine i_iconst r_276_2496 (n_276_2496 _) ?_
  refine i_iadd r_276_2497 (n_276_2497 _) ?_
  obtain ⟨g5, h⟩ := h
  refine i_script hS r_276_2498 (n_276_2498 _) g5.2.2 g5.1 g5.2.1 (fun q6 => ?_)
  refine i_i2l r_276_2499 (n_276_2499 _) ?_
  refine i_ldc2 r_276_2500 (n_276_2500 _) rfl ?_
  refine i_land r_276_2503 (n_276_2503 _) ?_
  refine i_lor r_276_2504 (n_276_2504 _) ?_
  refine i_aload_n (a := 0) r_276_2505 (n_276_2505 _) rfl ?_
  refine i_iload (x := x4) r_276_2506 (n_276_2506 _) rfl ?_
  refine i_iconst r_276_2508 (n_276_2508 _) ?_
  refine i_iadd r_276_2509 (n_276_2509 _) ?_
  obtain ⟨g7, h⟩ := h
  refine i_script hS r_276_2510 (n_276_2510 _) g7.2.2 g7.1 g7.2.1 (fun q8 => ?_)
  refine i_aload_n (a := 0) r_276_2511 (n_276_2511 _) rfl ?_
  refine i_iload (x := x4) r_276_2512 (n_276_2512 _) rfl ?_
  refine i_iconst r_276_2514 (n_276_2514 _) ?_
  refine i_iadd r_276_2515 (n_276_2515 _) ?_
  obtain ⟨g9, h⟩ := h
  refine i_script hS r_276_2516 (n_276_2516 _) g9.2.2 g9.1 g9.2.1 (fun q10 => ?_)
  refine i_aload_n (a := 0) r_276_2517 (n_276_2517 _) rfl ?_
  refine i_iload (x := x4) r_276_2518 (n_276_2518 _) rfl ?_
  refine i_bipush r_276_2520 (n_276_2520 _) rfl ?_
  refine i_iadd r_276_2522 (n_276_2522 _) ?_
  obtain ⟨g11, h⟩ := h
  refine i_script hS r_276_2523 (n_276_2523 _) g11.2.2 g11.1 g11.2.1 (fun q12 => ?_)
  refine i_aload_n (a := 275) r_276_2524 (n_276_2524 _) rfl ?_
  refine wp_stat (rest := []) (Ls := [(0, rf 2), (1, iv ((xs (x4 + 1).toNat).toInt)), (2, .long ((zshlL (zi2l ((xs (x4 + 2).toNat).toInt)) 32) ||| ((zi2l ((xs (x4 + 3).toNat).toInt)) &&& 4294967295))), (4, iv ((xs (x4 + 4).toNat).toInt)), (5, iv ((xs (x4 + 5).toNat).toInt)), (6, iv ((xs (x4 + 6).toNat).toInt)), (7, rf 275)]) r_276_2525 (n_276_2525 _) rfl ⟨rfl, by decide, by decide, by decide⟩ rfl rfl ⟨rfl, Nat.le_of_ble_eq_true rfl, Nat.le_of_ble_eq_true rfl⟩ rfl h ?_
  intro o13 s13 h
  rcases h with ⟨y13, q14, rfl, h⟩ | ⟨e13, rfl, h⟩
  · refine .inl ⟨some (iv y13), rfl, ?_⟩
    show wp S 276 2528 [(0, rf 0), (1, rf 2), (2, rf 252), (3, rf 275), (4, iv x4)] [iv y13] s13 Q
    refine i_istore (l' := [(0, rf 0), (1, rf 2), (2, rf 252), (3, rf 275), (4, iv x4), (5, iv y13)]) r_276_2528 (n_276_2528 _) (by decide) rfl ?_
    refine i_aload_n (a := 252) r_276_2530 (n_276_2530 _) rfl ?_
    refine i_aload_n (a := 0) r_276_2531 (n_276_2531 _) rfl ?_
    refine i_iload (x := x4) r_276_2532 (n_276_2532 _) rfl ?_
    refine i_iconst r_276_2534 (n_276_2534 _) ?_
    refine i_iadd r_276_2535 (n_276_2535 _) ?_
    refine i_script hS r_276_2536 (n_276_2536 _) g1.2.2 g1.1 g1.2.1 (fun q15 => ?_)
    refine i_aload_n (a := 0) r_276_2537 (n_276_2537 _) rfl ?_
    refine i_iload (x := x4) r_276_2538 (n_276_2538 _) rfl ?_
    refine i_iconst r_276_2540 (n_276_2540 _) ?_
    refine i_iadd r_276_2541 (n_276_2541 _) ?_
    refine i_script hS r_276_2542 (n_276_2542 _) g3.2.2 g3.1 g3.2.1 (fun q16 => ?_)
    refine i_i2l r_276_2543 (n_276_2543 _) ?_
    refine i_bipush r_276_2544 (n_276_2544 _) rfl ?_
    refine i_lshl r_276_2546 (n_276_2546 _) ?_
    refine i_aload_n (a := 0) r_276_2547 (n_276_2547 _) rfl ?_
    refine i_iload (x := x4) r_276_2548 (n_276_2548 _) rfl ?_
    refine i_iconst r_276_2550 (n_276_2550 _) ?_
    refine i_iadd r_276_2551 (n_276_2551 _) ?_
    refine i_script hS r_276_2552 (n_276_2552 _) g5.2.2 g5.1 g5.2.1 (fun q17 => ?_)
    refine i_i2l r_276_2553 (n_276_2553 _) ?_
    refine i_ldc2 r_276_2554 (n_276_2554 _) rfl ?_
    refine i_land r_276_2557 (n_276_2557 _) ?_
    refine i_lor r_276_2558 (n_276_2558 _) ?_
    refine i_aload_n (a := 0) r_276_2559 (n_276_2559 _) rfl ?_
    refine i_iload (x := x4) r_276_2560 (n_276_2560 _) rfl ?_
    refine i_iconst r_276_2562 (n_276_2562 _) ?_
    refine i_iadd r_276_2563 (n_276_2563 _) ?_
    refine i_script hS r_276_2564 (n_276_2564 _) g7.2.2 g7.1 g7.2.1 (fun q18 => ?_)
    refine i_aload_n (a := 0) r_276_2565 (n_276_2565 _) rfl ?_
    refine i_iload (x := x4) r_276_2566 (n_276_2566 _) rfl ?_
    refine i_iconst r_276_2568 (n_276_2568 _) ?_
    refine i_iadd r_276_2569 (n_276_2569 _) ?_
    refine i_script hS r_276_2570 (n_276_2570 _) g9.2.2 g9.1 g9.2.1 (fun q19 => ?_)
    refine i_aload_n (a := 0) r_276_2571 (n_276_2571 _) rfl ?_
    refine i_iload (x := x4) r_276_2572 (n_276_2572 _) rfl ?_
    refine i_bipush r_276_2574 (n_276_2574 _) rfl ?_
    refine i_iadd r_276_2576 (n_276_2576 _) ?_
    refine i_script hS r_276_2577 (n_276_2577 _) g11.2.2 g11.1 g11.2.1 (fun q20 => ?_)
    refine wp_virt (b := 252) (rest := []) (Ls := [(0, rf 252), (1, iv ((xs (x4 + 1).toNat).toInt)), (2, .long ((zshlL (zi2l ((xs (x4 + 2).toNat).toInt)) 32) ||| ((zi2l ((xs (x4 + 3).toNat).toInt)) &&& 4294967295))), (4, iv ((xs (x4 + 4).toNat).toInt)), (5, iv ((xs (x4 + 5).toNat).toInt)), (6, iv ((xs (x4 + 6).toNat).toInt))]) r_276_2578 (n_276_2578 _) rfl ⟨rfl, rfl, by decide, by decide⟩ rfl rfl lf_252 ⟨rfl, Nat.le_of_ble_eq_true rfl, Nat.le_of_ble_eq_true rfl⟩ rfl h ?_
    intro o21 s21 h
    rcases h with ⟨y21, q22, rfl, h⟩ | ⟨e21, rfl, h⟩
    · refine .inl ⟨some (iv y21), rfl, ?_⟩
      show wp S 276 2581 [(0, rf 0), (1, rf 2), (2, rf 252), (3, rf 275), (4, iv x4), (5, iv y13)] [iv y21] s21 Q
      refine i_istore (l' := [(0, rf 0), (1, rf 2), (2, rf 252), (3, rf 275), (4, iv x4), (5, iv y13), (6, iv y21)]) r_276_2581 (n_276_2581 _) (by decide) rfl ?_
      refine i_aload_n (a := 252) r_276_2583 (n_276_2583 _) rfl ?_
      refine wp_virt (b := 252) (rest := []) (Ls := [(0, rf 252)]) r_276_2584 (n_276_2584 _) rfl ⟨rfl, rfl, by decide, by decide⟩ rfl rfl lf_252 ⟨rfl, Nat.le_of_ble_eq_true rfl, Nat.le_of_ble_eq_true rfl⟩ rfl K_Model_thrown ?_
      rintro _ _ ⟨rfl, rfl⟩
      refine .inl ⟨some (iv (zI s21 252 3)), rfl, ?_⟩
      show wp S 276 2587 [(0, rf 0), (1, rf 2), (2, rf 252), (3, rf 275), (4, iv x4), (5, iv y13), (6, iv y21)] [iv (zI s21 252 3)] s21 Q
      refine wp_rd (a := 252) (j := 3) (fun q24 => ?_)
      refine i_iload (x := y13) r_276_2587 (n_276_2587 _) rfl ?_
      refine i_icmp (t := 2594) r_276_2589 (n_276_2589 _) rfl (T_eq q24 q14) (fun c25 => ?_) (fun c25 => ?_)
      · replace h := h.1 c25
        refine i_iload (x := y13) r_276_2594 (n_276_2594 _) rfl ?_
        refine i_if (t := 2611) r_276_2596 (n_276_2596 _) rfl (T_ne q14 ⟨by omega, by omega⟩) (fun c26 => ?_) (fun c26 => ?_)
        · replace h := h.1 c26
          refine i_goto (t := 2908) r_276_2611 (n_276_2611 _) rfl ?_
          refine i_iinc (x := x4) (l' := [(0, rf 0), (1, rf 2), (2, rf 252), (3, rf 275), (4, iv (x4 + 7)), (5, iv y13), (6, iv y21)]) r_276_2908 (n_276_2908 _) (by decide) rfl rfl ?_
          refine i_goto (t := 23) r_276_2911 (n_276_2911 _) rfl ?_
          exact wp_pr (l' := [(0, rf 0), (1, rf 2), (2, rf 252), (3, rf 275), (4, iv (x4 + 7))]) rfl h
        · replace h := h.2 c26
          refine i_aload_n (a := 275) r_276_2599 (n_276_2599 _) rfl ?_
          refine i_iconst r_276_2600 (n_276_2600 _) ?_
          refine i_laload (a := 275) (j := 0) r_276_2601 (n_276_2601 _) lf_275 ⟨by omega, by omega⟩ (by omega) (by omega) ?_
          refine i_iload (x := y21) r_276_2602 (n_276_2602 _) rfl ?_
          refine i_i2l r_276_2604 (n_276_2604 _) ?_
          refine i_lcmp r_276_2605 (n_276_2605 _) ?_
          refine i_if (t := 2611) r_276_2606 (n_276_2606 _) rfl (T_eq (zcmp_rng _ _) ⟨by omega, by omega⟩) (fun c27 => ?_) (fun c27 => ?_)
          · replace h := h.1 c27
            refine i_goto (t := 2908) r_276_2611 (n_276_2611 _) rfl ?_
            refine i_iinc (x := x4) (l' := [(0, rf 0), (1, rf 2), (2, rf 252), (3, rf 275), (4, iv (x4 + 7)), (5, iv y13), (6, iv y21)]) r_276_2908 (n_276_2908 _) (by decide) rfl rfl ?_
            refine i_goto (t := 23) r_276_2911 (n_276_2911 _) rfl ?_
            exact wp_pr (l' := [(0, rf 0), (1, rf 2), (2, rf 252), (3, rf 275), (4, iv (x4 + 7))]) rfl h
          · replace h := h.2 c27
            refine i_iconst r_276_2609 (n_276_2609 _) ?_
            exact i_zreturn r_276_2610 (n_276_2610 _) rfl (by decide) h
      · replace h := h.2 c25
        refine i_iconst r_276_2592 (n_276_2592 _) ?_
        exact i_zreturn r_276_2593 (n_276_2593 _) rfl (by decide) h
    · skip
      exact h.elim
  · skip
    exact h.elim
theorem v_Law_law_2614 {S : Option (Nat × (Nat → Int32))} {L : Nat} {xs : Nat → Int32} (hS : S = some (L, xs)) {s : zSt} {Q : Option Value ⊕ Nat → zSt → Prop} {x4 : Int} 
    (h : (0 ≤ (x4 + 1) ∧ (x4 + 1) < (L : Int) ∧ rng (x4 + 1)) ∧ ((0 ≤ (x4 + 2) ∧ (x4 + 2) < (L : Int) ∧ rng (x4 + 2)) ∧ ((0 ≤ (x4 + 3) ∧ (x4 + 3) < (L : Int) ∧ rng (x4 + 3)) ∧ ((0 ≤ (x4 + 4) ∧ (x4 + 4) < (L : Int) ∧ rng (x4 + 4)) ∧ ((0 ≤ (x4 + 5) ∧ (x4 + 5) < (L : Int) ∧ rng (x4 + 5)) ∧ (wp S 169 0 [(0, rf 2), (1, iv ((xs (x4 + 1).toNat).toInt)), (2, .long ((zshlL (zi2l ((xs (x4 + 2).toNat).toInt)) 32) ||| ((zi2l ((xs (x4 + 3).toNat).toInt)) &&& 4294967295))), (4, iv ((xs (x4 + 4).toNat).toInt)), (5, iv ((xs (x4 + 5).toNat).toInt)), (6, rf 275)] [] s (fun o11 s11 => zkI (fun y11 => wp S 272 0 [(0, rf 252), (1, iv ((xs (x4 + 1).toNat).toInt)), (2, .long ((zshlL (zi2l ((xs (x4 + 2).toNat).toInt)) 32) ||| ((zi2l ((xs (x4 + 3).toNat).toInt)) &&& 4294967295))), (4, iv ((xs (x4 + 4).toNat).toInt)), (5, iv ((xs (x4 + 5).toNat).toInt))] [] s11 (fun o18 s18 => zkI (fun y18 => ((zI s18 252 3) = y11 → (y11 ≠ 0 → wp S 276 23 [(0, rf 0), (1, rf 2), (2, rf 252), (3, rf 275), (4, iv (x4 + 7))] [] s18 Q) ∧ (y11 = 0 → ((zcmp (zL s18 275 0) (zi2l y18)) = 0 → wp S 276 23 [(0, rf 0), (1, rf 2), (2, rf 252), (3, rf 275), (4, iv (x4 + 7))] [] s18 Q) ∧ ((zcmp (zL s18 275 0) (zi2l y18)) ≠ 0 → Q (rI 0) s18))) ∧ ((zI s18 252 3) ≠ y11 → Q (rI 0) s18)) (fun e18 => False) o18)) (fun e11 => False) o11))))))) :
    wp S 276 2614 [(0, rf 0), (1, rf 2), (2, rf 252), (3, rf 275), (4, iv x4)] [] s Q := by
  refine i_aload_n (a := 2) r_276_2614 rfl rfl ?_
  refine i_aload_n (a := 0) r_276_2615 (n_276_2615 _) rfl ?_
  refine i_iload (x := x4) r_276_2616 (n_276_2616 _) rfl ?_
  refine i_iconst r_276_2618 (n_276_2618 _) ?_
  refine i_iadd r_276_2619 (n_276_2619 _) ?_
  obtain ⟨g1, h⟩ := h
  refine i_script hS r_276_2620 (n_276_2620 _) g1.2.2 g1.1 g1.2.1 (fun q2 => ?_)
  refine i_aload_n (a := 0) r_276_2621 (n_276_2621 _) rfl ?_
  refine i_iload (x := x4) r_276_2622 (n_276_2622 _) rfl ?_
  refine i_iconst r_276_2624 (n_276_2624 _) ?_
  refine i_iadd r_276_2625 (n_276_2625 _) ?_
  obtain ⟨g3, h⟩ := h
  refine i_script hS r_276_2626 (n_276_2626 _) g3.2.2 g3.1 g3.2.1 (fun q4 => ?_)
  refine i_i2l r_276_2627 (n_276_2627 _) ?_
  refine i_bipush r_276_2628 (n_276_2628 _) rfl ?_
  refine i_lshl r_276_2630 (n_276_2630 _) ?_
  refine i_aload_n (a := 0) r_276_2631 (n_276_2631 _) rfl ?_
  refine i_iload (x := x4) r_276_2632 (n_276_2632 _) rfl ?_
  refine i_iconst r_276_2634 (n_276_2634 _) ?_
  refine i_iadd r_276_2635 (n_276_2635 _) ?_
  obtain ⟨g5, h⟩ := h
  refine i_script hS r_276_2636 (n_276_2636 _) g5.2.2 g5.1 g5.2.1 (fun q6 => ?_)
  refine i_i2l r_276_2637 (n_276_2637 _) ?_
  refine i_ldc2 r_276_2638 (n_276_2638 _) rfl ?_
  refine i_land r_276_2641 (n_276_2641 _) ?_
  refine i_lor r_276_2642 (n_276_2642 _) ?_
  refine i_aload_n (a := 0) r_276_2643 (n_276_2643 _) rfl ?_
  refine i_iload (x := x4) r_276_2644 (n_276_2644 _) rfl ?_
  refine i_iconst r_276_2646 (n_276_2646 _) ?_
  refine i_iadd r_276_2647 (n_276_2647 _) ?_
  obtain ⟨g7, h⟩ := h
  refine i_script hS r_276_2648 (n_276_2648 _) g7.2.2 g7.1 g7.2.1 (fun q8 => ?_)
  refine i_aload_n (a := 0) r_276_2649 (n_276_2649 _) rfl ?_
  refine i_iload (x := x4) r_276_2650 (n_276_2650 _) rfl ?_
  refine i_iconst r_276_2652 (n_276_2652 _) ?_
  refine i_iadd r_276_2653 (n_276_2653 _) ?_
  obtain ⟨g9, h⟩ := h
  refine i_script hS r_276_2654 (n_276_2654 _) g9.2.2 g9.1 g9.2.1 (fun q10 => ?_)
  refine i_aload_n (a := 275) r_276_2655 (n_276_2655 _) rfl ?_
  refine wp_stat (rest := []) (Ls := [(0, rf 2), (1, iv ((xs (x4 + 1).toNat).toInt)), (2, .long ((zshlL (zi2l ((xs (x4 + 2).toNat).toInt)) 32) ||| ((zi2l ((xs (x4 + 3).toNat).toInt)) &&& 4294967295))), (4, iv ((xs (x4 + 4).toNat).toInt)), (5, iv ((xs (x4 + 5).toNat).toInt)), (6, rf 275)]) r_276_2656 (n_276_2656 _) rfl ⟨rfl, by decide, by decide, by decide⟩ rfl rfl ⟨rfl, Nat.le_of_ble_eq_true rfl, Nat.le_of_ble_eq_true rfl⟩ rfl h ?_
  intro o11 s11 h
  rcases h with ⟨y11, q12, rfl, h⟩ | ⟨e11, rfl, h⟩
  · refine .inl ⟨some (iv y11), rfl, ?_⟩
    show wp S 276 2659 [(0, rf 0), (1, rf 2), (2, rf 252), (3, rf 275), (4, iv x4)] [iv y11] s11 Q
    refine i_istore (l' := [(0, rf 0), (1, rf 2), (2, rf 252), (3, rf 275), (4, iv x4), (5, iv y11)]) r_276_2659 (n_276_2659 _) (by decide) rfl ?_
    refine i_aload_n (a := 252) r_276_2661 (n_276_2661 _) rfl ?_
    refine i_aload_n (a := 0) r_276_2662 (n_276_2662 _) rfl ?_
    refine i_iload (x := x4) r_276_2663 (n_276_2663 _) rfl ?_
    refine i_iconst r_276_2665 (n_276_2665 _) ?_
    refine i_iadd r_276_2666 (n_276_2666 _) ?_
    refine i_script hS r_276_2667 (n_276_2667 _) g1.2.2 g1.1 g1.2.1 (fun q13 => ?_)
    refine i_aload_n (a := 0) r_276_2668 (n_276_2668 _) rfl ?_
    refine i_iload (x := x4) r_276_2669 (n_276_2669 _) rfl ?_
    refine i_iconst r_276_2671 (n_276_2671 _) ?_
    refine i_iadd r_276_2672 (n_276_2672 _) ?_
    refine i_script hS r_276_2673 (n_276_2673 _) g3.2.2 g3.1 g3.2.1 (fun q14 => ?_)
    refine i_i2l r_276_2674 (n_276_2674 _) ?_
    refine i_bipush r_276_2675 (n_276_2675 _) rfl ?_
    refine i_lshl r_276_2677 (n_276_2677 _) ?_
    refine i_aload_n (a := 0) r_276_2678 (n_276_2678 _) rfl ?_
    refine i_iload (x := x4) r_276_2679 (n_276_2679 _) rfl ?_
    refine i_iconst r_276_2681 (n_276_2681 _) ?_
    refine i_iadd r_276_2682 (n_276_2682 _) ?_
    refine i_script hS r_276_2683 (n_276_2683 _) g5.2.2 g5.1 g5.2.1 (fun q15 => ?_)
    refine i_i2l r_276_2684 (n_276_2684 _) ?_
    refine i_ldc2 r_276_2685 (n_276_2685 _) rfl ?_
    refine i_land r_276_2688 (n_276_2688 _) ?_
    refine i_lor r_276_2689 (n_276_2689 _) ?_
    refine i_aload_n (a := 0) r_276_2690 (n_276_2690 _) rfl ?_
    refine i_iload (x := x4) r_276_2691 (n_276_2691 _) rfl ?_
    refine i_iconst r_276_2693 (n_276_2693 _) ?_
    refine i_iadd r_276_2694 (n_276_2694 _) ?_
    refine i_script hS r_276_2695 (n_276_2695 _) g7.2.2 g7.1 g7.2.1 (fun q16 => ?_)
    refine i_aload_n (a := 0) r_276_2696 (n_276_2696 _) rfl ?_
    refine i_iload (x := x4) r_276_2697 (n_276_2697 _) rfl ?_
    refine i_iconst r_276_2699 (n_276_2699 _) ?_
    refine i_iadd r_276_2700 (n_276_2700 _) ?_
    refine i_script hS r_276_2701 (n_276_2701 _) g9.2.2 g9.1 g9.2.1 (fun q17 => ?_)
    refine wp_virt (b := 252) (rest := []) (Ls := [(0, rf 252), (1, iv ((xs (x4 + 1).toNat).toInt)), (2, .long ((zshlL (zi2l ((xs (x4 + 2).toNat).toInt)) 32) ||| ((zi2l ((xs (x4 + 3).toNat).toInt)) &&& 4294967295))), (4, iv ((xs (x4 + 4).toNat).toInt)), (5, iv ((xs (x4 + 5).toNat).toInt))]) r_276_2702 (n_276_2702 _) rfl ⟨rfl, rfl, by decide, by decide⟩ rfl rfl lf_252 ⟨rfl, Nat.le_of_ble_eq_true rfl, Nat.le_of_ble_eq_true rfl⟩ rfl h ?_
    intro o18 s18 h
    rcases h with ⟨y18, q19, rfl, h⟩ | ⟨e18, rfl, h⟩
    · refine .inl ⟨some (iv y18), rfl, ?_⟩
      show wp S 276 2705 [(0, rf 0), (1, rf 2), (2, rf 252), (3, rf 275), (4, iv x4), (5, iv y11)] [iv y18] s18 Q
      refine i_istore (l' := [(0, rf 0), (1, rf 2), (2, rf 252), (3, rf 275), (4, iv x4), (5, iv y11), (6, iv y18)]) r_276_2705 (n_276_2705 _) (by decide) rfl ?_
      refine i_aload_n (a := 252) r_276_2707 (n_276_2707 _) rfl ?_
      refine wp_virt (b := 252) (rest := []) (Ls := [(0, rf 252)]) r_276_2708 (n_276_2708 _) rfl ⟨rfl, rfl, by decide, by decide⟩ rfl rfl lf_252 ⟨rfl, Nat.le_of_ble_eq_true rfl, Nat.le_of_ble_eq_true rfl⟩ rfl K_Model_thrown ?_
      rintro _ _ ⟨rfl, rfl⟩
      refine .inl ⟨some (iv (zI s18 252 3)), rfl, ?_⟩
      show wp S 276 2711 [(0, rf 0), (1, rf 2), (2, rf 252), (3, rf 275), (4, iv x4), (5, iv y11), (6, iv y18)] [iv (zI s18 252 3)] s18 Q
      refine wp_rd (a := 252) (j := 3) (fun q21 => ?_)
      refine i_iload (x := y11) r_276_2711 (n_276_2711 _) rfl ?_
      refine i_icmp (t := 2718) r_276_2713 (n_276_2713 _) rfl (T_eq q21 q12) (fun c22 => ?_) (fun c22 => ?_)
      · replace h := h.1 c22
        refine i_iload (x := y11) r_276_2718 (n_276_2718 _) rfl ?_
        refine i_if (t := 2735) r_276_2720 (n_276_2720 _) rfl (T_ne q12 ⟨by omega, by omega⟩) (fun c23 => ?_) (fun c23 => ?_)
        · replace h := h.1 c23
          refine i_goto (t := 2908) r_276_2735 (n_276_2735 _) rfl ?_
          refine i_iinc (x := x4) (l' := [(0, rf 0), (1, rf 2), (2, rf 252), (3, rf 275), (4, iv (x4 + 7)), (5, iv y11), (6, iv y18)]) r_276_2908 (n_276_2908 _) (by decide) rfl rfl ?_
          refine i_goto (t := 23) r_276_2911 (n_276_2911 _) rfl ?_
          exact wp_pr (l' := [(0, rf 0), (1, rf 2), (2, rf 252), (3, rf 275), (4, iv (x4 + 7))]) rfl h
        · replace h := h.2 c23
          refine i_aload_n (a := 275) r_276_2723 (n_276_2723 _) rfl ?_
          refine i_iconst r_276_2724 (n_276_2724 _) ?_
          refine i_laload (a := 275) (j := 0) r_276_2725 (n_276_2725 _) lf_275 ⟨by omega, by omega⟩ (by omega) (by omega) ?_
          refine i_iload (x := y18) r_276_2726 (n_276_2726 _) rfl ?_
          refine i_i2l r_276_2728 (n_276_2728 _) ?_
          refine i_lcmp r_276_2729 (n_276_2729 _) ?_
          refine i_if (t := 2735) r_276_2730 (n_276_2730 _) rfl (T_eq (zcmp_rng _ _) ⟨by omega, by omega⟩) (fun c24 => ?_) (fun c24 => ?_)
          · replace h := h.1 c24
            refine i_goto (t := 2908) r_276_2735 (n_276_2735 _) rfl ?_
            refine i_iinc (x := x4) (l' := [(0, rf 0), (1, rf 2), (2, rf 252), (3, rf 275), (4, iv (x4 + 7)), (5, iv y11), (6, iv y18)]) r_276_2908 (n_276_2908 _) (by decide) rfl rfl ?_
            refine i_goto (t := 23) r_276_2911 (n_276_2911 _) rfl ?_
            exact wp_pr (l' := [(0, rf 0), (1, rf 2), (2, rf 252), (3, rf 275), (4, iv (x4 + 7))]) rfl h
          · replace h := h.2 c24
            refine i_iconst r_276_2733 (n_276_2733 _) ?_
            exact i_zreturn r_276_2734 (n_276_2734 _) rfl (by decide) h
      · replace h := h.2 c22
        refine i_iconst r_276_2716 (n_276_2716 _) ?_
        exact i_zreturn r_276_2717 (n_276_2717 _) rfl (by decide) h
    · skip
      exact h.elim
  · skip
    exact h.elim
theorem v_Law_law_2738 {S : Option (Nat × (Nat → Int32))} {L : Nat} {xs : Nat → Int32} (hS : S = some (L, xs)) {s : zSt} {Q : Option Value ⊕ Nat → zSt → Prop} {x4 : Int} 
    (h : (0 ≤ (x4 + 1) ∧ (x4 + 1) < (L : Int) ∧ rng (x4 + 1)) ∧ ((0 ≤ (x4 + 2) ∧ (x4 + 2) < (L : Int) ∧ rng (x4 + 2)) ∧ ((0 ≤ (x4 + 3) ∧ (x4 + 3) < (L : Int) ∧ rng (x4 + 3)) ∧ ((0 ≤ (x4 + 4) ∧ (x4 + 4) < (L : Int) ∧ rng (x4 + 4)) ∧ (wp S 172 0 [(0, rf 2), (1, iv ((xs (x4 + 1).toNat).toInt)), (2, .long ((zshlL (zi2l ((xs (x4 + 2).toNat).toInt)) 32) ||| ((zi2l ((xs (x4 + 3).toNat).toInt)) &&& 4294967295))), (4, iv ((xs (x4 + 4).toNat).toInt)), (5, rf 275)] [] s (fun o9 s9 => zkI (fun y9 => wp S 273 0 [(0, rf 252), (1, iv ((xs (x4 + 1).toNat).toInt)), (2, .long ((zshlL (zi2l ((xs (x4 + 2).toNat).toInt)) 32) ||| ((zi2l ((xs (x4 + 3).toNat).toInt)) &&& 4294967295))), (4, iv ((xs (x4 + 4).toNat).toInt))] [] s9 (fun o15 s15 => zkI (fun y15 => ((zI s15 252 3) = y9 → (y9 ≠ 0 → wp S 276 23 [(0, rf 0), (1, rf 2), (2, rf 252), (3, rf 275), (4, iv (x4 + 7))] [] s15 Q) ∧ (y9 = 0 → ((zcmp (zL s15 275 0) (zi2l y15)) = 0 → wp S 276 23 [(0, rf 0), (1, rf 2), (2, rf 252), (3, rf 275), (4, iv (x4 + 7))] [] s15 Q) ∧ ((zcmp (zL s15 275 0) (zi2l y15)) ≠ 0 → Q (rI 0) s15))) ∧ ((zI s15 252 3) ≠ y9 → Q (rI 0) s15)) (fun e15 => False) o15)) (fun e9 => False) o9)))))) :
    wp S 276 2738 [(0, rf 0), (1, rf 2), (2, rf 252), (3, rf 275), (4, iv x4)] [] s Q := by
  refine i_aload_n (a := 2) r_276_2738 rfl rfl ?_
  refine i_aload_n (a := 0) r_276_2739 (n_276_2739 _) rfl ?_
  refine i_iload (x := x4) r_276_2740 (n_276_2740 _) rfl ?_
  refine i_iconst r_276_2742 (n_276_2742 _) ?_
  refine i_iadd r_276_2743 (n_276_2743 _) ?_
  obtain ⟨g1, h⟩ := h
  refine i_script hS r_276_2744 (n_276_2744 _) g1.2.2 g1.1 g1.2.1 (fun q2 => ?_)
  refine i_aload_n (a := 0) r_276_2745 (n_276_2745 _) rfl ?_
  refine i_iload (x := x4) r_276_2746 (n_276_2746 _) rfl ?_
  refine i_iconst r_276_2748 (n_276_2748 _) ?_
  refine i_iadd r_276_2749 (n_276_2749 _) ?_
  obtain ⟨g3, h⟩ := h
  refine i_script hS r_276_2750 (n_276_2750 _) g3.2.2 g3.1 g3.2.1 (fun q4 => ?_)
  refine i_i2l r_276_2751 (n_276_2751 _) ?_
  refine i_bipush r_276_2752 (n_276_2752 _) rfl ?_
  refine i_lshl r_276_2754 (n_276_2754 _) ?_
  refine i_aload_n (a := 0) r_276_2755 (n_276_2755 _) rfl ?_
  refine i_iload (x := x4) r_276_2756 (n_276_2756 _) rfl ?_
  refine i_iconst r_276_2758 (n_276_2758 _) ?_
  refine i_iadd r_276_2759 (n_276_2759 _) ?_
  obtain ⟨g5, h⟩ := h
  refine i_script hS r_276_2760 (n_276_2760 _) g5.2.2 g5.1 g5.2.1 (fun q6 => ?_)
  refine i_i2l r_276_2761 (n_276_2761 _) ?_
  refine i_ldc2 r_276_2762 (n_276_2762 _) rfl ?_
  refine i_land r_276_2765 (n_276_2765 _) ?_
  refine i_lor r_276_2766 (n_276_2766 _) ?_
  refine i_aload_n (a := 0) r_276_2767 (n_276_2767 _) rfl ?_
  refine i_iload (x := x4) r_276_2768 (n_276_2768 _) rfl ?_
  refine i_iconst r_276_2770 (n_276_2770 _) ?_
  refine i_iadd r_276_2771 (n_276_2771 _) ?_
  obtain ⟨g7, h⟩ := h
  refine i_script hS r_276_2772 (n_276_2772 _) g7.2.2 g7.1 g7.2.1 (fun q8 => ?_)
  refine i_aload_n (a := 275) r_276_2773 (n_276_2773 _) rfl ?_
  refine wp_stat (rest := []) (Ls := [(0, rf 2), (1, iv ((xs (x4 + 1).toNat).toInt)), (2, .long ((zshlL (zi2l ((xs (x4 + 2).toNat).toInt)) 32) ||| ((zi2l ((xs (x4 + 3).toNat).toInt)) &&& 4294967295))), (4, iv ((xs (x4 + 4).toNat).toInt)), (5, rf 275)]) r_276_2774 (n_276_2774 _) rfl ⟨rfl, by decide, by decide, by decide⟩ rfl rfl ⟨rfl, Nat.le_of_ble_eq_true rfl, Nat.le_of_ble_eq_true rfl⟩ rfl h ?_
  intro o9 s9 h
  rcases h with ⟨y9, q10, rfl, h⟩ | ⟨e9, rfl, h⟩
  · refine .inl ⟨some (iv y9), rfl, ?_⟩
    show wp S 276 2777 [(0, rf 0), (1, rf 2), (2, rf 252), (3, rf 275), (4, iv x4)] [iv y9] s9 Q
    refine i_istore (l' := [(0, rf 0), (1, rf 2), (2, rf 252), (3, rf 275), (4, iv x4), (5, iv y9)]) r_276_2777 (n_276_2777 _) (by decide) rfl ?_
    refine i_aload_n (a := 252) r_276_2779 (n_276_2779 _) rfl ?_
    refine i_aload_n (a := 0) r_276_2780 (n_276_2780 _) rfl ?_
    refine i_iload (x := x4) r_276_2781 (n_276_2781 _) rfl ?_
    refine i_iconst r_276_2783 (n_276_2783 _) ?_
    refine i_iadd r_276_2784 (n_276_2784 _) ?_
    refine i_script hS r_276_2785 (n_276_2785 _) g1.2.2 g1.1 g1.2.1 (fun q11 => ?_)
    refine i_aload_n (a := 0) r_276_2786 (n_276_2786 _) rfl ?_
    refine i_iload (x := x4) r_276_2787 (n_276_2787 _) rfl ?_
    refine i_iconst r_276_2789 (n_276_2789 _) ?_
    refine i_iadd r_276_2790 (n_276_2790 _) ?_
    refine i_script hS r_276_2791 (n_276_2791 _) g3.2.2 g3.1 g3.2.1 (fun q12 => ?_)
    refine i_i2l r_276_2792 (n_276_2792 _) ?_
    refine i_bipush r_276_2793 (n_276_2793 _) rfl ?_
    refine i_lshl r_276_2795 (n_276_2795 _) ?_
    refine i_aload_n (a := 0) r_276_2796 (n_276_2796 _) rfl ?_
    refine i_iload (x := x4) r_276_2797 (n_276_2797 _) rfl ?_
    refine i_iconst r_276_2799 (n_276_2799 _) ?_
    refine i_iadd r_276_2800 (n_276_2800 _) ?_
    refine i_script hS r_276_2801 (n_276_2801 _) g5.2.2 g5.1 g5.2.1 (fun q13 => ?_)
    refine i_i2l r_276_2802 (n_276_2802 _) ?_
    refine i_ldc2 r_276_2803 (n_276_2803 _) rfl ?_
    refine i_land r_276_2806 (n_276_2806 _) ?_
    refine i_lor r_276_2807 (n_276_2807 _) ?_
    refine i_aload_n (a := 0) r_276_2808 (n_276_2808 _) rfl ?_
    refine i_iload (x := x4) r_276_2809 (n_276_2809 _) rfl ?_
    refine i_iconst r_276_2811 (n_276_2811 _) ?_
    refine i_iadd r_276_2812 (n_276_2812 _) ?_
    refine i_script hS r_276_2813 (n_276_2813 _) g7.2.2 g7.1 g7.2.1 (fun q14 => ?_)
    refine wp_virt (b := 252) (rest := []) (Ls := [(0, rf 252), (1, iv ((xs (x4 + 1).toNat).toInt)), (2, .long ((zshlL (zi2l ((xs (x4 + 2).toNat).toInt)) 32) ||| ((zi2l ((xs (x4 + 3).toNat).toInt)) &&& 4294967295))), (4, iv ((xs (x4 + 4).toNat).toInt))]) r_276_2814 (n_276_2814 _) rfl ⟨rfl, rfl, by decide, by decide⟩ rfl rfl lf_252 ⟨rfl, Nat.le_of_ble_eq_true rfl, Nat.le_of_ble_eq_true rfl⟩ rfl h ?_
    intro o15 s15 h
    rcases h with ⟨y15, q16, rfl, h⟩ | ⟨e15, rfl, h⟩
    · refine .inl ⟨some (iv y15), rfl, ?_⟩
      show wp S 276 2817 [(0, rf 0), (1, rf 2), (2, rf 252), (3, rf 275), (4, iv x4), (5, iv y9)] [iv y15] s15 Q
      refine i_istore (l' := [(0, rf 0), (1, rf 2), (2, rf 252), (3, rf 275), (4, iv x4), (5, iv y9), (6, iv y15)]) r_276_2817 (n_276_2817 _) (by decide) rfl ?_
      refine i_aload_n (a := 252) r_276_2819 (n_276_2819 _) rfl ?_
      refine wp_virt (b := 252) (rest := []) (Ls := [(0, rf 252)]) r_276_2820 (n_276_2820 _) rfl ⟨rfl, rfl, by decide, by decide⟩ rfl rfl lf_252 ⟨rfl, Nat.le_of_ble_eq_true rfl, Nat.le_of_ble_eq_true rfl⟩ rfl K_Model_thrown ?_
      rintro _ _ ⟨rfl, rfl⟩
      refine .inl ⟨some (iv (zI s15 252 3)), rfl, ?_⟩
      show wp S 276 2823 [(0, rf 0), (1, rf 2), (2, rf 252), (3, rf 275), (4, iv x4), (5, iv y9), (6, iv y15)] [iv (zI s15 252 3)] s15 Q
      refine wp_rd (a := 252) (j := 3) (fun q18 => ?_)
      refine i_iload (x := y9) r_276_2823 (n_276_2823 _) rfl ?_
      refine i_icmp (t := 2830) r_276_2825 (n_276_2825 _) rfl (T_eq q18 q10) (fun c19 => ?_) (fun c19 => ?_)
      · replace h := h.1 c19
        refine i_iload (x := y9) r_276_2830 (n_276_2830 _) rfl ?_
        refine i_if (t := 2847) r_276_2832 (n_276_2832 _) rfl (T_ne q10 ⟨by omega, by omega⟩) (fun c20 => ?_) (fun c20 => ?_)
        · replace h := h.1 c20
          refine i_goto (t := 2908) r_276_2847 (n_276_2847 _) rfl ?_
          refine i_iinc (x := x4) (l' := [(0, rf 0), (1, rf 2), (2, rf 252), (3, rf 275), (4, iv (x4 + 7)), (5, iv y9), (6, iv y15)]) r_276_2908 (n_276_2908 _) (by decide) rfl rfl ?_
          refine i_goto (t := 23) r_276_2911 (n_276_2911 _) rfl ?_
          exact wp_pr (l' := [(0, rf 0), (1, rf 2), (2, rf 252), (3, rf 275), (4, iv (x4 + 7))]) rfl h
        · replace h := h.2 c20
          refine i_aload_n (a := 275) r_276_2835 (n_276_2835 _) rfl ?_
          refine i_iconst r_276_2836 (n_276_2836 _) ?_
          refine i_laload (a := 275) (j := 0) r_276_2837 (n_276_2837 _) lf_275 ⟨by omega, by omega⟩ (by omega) (by omega) ?_
          refine i_iload (x := y15) r_276_2838 (n_276_2838 _) rfl ?_
          refine i_i2l r_276_2840 (n_276_2840 _) ?_
          refine i_lcmp r_276_2841 (n_276_2841 _) ?_
          refine i_if (t := 2847) r_276_2842 (n_276_2842 _) rfl (T_eq (zcmp_rng _ _) ⟨by omega, by omega⟩) (fun c21 => ?_) (fun c21 => ?_)
          · replace h := h.1 c21
            refine i_goto (t := 2908) r_276_2847 (n_276_2847 _) rfl ?_
            refine i_iinc (x := x4) (l' := [(0, rf 0), (1, rf 2), (2, rf 252), (3, rf 275), (4, iv (x4 + 7)), (5, iv y9), (6, iv y15)]) r_276_2908 (n_276_2908 _) (by decide) rfl rfl ?_
            refine i_goto (t := 23) r_276_2911 (n_276_2911 _) rfl ?_
            exact wp_pr (l' := [(0, rf 0), (1, rf 2), (2, rf 252), (3, rf 275), (4, iv (x4 + 7))]) rfl h
          · replace h := h.2 c21
            refine i_iconst r_276_2845 (n_276_2845 _) ?_
            exact i_zreturn r_276_2846 (n_276_2846 _) rfl (by decide) h
      · replace h := h.2 c19
        refine i_iconst r_276_2828 (n_276_2828 _) ?_
        exact i_zreturn r_276_2829 (n_276_2829 _) rfl (by decide) h
    · skip
      exact h.elim
  · skip
    exact h.elim
theorem v_Law_law_2850 {S : Option (Nat × (Nat → Int32))} {L : Nat} {xs : Nat → Int32} (hS : S = some (L, xs)) {s : zSt} {Q : Option Value ⊕ Nat → zSt → Prop} {x4 : Int} 
    (h : wp S 174 0 [(0, rf 2), (1, rf 275)] [] s (fun o1 s1 => zkI (fun y1 => wp S 178 0 [(0, rf 252)] [] s1 (fun o3 s3 => zkI (fun y3 => ((zI s3 252 3) = y1 → (y1 ≠ 0 → wp S 276 23 [(0, rf 0), (1, rf 2), (2, rf 252), (3, rf 275), (4, iv (x4 + 7))] [] s3 Q) ∧ (y1 = 0 → ((zcmp (zL s3 275 0) (zi2l y3)) = 0 → wp S 276 23 [(0, rf 0), (1, rf 2), (2, rf 252), (3, rf 275), (4, iv (x4 + 7))] [] s3 Q) ∧ ((zcmp (zL s3 275 0) (zi2l y3)) ≠ 0 → Q (rI 0) s3))) ∧ ((zI s3 252 3) ≠ y1 → Q (rI 0) s3)) (fun e3 => False) o3)) (fun e1 => False) o1)) :
    wp S 276 2850 [(0, rf 0), (1, rf 2), (2, rf 252), (3, rf 275), (4, iv x4)] [] s Q := by
  refine i_aload_n (a := 2) r_276_2850 rfl rfl ?_
  refine i_aload_n (a := 275) r_276_2851 (n_276_2851 _) rfl ?_
  refine wp_stat (rest := []) (Ls := [(0, rf 2), (1, rf 275)]) r_276_2852 (n_276_2852 _) rfl ⟨rfl, by decide, by decide, by decide⟩ rfl rfl ⟨rfl, Nat.le_of_ble_eq_true rfl, Nat.le_of_ble_eq_true rfl⟩ rfl h ?_
  intro o1 s1 h
  rcases h with ⟨y1, q2, rfl, h⟩ | ⟨e1, rfl, h⟩
  · refine .inl ⟨some (iv y1), rfl, ?_⟩
    show wp S 276 2855 [(0, rf 0), (1, rf 2), (2, rf 252), (3, rf 275), (4, iv x4)] [iv y1] s1 Q
    refine i_istore (l' := [(0, rf 0), (1, rf 2), (2, rf 252), (3, rf 275), (4, iv x4), (5, iv y1)]) r_276_2855 (n_276_2855 _) (by decide) rfl ?_
    refine i_aload_n (a := 252) r_276_2857 (n_276_2857 _) rfl ?_
    refine wp_virt (b := 252) (rest := []) (Ls := [(0, rf 252)]) r_276_2858 (n_276_2858 _) rfl ⟨rfl, rfl, by decide, by decide⟩ rfl rfl lf_252 ⟨rfl, Nat.le_of_ble_eq_true rfl, Nat.le_of_ble_eq_true rfl⟩ rfl h ?_
    intro o3 s3 h
    rcases h with ⟨y3, q4, rfl, h⟩ | ⟨e3, rfl, h⟩
    · refine .inl ⟨some (iv y3), rfl, ?_⟩
      show wp S 276 2861 [(0, rf 0), (1, rf 2), (2, rf 252), (3, rf 275), (4, iv x4), (5, iv y1)] [iv y3] s3 Q
      refine i_istore (l' := [(0, rf 0), (1, rf 2), (2, rf 252), (3, rf 275), (4, iv x4), (5, iv y1), (6, iv y3)]) r_276_2861 (n_276_2861 _) (by decide) rfl ?_
      refine i_aload_n (a := 252) r_276_2863 (n_276_2863 _) rfl ?_
      refine wp_virt (b := 252) (rest := []) (Ls := [(0, rf 252)]) r_276_2864 (n_276_2864 _) rfl ⟨rfl, rfl, by decide, by decide⟩ rfl rfl lf_252 ⟨rfl, Nat.le_of_ble_eq_true rfl, Nat.le_of_ble_eq_true rfl⟩ rfl K_Model_thrown ?_
      rintro _ _ ⟨rfl, rfl⟩
      refine .inl ⟨some (iv (zI s3 252 3)), rfl, ?_⟩
      show wp S 276 2867 [(0, rf 0), (1, rf 2), (2, rf 252), (3, rf 275), (4, iv x4), (5, iv y1), (6, iv y3)] [iv (zI s3 252 3)] s3 Q
      refine wp_rd (a := 252) (j := 3) (fun q6 => ?_)
      refine i_iload (x := y1) r_276_2867 (n_276_2867 _) rfl ?_
      refine i_icmp (t := 2874) r_276_2869 (n_276_2869 _) rfl (T_eq q6 q2) (fun c7 => ?_) (fun c7 => ?_)
      · replace h := h.1 c7
        refine i_iload (x := y1) r_276_2874 (n_276_2874 _) rfl ?_
        refine i_if (t := 2891) r_276_2876 (n_276_2876 _) rfl (T_ne q2 ⟨by omega, by omega⟩) (fun c8 => ?_) (fun c8 => ?_)
        · replace h := h.1 c8
          refine i_goto (t := 2908) r_276_2891 (n_276_2891 _) rfl ?_
          refine i_iinc (x := x4) (l' := [(0, rf 0), (1, rf 2), (2, rf 252), (3, rf 275), (4, iv (x4 + 7)), (5, iv y1), (6, iv y3)]) r_276_2908 (n_276_2908 _) (by decide) rfl rfl ?_
          refine i_goto (t := 23) r_276_2911 (n_276_2911 _) rfl ?_
          exact wp_pr (l' := [(0, rf 0), (1, rf 2), (2, rf 252), (3, rf 275), (4, iv (x4 + 7))]) rfl h
        · replace h := h.2 c8
          refine i_aload_n (a := 275) r_276_2879 (n_276_2879 _) rfl ?_
          refine i_iconst r_276_2880 (n_276_2880 _) ?_
          refine i_laload (a := 275) (j := 0) r_276_2881 (n_276_2881 _) lf_275 ⟨by omega, by omega⟩ (by omega) (by omega) ?_
          refine i_iload (x := y3) r_276_2882 (n_276_2882 _) rfl ?_
          refine i_i2l r_276_2884 (n_276_2884 _) ?_
          refine i_lcmp r_276_2885 (n_276_2885 _) ?_
          refine i_if (t := 2891) r_276_2886 (n_276_2886 _) rfl (T_eq (zcmp_rng _ _) ⟨by omega, by omega⟩) (fun c9 => ?_) (fun c9 => ?_)
          · replace h := h.1 c9
            refine i_goto (t := 2908) r_276_2891 (n_276_2891 _) rfl ?_
            refine i_iinc (x := x4) (l' := [(0, rf 0), (1, rf 2), (2, rf 252), (3, rf 275), (4, iv (x4 + 7)), (5, iv y1), (6, iv y3)]) r_276_2908 (n_276_2908 _) (by decide) rfl rfl ?_
            refine i_goto (t := 23) r_276_2911 (n_276_2911 _) rfl ?_
            exact wp_pr (l' := [(0, rf 0), (1, rf 2), (2, rf 252), (3, rf 275), (4, iv (x4 + 7))]) rfl h
          · replace h := h.2 c9
            refine i_iconst r_276_2889 (n_276_2889 _) ?_
            exact i_zreturn r_276_2890 (n_276_2890 _) rfl (by decide) h
      · replace h := h.2 c7
        refine i_iconst r_276_2872 (n_276_2872 _) ?_
        exact i_zreturn r_276_2873 (n_276_2873 _) rfl (by decide) h
    · skip
      exact h.elim
  · skip
    exact h.elim
theorem v_Law_law_2894 {S : Option (Nat × (Nat → Int32))} {L : Nat} {xs : Nat → Int32} (hS : S = some (L, xs)) {s : zSt} {Q : Option Value ⊕ Nat → zSt → Prop} {x4 : Int} 
    (h : wp S 26 0 [(0, rf 2)] [] s (fun o1 s1 => zkL (fun y1 => wp S 274 0 [(0, rf 252)] [] s1 (fun o3 s3 => zkL (fun y3 => ((zcmp y1 y3) = 0 → wp S 276 23 [(0, rf 0), (1, rf 2), (2, rf 252), (3, rf 275), (4, iv (x4 + 7))] [] s3 Q) ∧ ((zcmp y1 y3) ≠ 0 → Q (rI 0) s3)) (fun e3 => False) o3)) (fun e1 => False) o1)) :
    wp S 276 2894 [(0, rf 0), (1, rf 2), (2, rf 252), (3, rf 275), (4, iv x4)] [] s Q := by
  refine i_aload_n (a := 2) r_276_2894 rfl rfl ?_
  refine wp_virt (b := 2) (rest := []) (Ls := [(0, rf 2)]) r_276_2895 (n_276_2895 _) rfl ⟨rfl, rfl, by decide, by decide⟩ rfl rfl lf_2 ⟨rfl, Nat.le_of_ble_eq_true rfl, Nat.le_of_ble_eq_true rfl⟩ rfl h ?_
  intro o1 s1 h
  rcases h with ⟨y1, rfl, h⟩ | ⟨e1, rfl, h⟩
  · refine .inl ⟨some (.long y1), rfl, ?_⟩
    show wp S 276 2898 [(0, rf 0), (1, rf 2), (2, rf 252), (3, rf 275), (4, iv x4)] [.long y1] s1 Q
    refine i_aload_n (a := 252) r_276_2898 (n_276_2898 _) rfl ?_
    refine wp_virt (b := 252) (rest := [.long y1]) (Ls := [(0, rf 252)]) r_276_2899 (n_276_2899 _) rfl ⟨rfl, rfl, by decide, by decide⟩ rfl rfl lf_252 ⟨rfl, Nat.le_of_ble_eq_true rfl, Nat.le_of_ble_eq_true rfl⟩ rfl h ?_
    intro o3 s3 h
    rcases h with ⟨y3, rfl, h⟩ | ⟨e3, rfl, h⟩
    · refine .inl ⟨some (.long y3), rfl, ?_⟩
      show wp S 276 2902 [(0, rf 0), (1, rf 2), (2, rf 252), (3, rf 275), (4, iv x4)] [.long y3, .long y1] s3 Q
      refine i_lcmp r_276_2902 (n_276_2902 _) ?_
      refine i_if (t := 2908) r_276_2903 (n_276_2903 _) rfl (T_eq (zcmp_rng _ _) ⟨by omega, by omega⟩) (fun c5 => ?_) (fun c5 => ?_)
      · replace h := h.1 c5
        refine i_iinc (x := x4) (l' := [(0, rf 0), (1, rf 2), (2, rf 252), (3, rf 275), (4, iv (x4 + 7))]) r_276_2908 (n_276_2908 _) (by decide) rfl rfl ?_
        refine i_goto (t := 23) r_276_2911 (n_276_2911 _) rfl ?_
        exact wp_pr (l' := [(0, rf 0), (1, rf 2), (2, rf 252), (3, rf 275), (4, iv (x4 + 7))]) rfl h
      · replace h := h.2 c5
        refine i_iconst r_276_2906 (n_276_2906 _) ?_
        exact i_zreturn r_276_2907 (n_276_2907 _) rfl (by decide) h
    · skip
      exact h.elim
  · skip
    exact h.elim

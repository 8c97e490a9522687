/-! ===== the law: its cases ===== -/
theorem v_Law_law_204 {S : Option (Nat × (Nat → Int32))} {L : Nat} {xs : Nat → Int32} (hS : S = some (L, xs)) {s : zSt} {Q : Option Value ⊕ Nat → zSt → Prop} {x4 : Int} 
    (h : (0 ≤ (x4 + 1) ∧ (x4 + 1) < (L : Int) ∧ rng (x4 + 1)) ∧ (wp S 34 0 [(0, rf 2), (1, iv ((xs (x4 + 1).toNat).toInt)), (2, rf 275)] [] s (fun o3 s3 => zkI (fun y3 => wp S 180 0 [(0, rf 252), (1, iv ((xs (x4 + 1).toNat).toInt))] [] s3 (fun o6 s6 => zkI (fun y6 => ((zI s6 252 3) = y3 → (y3 ≠ 0 → wp S 276 23 [(0, rf 0), (1, rf 2), (2, rf 252), (3, rf 275), (4, iv (x4 + 7))] [] s6 Q) ∧ (y3 = 0 → ((zcmp (zL s6 275 0) (zi2l y6)) = 0 → wp S 276 23 [(0, rf 0), (1, rf 2), (2, rf 252), (3, rf 275), (4, iv (x4 + 7))] [] s6 Q) ∧ ((zcmp (zL s6 275 0) (zi2l y6)) ≠ 0 → Q (rI 0) s6))) ∧ ((zI s6 252 3) ≠ y3 → Q (rI 0) s6)) (fun e6 => False) o6)) (fun e3 => False) o3))) :
    wp S 276 204 [(0, rf 0), (1, rf 2), (2, rf 252), (3, rf 275), (4, iv x4)] [] s Q := by
  refine i_aload_n (a := 2) r_276_204 rfl rfl ?_
  refine i_aload_n (a := 0) r_276_205 (n_276_205 _) rfl ?_
  refine i_iload (x := x4) r_276_206 (n_276_206 _) rfl ?_
  refine i_iconst r_276_208 (n_276_208 _) ?_
  refine i_iadd r_276_209 (n_276_209 _) ?_
  obtain ⟨g1, h⟩ := h
  refine i_script hS r_276_210 (n_276_210 _) g1.2.2 g1.1 g1.2.1 (fun q2 => ?_)
  refine i_aload_n (a := 275) r_276_211 (n_276_211 _) rfl ?_
  refine wp_stat (rest := []) (Ls := [(0, rf 2), (1, iv ((xs (x4 + 1).toNat).toInt)), (2, rf 275)]) r_276_212 (n_276_212 _) rfl ⟨rfl, by decide, by decide, by decide⟩ rfl rfl ⟨rfl, Nat.le_of_ble_eq_true rfl, Nat.le_of_ble_eq_true rfl⟩ rfl h ?_
  intro o3 s3 h
  rcases h with ⟨y3, q4, rfl, h⟩ | ⟨e3, rfl, h⟩
  · refine .inl ⟨some (iv y3), rfl, ?_⟩
    show wp S 276 215 [(0, rf 0), (1, rf 2), (2, rf 252), (3, rf 275), (4, iv x4)] [iv y3] s3 Q
    refine i_istore (l' := [(0, rf 0), (1, rf 2), (2, rf 252), (3, rf 275), (4, iv x4), (5, iv y3)]) r_276_215 (n_276_215 _) (by decide) rfl ?_
    refine i_aload_n (a := 252) r_276_217 (n_276_217 _) rfl ?_
    refine i_aload_n (a := 0) r_276_218 (n_276_218 _) rfl ?_
    refine i_iload (x := x4) r_276_219 (n_276_219 _) rfl ?_
    refine i_iconst r_276_221 (n_276_221 _) ?_
    refine i_iadd r_276_222 (n_276_222 _) ?_
    refine i_script hS r_276_223 (n_276_223 _) g1.2.2 g1.1 g1.2.1 (fun q5 => ?_)
    refine wp_virt (b := 252) (rest := []) (Ls := [(0, rf 252), (1, iv ((xs (x4 + 1).toNat).toInt))]) r_276_224 (n_276_224 _) rfl ⟨rfl, rfl, by decide, by decide⟩ rfl rfl lf_252 ⟨rfl, Nat.le_of_ble_eq_true rfl, Nat.le_of_ble_eq_true rfl⟩ rfl h ?_
    intro o6 s6 h
    rcases h with ⟨y6, q7, rfl, h⟩ | ⟨e6, rfl, h⟩
    · refine .inl ⟨some (iv y6), rfl, ?_⟩
      show wp S 276 227 [(0, rf 0), (1, rf 2), (2, rf 252), (3, rf 275), (4, iv x4), (5, iv y3)] [iv y6] s6 Q
      refine i_istore (l' := [(0, rf 0), (1, rf 2), (2, rf 252), (3, rf 275), (4, iv x4), (5, iv y3), (6, iv y6)]) r_276_227 (n_276_227 _) (by decide) rfl ?_
      refine i_aload_n (a := 252) r_276_229 (n_276_229 _) rfl ?_
      refine wp_virt (b := 252) (rest := []) (Ls := [(0, rf 252)]) r_276_230 (n_276_230 _) rfl ⟨rfl, rfl, by decide, by decide⟩ rfl rfl lf_252 ⟨rfl, Nat.le_of_ble_eq_true rfl, Nat.le_of_ble_eq_true rfl⟩ rfl K_Model_thrown ?_
      rintro _ _ ⟨rfl, rfl⟩
      refine .inl ⟨some (iv (zI s6 252 3)), rfl, ?_⟩
      show wp S 276 233 [(0, rf 0), (1, rf 2), (2, rf 252), (3, rf 275), (4, iv x4), (5, iv y3), (6, iv y6)] [iv (zI s6 252 3)] s6 Q
      refine wp_rd (a := 252) (j := 3) (fun q9 => ?_)
      refine i_iload (x := y3) r_276_233 (n_276_233 _) rfl ?_
      refine i_icmp (t := 240) r_276_235 (n_276_235 _) rfl (T_eq q9 q4) (fun c10 => ?_) (fun c10 => ?_)
      · replace h := h.1 c10
        refine i_iload (x := y3) r_276_240 (n_276_240 _) rfl ?_
        refine i_if (t := 257) r_276_242 (n_276_242 _) rfl (T_ne q4 ⟨by omega, by omega⟩) (fun c11 => ?_) (fun c11 => ?_)
        · replace h := h.1 c11
          refine i_goto (t := 2908) r_276_257 (n_276_257 _) rfl ?_
          refine i_iinc (x := x4) (l' := [(0, rf 0), (1, rf 2), (2, rf 252), (3, rf 275), (4, iv (x4 + 7)), (5, iv y3), (6, iv y6)]) r_276_2908 (n_276_2908 _) (by decide) rfl rfl ?_
          refine i_goto (t := 23) r_276_2911 (n_276_2911 _) rfl ?_
          exact wp_pr (l' := [(0, rf 0), (1, rf 2), (2, rf 252), (3, rf 275), (4, iv (x4 + 7))]) rfl h
        · replace h := h.2 c11
          refine i_aload_n (a := 275) r_276_245 (n_276_245 _) rfl ?_
          refine i_iconst r_276_246 (n_276_246 _) ?_
          refine i_laload (a := 275) (j := 0) r_276_247 (n_276_247 _) lf_275 ⟨by omega, by omega⟩ (by omega) (by omega) ?_
          refine i_iload (x := y6) r_276_248 (n_276_248 _) rfl ?_
          refine i_i2l r_276_250 (n_276_250 _) ?_
          refine i_lcmp r_276_251 (n_276_251 _) ?_
          refine i_if (t := 257) r_276_252 (n_276_252 _) rfl (T_eq (zcmp_rng _ _) ⟨by omega, by omega⟩) (fun c12 => ?_) (fun c12 => ?_)
          · replace h := h.1 c12
            refine i_goto (t := 2908) r_276_257 (n_276_257 _) rfl ?_
            refine i_iinc (x := x4) (l' := [(0, rf 0), (1, rf 2), (2, rf 252), (3, rf 275), (4, iv (x4 + 7)), (5, iv y3), (6, iv y6)]) r_276_2908 (n_276_2908 _) (by decide) rfl rfl ?_
            refine i_goto (t := 23) r_276_2911 (n_276_2911 _) rfl ?_
            exact wp_pr (l' := [(0, rf 0), (1, rf 2), (2, rf 252), (3, rf 275), (4, iv (x4 + 7))]) rfl h
          · replace h := h.2 c12
            refine i_iconst r_276_255 (n_276_255 _) ?_
            exact i_zreturn r_276_256 (n_276_256 _) rfl (by decide) h
      · replace h := h.2 c10
        refine i_iconst r_276_238 (n_276_238 _) ?_
        exact i_zreturn r_276_239 (n_276_239 _) rfl (by decide) h
    · skip
      exact h.elim
  · skip
    exact h.elim
theorem v_Law_law_260 {S : Option (Nat × (Nat → Int32))} {L : Nat} {xs : Nat → Int32} (hS : S = some (L, xs)) {s : zSt} {Q : Option Value ⊕ Nat → zSt → Prop} {x4 : Int} 
    (h : (0 ≤ (x4 + 1) ∧ (x4 + 1) < (L : Int) ∧ rng (x4 + 1)) ∧ ((0 ≤ (x4 + 2) ∧ (x4 + 2) < (L : Int) ∧ rng (x4 + 2)) ∧ ((0 ≤ (x4 + 3) ∧ (x4 + 3) < (L : Int) ∧ rng (x4 + 3)) ∧ ((0 ≤ (x4 + 4) ∧ (x4 + 4) < (L : Int) ∧ rng (x4 + 4)) ∧ (wp S 52 0 [(0, rf 2), (1, iv ((xs (x4 + 1).toNat).toInt)), (2, iv ((xs (x4 + 2).toNat).toInt)), (3, iv ((xs (x4 + 3).toNat).toInt)), (4, iv ((xs (x4 + 4).toNat).toInt)), (5, rf 275)] [] s (fun o9 s9 => zkI (fun y9 => wp S 185 0 [(0, rf 252), (1, iv ((xs (x4 + 1).toNat).toInt)), (2, iv ((xs (x4 + 2).toNat).toInt)), (3, iv ((xs (x4 + 3).toNat).toInt)), (4, iv ((xs (x4 + 4).toNat).toInt))] [] s9 (fun o15 s15 => zkI (fun y15 => ((zI s15 252 3) = y9 → (y9 ≠ 0 → wp S 276 23 [(0, rf 0), (1, rf 2), (2, rf 252), (3, rf 275), (4, iv (x4 + 7))] [] s15 Q) ∧ (y9 = 0 → ((zcmp (zL s15 275 0) (zi2l y15)) = 0 → wp S 276 23 [(0, rf 0), (1, rf 2), (2, rf 252), (3, rf 275), (4, iv (x4 + 7))] [] s15 Q) ∧ ((zcmp (zL s15 275 0) (zi2l y15)) ≠ 0 → Q (rI 0) s15))) ∧ ((zI s15 252 3) ≠ y9 → Q (rI 0) s15)) (fun e15 => False) o15)) (fun e9 => False) o9)))))) :
    wp S 276 260 [(0, rf 0), (1, rf 2), (2, rf 252), (3, rf 275), (4, iv x4)] [] s Q := by
  refine i_aload_n (a := 2) r_276_260 rfl rfl ?_
  refine i_aload_n (a := 0) r_276_261 (n_276_261 _) rfl ?_
  refine i_iload (x := x4) r_276_262 (n_276_262 _) rfl ?_
  refine i_iconst r_276_264 (n_276_264 _) ?_
  refine i_iadd r_276_265 (n_276_265 _) ?_
  obtain ⟨g1, h⟩ := h
  refine i_script hS r_276_266 (n_276_266 _) g1.2.2 g1.1 g1.2.1 (fun q2 => ?_)
  refine i_aload_n (a := 0) r_276_267 (n_276_267 _) rfl ?_
  refine i_iload (x := x4) r_276_268 (n_276_268 _) rfl ?_
  refine i_iconst r_276_270 (n_276_270 _) ?_
  refine i_iadd r_276_271 (n_276_271 _) ?_
  obtain ⟨g3, h⟩ := h
  refine i_script hS r_276_272 (n_276_272 _) g3.2.2 g3.1 g3.2.1 (fun q4 => ?_)
  refine i_aload_n (a := 0) r_276_273 (n_276_273 _) rfl ?_
  refine i_iload (x := x4) r_276_274 (n_276_274 _) rfl ?_
  refine i_iconst r_276_276 (n_276_276 _) ?_
  refine i_iadd r_276_277 (n_276_277 _) ?_
  obtain ⟨g5, h⟩ := h
  refine i_script hS r_276_278 (n_276_278 _) g5.2.2 g5.1 g5.2.1 (fun q6 => ?_)
  refine i_aload_n (a := 0) r_276_279 (n_276_279 _) rfl ?_
  refine i_iload (x := x4) r_276_280 (n_276_280 _) rfl ?_
  refine i_iconst r_276_282 (n_276_282 _) ?_
  refine i_iadd r_276_283 (n_276_283 _) ?_
  obtain ⟨g7, h⟩ := h
  refine i_script hS r_276_284 (n_276_284 _) g7.2.2 g7.1 g7.2.1 (fun q8 => ?_)
  refine i_aload_n (a := 275) r_276_285 (n_276_285 _) rfl ?_
  refine wp_stat (rest := []) (Ls := [(0, rf 2), (1, iv ((xs (x4 + 1).toNat).toInt)), (2, iv ((xs (x4 + 2).toNat).toInt)), (3, iv ((xs (x4 + 3).toNat).toInt)), (4, iv ((xs (x4 + 4).toNat).toInt)), (5, rf 275)]) r_276_286 (n_276_286 _) rfl ⟨rfl, by decide, by decide, by decide⟩ rfl rfl ⟨rfl, Nat.le_of_ble_eq_true rfl, Nat.le_of_ble_eq_true rfl⟩ rfl h ?_
  intro o9 s9 h
  rcases h with ⟨y9, q10, rfl, h⟩ | ⟨e9, rfl, h⟩
  · refine .inl ⟨some (iv y9), rfl, ?_⟩
    show wp S 276 289 [(0, rf 0), (1, rf 2), (2, rf 252), (3, rf 275), (4, iv x4)] [iv y9] s9 Q
    refine i_istore (l' := [(0, rf 0), (1, rf 2), (2, rf 252), (3, rf 275), (4, iv x4), (5, iv y9)]) r_276_289 (n_276_289 _) (by decide) rfl ?_
    refine i_aload_n (a := 252) r_276_291 (n_276_291 _) rfl ?_
    refine i_aload_n (a := 0) r_276_292 (n_276_292 _) rfl ?_
    refine i_iload (x := x4) r_276_293 (n_276_293 _) rfl ?_
    refine i_iconst r_276_295 (n_276_295 _) ?_
    refine i_iadd r_276_296 (n_276_296 _) ?_
    refine i_script hS r_276_297 (n_276_297 _) g1.2.2 g1.1 g1.2.1 (fun q11 => ?_)
    refine i_aload_n (a := 0) r_276_298 (n_276_298 _) rfl ?_
    refine i_iload (x := x4) r_276_299 (n_276_299 _) rfl ?_
    refine i_iconst r_276_301 (n_276_301 _) ?_
    refine i_iadd r_276_302 (n_276_302 _) ?_
    refine i_script hS r_276_303 (n_276_303 _) g3.2.2 g3.1 g3.2.1 (fun q12 => ?_)
    refine i_aload_n (a := 0) r_276_304 (n_276_304 _) rfl ?_
    refine i_iload (x := x4) r_276_305 (n_276_305 _) rfl ?_
    refine i_iconst r_276_307 (n_276_307 _) ?_
    refine i_iadd r_276_308 (n_276_308 _) ?_
    refine i_script hS r_276_309 (n_276_309 _) g5.2.2 g5.1 g5.2.1 (fun q13 => ?_)
    refine i_aload_n (a := 0) r_276_310 (n_276_310 _) rfl ?_
    refine i_iload (x := x4) r_276_311 (n_276_311 _) rfl ?_
    refine i_iconst r_276_313 (n_276_313 _) ?_
    refine i_iadd r_276_314 (n_276_314 _) ?_
    refine i_script hS r_276_315 (n_276_315 _) g7.2.2 g7.1 g7.2.1 (fun q14 => ?_)
    refine wp_virt (b := 252) (rest := []) (Ls := [(0, rf 252), (1, iv ((xs (x4 + 1).toNat).toInt)), (2, iv ((xs (x4 + 2).toNat).toInt)), (3, iv ((xs (x4 + 3).toNat).toInt)), (4, iv ((xs (x4 + 4).toNat).toInt))]) r_276_316 (n_276_316 _) rfl ⟨rfl, rfl, by decide, by decide⟩ rfl rfl lf_252 ⟨rfl, Nat.le_of_ble_eq_true rfl, Nat.le_of_ble_eq_true rfl⟩ rfl h ?_
    intro o15 s15 h
    rcases h with ⟨y15, q16, rfl, h⟩ | ⟨e15, rfl, h⟩
    · refine .inl ⟨some (iv y15), rfl, ?_⟩
      show wp S 276 319 [(0, rf 0), (1, rf 2), (2, rf 252), (3, rf 275), (4, iv x4), (5, iv y9)] [iv y15] s15 Q
      refine i_istore (l' := [(0, rf 0), (1, rf 2), (2, rf 252), (3, rf 275), (4, iv x4), (5, iv y9), (6, iv y15)]) r_276_319 (n_276_319 _) (by decide) rfl ?_
      refine i_aload_n (a := 252) r_276_321 (n_276_321 _) rfl ?_
      refine wp_virt (b := 252) (rest := []) (Ls := [(0, rf 252)]) r_276_322 (n_276_322 _) rfl ⟨rfl, rfl, by decide, by decide⟩ rfl rfl lf_252 ⟨rfl, Nat.le_of_ble_eq_true rfl, Nat.le_of_ble_eq_true rfl⟩ rfl K_Model_thrown ?_
      rintro _ _ ⟨rfl, rfl⟩
      refine .inl ⟨some (iv (zI s15 252 3)), rfl, ?_⟩
      show wp S 276 325 [(0, rf 0), (1, rf 2), (2, rf 252), (3, rf 275), (4, iv x4), (5, iv y9), (6, iv y15)] [iv (zI s15 252 3)] s15 Q
      refine wp_rd (a := 252) (j := 3) (fun q18 => ?_)
      refine i_iload (x := y9) r_276_325 (n_276_325 _) rfl ?_
      refine i_icmp (t := 332) r_276_327 (n_276_327 _) rfl (T_eq q18 q10) (fun c19 => ?_) (fun c19 => ?_)
      · replace h := h.1 c19
        refine i_iload (x := y9) r_276_332 (n_276_332 _) rfl ?_
        refine i_if (t := 349) r_276_334 (n_276_334 _) rfl (T_ne q10 ⟨by omega, by omega⟩) (fun c20 => ?_) (fun c20 => ?_)
        · replace h := h.1 c20
          refine i_goto (t := 2908) r_276_349 (n_276_349 _) rfl ?_
          refine i_iinc (x := x4) (l' := [(0, rf 0), (1, rf 2), (2, rf 252), (3, rf 275), (4, iv (x4 + 7)), (5, iv y9), (6, iv y15)]) r_276_2908 (n_276_2908 _) (by decide) rfl rfl ?_
          refine i_goto (t := 23) r_276_2911 (n_276_2911 _) rfl ?_
          exact wp_pr (l' := [(0, rf 0), (1, rf 2), (2, rf 252), (3, rf 275), (4, iv (x4 + 7))]) rfl h
        · replace h := h.2 c20
          refine i_aload_n (a := 275) r_276_337 (n_276_337 _) rfl ?_
          refine i_iconst r_276_338 (n_276_338 _) ?_
          refine i_laload (a := 275) (j := 0) r_276_339 (n_276_339 _) lf_275 ⟨by omega, by omega⟩ (by omega) (by omega) ?_
          refine i_iload (x := y15) r_276_340 (n_276_340 _) rfl ?_
          refine i_i2l r_276_342 (n_276_342 _) ?_
          refine i_lcmp r_276_343 (n_276_343 _) ?_
          refine i_if (t := 349) r_276_344 (n_276_344 _) rfl (T_eq (zcmp_rng _ _) ⟨by omega, by omega⟩) (fun c21 => ?_) (fun c21 => ?_)
          · replace h := h.1 c21
            refine i_goto (t := 2908) r_276_349 (n_276_349 _) rfl ?_
            refine i_iinc (x := x4) (l' := [(0, rf 0), (1, rf 2), (2, rf 252), (3, rf 275), (4, iv (x4 + 7)), (5, iv y9), (6, iv y15)]) r_276_2908 (n_276_2908 _) (by decide) rfl rfl ?_
            refine i_goto (t := 23) r_276_2911 (n_276_2911 _) rfl ?_
            exact wp_pr (l' := [(0, rf 0), (1, rf 2), (2, rf 252), (3, rf 275), (4, iv (x4 + 7))]) rfl h
          · replace h := h.2 c21
            refine i_iconst r_276_347 (n_276_347 _) ?_
            exact i_zreturn r_276_348 (n_276_348 _) rfl (by decide) h
      · replace h := h.2 c19
        refine i_iconst r_276_330 (n_276_330 _) ?_
        exact i_zreturn r_276_331 (n_276_331 _) rfl (by decide) h
    · skip
      exact h.elim
  · skip
    exact h.elim
theorem v_Law_law_352 {S : Option (Nat × (Nat → Int32))} {L : Nat} {xs : Nat → Int32} (hS : S = some (L, xs)) {s : zSt} {Q : Option Value ⊕ Nat → zSt → Prop} {x4 : Int} 
    (h : wp S 10 0 [(0, rf 2)] [] s (fun o1 s1 => zkI (fun y1 => wp S 204 0 [(0, rf 252)] [] s1 (fun o3 s3 => zkI (fun y3 => (y1 = y3 → wp S 276 23 [(0, rf 0), (1, rf 2), (2, rf 252), (3, rf 275), (4, iv (x4 + 7))] [] s3 Q) ∧ (y1 ≠ y3 → Q (rI 0) s3)) (fun e3 => False) o3)) (fun e1 => False) o1)) :
    wp S 276 352 [(0, rf 0), (1, rf 2), (2, rf 252), (3, rf 275), (4, iv x4)] [] s Q := by
  refine i_aload_n (a := 2) r_276_352 rfl rfl ?_
  refine wp_virt (b := 2) (rest := []) (Ls := [(0, rf 2)]) r_276_353 (n_276_353 _) rfl ⟨rfl, rfl, by decide, by decide⟩ rfl rfl lf_2 ⟨rfl, Nat.le_of_ble_eq_true rfl, Nat.le_of_ble_eq_true rfl⟩ rfl h ?_
  intro o1 s1 h
  rcases h with ⟨y1, q2, rfl, h⟩ | ⟨e1, rfl, h⟩
  · refine .inl ⟨some (iv y1), rfl, ?_⟩
    show wp S 276 356 [(0, rf 0), (1, rf 2), (2, rf 252), (3, rf 275), (4, iv x4)] [iv y1] s1 Q
    refine i_aload_n (a := 252) r_276_356 (n_276_356 _) rfl ?_
    refine wp_virt (b := 252) (rest := [iv y1]) (Ls := [(0, rf 252)]) r_276_357 (n_276_357 _) rfl ⟨rfl, rfl, by decide, by decide⟩ rfl rfl lf_252 ⟨rfl, Nat.le_of_ble_eq_true rfl, Nat.le_of_ble_eq_true rfl⟩ rfl h ?_
    intro o3 s3 h
    rcases h with ⟨y3, q4, rfl, h⟩ | ⟨e3, rfl, h⟩
    · refine .inl ⟨some (iv y3), rfl, ?_⟩
      show wp S 276 360 [(0, rf 0), (1, rf 2), (2, rf 252), (3, rf 275), (4, iv x4)] [iv y3, iv y1] s3 Q
      refine i_icmp (t := 2908) r_276_360 (n_276_360 _) rfl (T_eq q2 q4) (fun c5 => ?_) (fun c5 => ?_)
      · replace h := h.1 c5
        refine i_iinc (x := x4) (l' := [(0, rf 0), (1, rf 2), (2, rf 252), (3, rf 275), (4, iv (x4 + 7))]) r_276_2908 (n_276_2908 _) (by decide) rfl rfl ?_
        refine i_goto (t := 23) r_276_2911 (n_276_2911 _) rfl ?_
        exact wp_pr (l' := [(0, rf 0), (1, rf 2), (2, rf 252), (3, rf 275), (4, iv (x4 + 7))]) rfl h
      · replace h := h.2 c5
        refine i_iconst r_276_363 (n_276_363 _) ?_
        exact i_zreturn r_276_364 (n_276_364 _) rfl (by decide) h
    · skip
      exact h.elim
  · skip
    exact h.elim
theorem v_Law_law_365 {S : Option (Nat × (Nat → Int32))} {L : Nat} {xs : Nat → Int32} (hS : S = some (L, xs)) {s : zSt} {Q : Option Value ⊕ Nat → zSt → Prop} {x4 : Int} 
    (h : (0 ≤ (x4 + 1) ∧ (x4 + 1) < (L : Int) ∧ rng (x4 + 1)) ∧ ((0 ≤ (x4 + 2) ∧ (x4 + 2) < (L : Int) ∧ rng (x4 + 2)) ∧ (wp S 58 0 [(0, rf 2), (1, iv ((xs (x4 + 1).toNat).toInt)), (2, iv ((xs (x4 + 2).toNat).toInt)), (3, rf 275)] [] s (fun o5 s5 => zkI (fun y5 => wp S 205 0 [(0, rf 252), (1, iv ((xs (x4 + 1).toNat).toInt)), (2, iv ((xs (x4 + 2).toNat).toInt))] [] s5 (fun o9 s9 => zkI (fun y9 => ((zI s9 252 3) = y5 → (y5 ≠ 0 → wp S 276 23 [(0, rf 0), (1, rf 2), (2, rf 252), (3, rf 275), (4, iv (x4 + 7))] [] s9 Q) ∧ (y5 = 0 → ((zcmp (zL s9 275 0) (zi2l y9)) = 0 → wp S 276 23 [(0, rf 0), (1, rf 2), (2, rf 252), (3, rf 275), (4, iv (x4 + 7))] [] s9 Q) ∧ ((zcmp (zL s9 275 0) (zi2l y9)) ≠ 0 → Q (rI 0) s9))) ∧ ((zI s9 252 3) ≠ y5 → Q (rI 0) s9)) (fun e9 => False) o9)) (fun e5 => False) o5)))) :
    wp S 276 365 [(0, rf 0), (1, rf 2), (2, rf 252), (3, rf 275), (4, iv x4)] [] s Q := by
  refine i_aload_n (a := 2) r_276_365 rfl rfl ?_
  refine i_aload_n (a := 0) r_276_366 (n_276_366 _) rfl ?_
  refine i_iload (x := x4) r_276_367 (n_276_367 _) rfl ?_
  refine i_iconst r_276_369 (n_276_369 _) ?_
  refine i_iadd r_276_370 (n_276_370 _) ?_
  obtain ⟨g1, h⟩ := h
  refine i_script hS r_276_371 (n_276_371 _) g1.2.2 g1.1 g1.2.1 (fun q2 => ?_)
  refine i_aload_n (a := 0) r_276_372 (n_276_372 _) rfl ?_
  refine i_iload (x := x4) r_276_373 (n_276_373 _) rfl ?_
  refine i_iconst r_276_375 (n_276_375 _) ?_
  refine i_iadd r_276_376 (n_276_376 _) ?_
  obtain ⟨g3, h⟩ := h
  refine i_script hS r_276_377 (n_276_377 _) g3.2.2 g3.1 g3.2.1 (fun q4 => ?_)
  refine i_aload_n (a := 275) r_276_378 (n_276_378 _) rfl ?_
  refine wp_stat (rest := []) (Ls := [(0, rf 2), (1, iv ((xs (x4 + 1).toNat).toInt)), (2, iv ((xs (x4 + 2).toNat).toInt)), (3, rf 275)]) r_276_379 (n_276_379 _) rfl ⟨rfl, by decide, by decide, by decide⟩ rfl rfl ⟨rfl, Nat.le_of_ble_eq_true rfl, Nat.le_of_ble_eq_true rfl⟩ rfl h ?_
  intro o5 s5 h
  rcases h with ⟨y5, q6, rfl, h⟩ | ⟨e5, rfl, h⟩
  · refine .inl ⟨some (iv y5), rfl, ?_⟩
    show wp S 276 382 [(0, rf 0), (1, rf 2), (2, rf 252), (3, rf 275), (4, iv x4)] [iv y5] s5 Q
    refine i_istore (l' := [(0, rf 0), (1, rf 2), (2, rf 252), (3, rf 275), (4, iv x4), (5, iv y5)]) r_276_382 (n_276_382 _) (by decide) rfl ?_
    refine i_aload_n (a := 252) r_276_384 (n_276_384 _) rfl ?_
    refine i_aload_n (a := 0) r_276_385 (n_276_385 _) rfl ?_
    refine i_iload (x := x4) r_276_386 (n_276_386 _) rfl ?_
    refine i_iconst r_276_388 (n_276_388 _) ?_
    refine i_iadd r_276_389 (n_276_389 _) ?_
    refine i_script hS r_276_390 (n_276_390 _) g1.2.2 g1.1 g1.2.1 (fun q7 => ?_)
    refine i_aload_n (a := 0) r_276_391 (n_276_391 _) rfl ?_
    refine i_iload (x := x4) r_276_392 (n_276_392 _) rfl ?_
    refine i_iconst r_276_394 (n_276_394 _) ?_
    refine i_iadd r_276_395 (n_276_395 _) ?_
    refine i_script hS r_276_396 (n_276_396 _) g3.2.2 g3.1 g3.2.1 (fun q8 => ?_)
    refine wp_virt (b := 252) (rest := []) (Ls := [(0, rf 252), (1, iv ((xs (x4 + 1).toNat).toInt)), (2, iv ((xs (x4 + 2).toNat).toInt))]) r_276_397 (n_276_397 _) rfl ⟨rfl, rfl, by decide, by decide⟩ rfl rfl lf_252 ⟨rfl, Nat.le_of_ble_eq_true rfl, Nat.le_of_ble_eq_true rfl⟩ rfl h ?_
    intro o9 s9 h
    rcases h with ⟨y9, q10, rfl, h⟩ | ⟨e9, rfl, h⟩
    · refine .inl ⟨some (iv y9), rfl, ?_⟩
      show wp S 276 400 [(0, rf 0), (1, rf 2), (2, rf 252), (3, rf 275), (4, iv x4), (5, iv y5)] [iv y9] s9 Q
      refine i_istore (l' := [(0, rf 0), (1, rf 2), (2, rf 252), (3, rf 275), (4, iv x4), (5, iv y5), (6, iv y9)]) r_276_400 (n_276_400 _) (by decide) rfl ?_
      refine i_aload_n (a := 252) r_276_402 (n_276_402 _) rfl ?_
      refine wp_virt (b := 252) (rest := []) (Ls := [(0, rf 252)]) r_276_403 (n_276_403 _) rfl ⟨rfl, rfl, by decide, by decide⟩ rfl rfl lf_252 ⟨rfl, Nat.le_of_ble_eq_true rfl, Nat.le_of_ble_eq_true rfl⟩ rfl K_Model_thrown ?_
      rintro _ _ ⟨rfl, rfl⟩
      refine .inl ⟨some (iv (zI s9 252 3)), rfl, ?_⟩
      show wp S 276 406 [(0, rf 0), (1, rf 2), (2, rf 252), (3, rf 275), (4, iv x4), (5, iv y5), (6, iv y9)] [iv (zI s9 252 3)] s9 Q
      refine wp_rd (a := 252) (j := 3) (fun q12 => ?_)
      refine i_iload (x := y5) r_276_406 (n_276_406 _) rfl ?_
      refine i_icmp (t := 413) r_276_408 (n_276_408 _) rfl (T_eq q12 q6) (fun c13 => ?_) (fun c13 => ?_)
      · replace h := h.1 c13
        refine i_iload (x := y5) r_276_413 (n_276_413 _) rfl ?_
        refine i_if (t := 430) r_276_415 (n_276_415 _) rfl (T_ne q6 ⟨by omega, by omega⟩) (fun c14 => ?_) (fun c14 => ?_)
        · replace h := h.1 c14
          refine i_goto (t := 2908) r_276_430 (n_276_430 _) rfl ?_
          refine i_iinc (x := x4) (l' := [(0, rf 0), (1, rf 2), (2, rf 252), (3, rf 275), (4, iv (x4 + 7)), (5, iv y5), (6, iv y9)]) r_276_2908 (n_276_2908 _) (by decide) rfl rfl ?_
          refine i_goto (t := 23) r_276_2911 (n_276_2911 _) rfl ?_
          exact wp_pr (l' := [(0, rf 0), (1, rf 2), (2, rf 252), (3, rf 275), (4, iv (x4 + 7))]) rfl h
        · replace h := h.2 c14
          refine i_aload_n (a := 275) r_276_418 (n_276_418 _) rfl ?_
          refine i_iconst r_276_419 (n_276_419 _) ?_
          refine i_laload (a := 275) (j := 0) r_276_420 (n_276_420 _) lf_275 ⟨by omega, by omega⟩ (by omega) (by omega) ?_
          refine i_iload (x := y9) r_276_421 (n_276_421 _) rfl ?_
          refine i_i2l r_276_423 (n_276_423 _) ?_
          refine i_lcmp r_276_424 (n_276_424 _) ?_
          refine i_if (t := 430) r_276_425 (n_276_425 _) rfl (T_eq (zcmp_rng _ _) ⟨by omega, by omega⟩) (fun c15 => ?_) (fun c15 => ?_)
          · replace h := h.1 c15
            refine i_goto (t := 2908) r_276_430 (n_276_430 _) rfl ?_
            refine i_iinc (x := x4) (l' := [(0, rf 0), (1, rf 2), (2, rf 252), (3, rf 275), (4, iv (x4 + 7)), (5, iv y5), (6, iv y9)]) r_276_2908 (n_276_2908 _) (by decide) rfl rfl ?_
            refine i_goto (t := 23) r_276_2911 (n_276_2911 _) rfl ?_
            exact wp_pr (l' := [(0, rf 0), (1, rf 2), (2, rf 252), (3, rf 275), (4, iv (x4 + 7))]) rfl h
          · replace h := h.2 c15
            refine i_iconst r_276_428 (n_276_428 _) ?_
            exact i_zreturn r_276_429 (n_276_429 _) rfl (by decide) h
      · replace h := h.2 c13
        refine i_iconst r_276_411 (n_276_411 _) ?_
        exact i_zreturn r_276_412 (n_276_412 _) rfl (by decide) h
    · skip
      exact h.elim
  · skip
    exact h.elim
theorem v_Law_law_433 {S : Option (Nat × (Nat → Int32))} {L : Nat} {xs : Nat → Int32} (hS : S = some (L, xs)) {s : zSt} {Q : Option Value ⊕ Nat → zSt → Prop} {x4 : Int} 
    (h : (0 ≤ (x4 + 1) ∧ (x4 + 1) < (L : Int) ∧ rng (x4 + 1)) ∧ ((0 ≤ (x4 + 2) ∧ (x4 + 2) < (L : Int) ∧ rng (x4 + 2)) ∧ ((0 ≤ (x4 + 3) ∧ (x4 + 3) < (L : Int) ∧ rng (x4 + 3)) ∧ (wp S 61 0 [(0, rf 2), (1, iv ((xs (x4 + 1).toNat).toInt)), (2, iv ((xs (x4 + 2).toNat).toInt)), (3, iv ((xs (x4 + 3).toNat).toInt)), (4, rf 275)] [] s (fun o7 s7 => zkI (fun y7 => wp S 208 0 [(0, rf 252), (1, iv ((xs (x4 + 1).toNat).toInt)), (2, iv ((xs (x4 + 2).toNat).toInt)), (3, iv ((xs (x4 + 3).toNat).toInt))] [] s7 (fun o12 s12 => zkI (fun y12 => ((zI s12 252 3) = y7 → (y7 ≠ 0 → wp S 276 23 [(0, rf 0), (1, rf 2), (2, rf 252), (3, rf 275), (4, iv (x4 + 7))] [] s12 Q) ∧ (y7 = 0 → ((zcmp (zL s12 275 0) (zi2l y12)) = 0 → wp S 276 23 [(0, rf 0), (1, rf 2), (2, rf 252), (3, rf 275), (4, iv (x4 + 7))] [] s12 Q) ∧ ((zcmp (zL s12 275 0) (zi2l y12)) ≠ 0 → Q (rI 0) s12))) ∧ ((zI s12 252 3) ≠ y7 → Q (rI 0) s12)) (fun e12 => False) o12)) (fun e7 => False) o7))))) :
    wp S 276 433 [(0, rf 0), (1, rf 2), (2, rf 252), (3, rf 275), (4, iv x4)] [] s Q := by
  refine i_aload_n (a := 2) r_276_433 rfl rfl ?_
  refine i_aload_n (a := 0) r_276_434 (n_276_434 _) rfl ?_
  refine i_iload (x := x4) r_276_435 (n_276_435 _) rfl ?_
  refine i_iconst r_276_437 (n_276_437 _) ?_
  refine i_iadd r_276_438 (n_276_438 _) ?_
  obtain ⟨g1, h⟩ := h
  refine i_script hS r_276_439 (n_276_439 _) g1.2.2 g1.1 g1.2.1 (fun q2 => ?_)
  refine i_aload_n (a := 0) r_276_440 (n_276_440 _) rfl ?_
  refine i_iload (x := x4) r_276_441 (n_276_441 _) rfl ?_
  refine i_iconst r_276_443 (n_276_443 _) ?_
  refine i_iadd r_276_444 (n_276_444 _) ?_
  obtain ⟨g3, h⟩ := h
  refine i_script hS r_276_445 (n_276_445 _) g3.2.2 g3.1 g3.2.1 (fun q4 => ?_)
  refine i_aload_n (a := 0) r_276_446 (n_276_446 _) rfl ?_
  refine i_iload (x := x4) r_276_447 (n_276_447 _) rfl ?_
  refine i_iconst r_276_449 (n_276_449 _) ?_
  refine i_iadd r_276_450 (n_276_450 _) ?_
  obtain ⟨g5, h⟩ := h
  refine i_script hS r_276_451 (n_276_451 _) g5.2.2 g5.1 g5.2.1 (fun q6 => ?_)
  refine i_aload_n (a := 275) r_276_452 (n_276_452 _) rfl ?_
  refine wp_stat (rest := []) (Ls := [(0, rf 2), (1, iv ((xs (x4 + 1).toNat).toInt)), (2, iv ((xs (x4 + 2).toNat).toInt)), (3, iv ((xs (x4 + 3).toNat).toInt)), (4, rf 275)]) r_276_453 (n_276_453 _) rfl ⟨rfl, by decide, by decide, by decide⟩ rfl rfl ⟨rfl, Nat.le_of_ble_eq_true rfl, Nat.le_of_ble_eq_true rfl⟩ rfl h ?_
  intro o7 s7 h
  rcases h with ⟨y7, q8, rfl, h⟩ | ⟨e7, rfl, h⟩
  · refine .inl ⟨some (iv y7), rfl, ?_⟩
    show wp S 276 456 [(0, rf 0), (1, rf 2), (2, rf 252), (3, rf 275), (4, iv x4)] [iv y7] s7 Q
    refine i_istore (l' := [(0, rf 0), (1, rf 2), (2, rf 252), (3, rf 275), (4, iv x4), (5, iv y7)]) r_276_456 (n_276_456 _) (by decide) rfl ?_
    refine i_aload_n (a := 252) r_276_458 (n_276_458 _) rfl ?_
    refine i_aload_n (a := 0) r_276_459 (n_276_459 _) rfl ?_
    refine i_iload (x := x4) r_276_460 (n_276_460 _) rfl ?_
    refine i_iconst r_276_462 (n_276_462 _) ?_
    refine i_iadd r_276_463 (n_276_463 _) ?_
    refine i_script hS r_276_464 (n_276_464 _) g1.2.2 g1.1 g1.2.1 (fun q9 => ?_)
    refine i_aload_n (a := 0) r_276_465 (n_276_465 _) rfl ?_
    refine i_iload (x := x4) r_276_466 (n_276_466 _) rfl ?_
    refine i_iconst r_276_468 (n_276_468 _) ?_
    refine i_iadd r_276_469 (n_276_469 _) ?_
    refine i_script hS r_276_470 (n_276_470 _) g3.2.2 g3.1 g3.2.1 (fun q10 => ?_)
    refine i_aload_n (a := 0) r_276_471 (n_276_471 _) rfl ?_
    refine i_iload (x := x4) r_276_472 (n_276_472 _) rfl ?_
    refine i_iconst r_276_474 (n_276_474 _) ?_
    refine i_iadd r_276_475 (n_276_475 _) ?_
    refine i_script hS r_276_476 (n_276_476 _) g5.2.2 g5.1 g5.2.1 (fun q11 => ?_)
    refine wp_virt (b := 252) (rest := []) (Ls := [(0, rf 252), (1, iv ((xs (x4 + 1).toNat).toInt)), (2, iv ((xs (x4 + 2).toNat).toInt)), (3, iv ((xs (x4 + 3).toNat).toInt))]) r_276_477 (n_276_477 _) rfl ⟨rfl, rfl, by decide, by decide⟩ rfl rfl lf_252 ⟨rfl, Nat.le_of_ble_eq_true rfl, Nat.le_of_ble_eq_true rfl⟩ rfl h ?_
    intro o12 s12 h
    rcases h with ⟨y12, q13, rfl, h⟩ | ⟨e12, rfl, h⟩
    · refine .inl ⟨some (iv y12), rfl, ?_⟩
      show wp S 276 480 [(0, rf 0), (1, rf 2), (2, rf 252), (3, rf 275), (4, iv x4), (5, iv y7)] [iv y12] s12 Q
      refine i_istore (l' := [(0, rf 0), (1, rf 2), (2, rf 252), (3, rf 275), (4, iv x4), (5, iv y7), (6, iv y12)]) r_276_480 (n_276_480 _) (by decide) rfl ?_
      refine i_aload_n (a := 252) r_276_482 (n_276_482 _) rfl ?_
      refine wp_virt (b := 252) (rest := []) (Ls := [(0, rf 252)]) r_276_483 (n_276_483 _) rfl ⟨rfl, rfl, by decide, by decide⟩ rfl rfl lf_252 ⟨rfl, Nat.le_of_ble_eq_true rfl, Nat.le_of_ble_eq_true rfl⟩ rfl K_Model_thrown ?_
      rintro _ _ ⟨rfl, rfl⟩
      refine .inl ⟨some (iv (zI s12 252 3)), rfl, ?_⟩
      show wp S 276 486 [(0, rf 0), (1, rf 2), (2, rf 252), (3, rf 275), (4, iv x4), (5, iv y7), (6, iv y12)] [iv (zI s12 252 3)] s12 Q
      refine wp_rd (a := 252) (j := 3) (fun q15 => ?_)
      refine i_iload (x := y7) r_276_486 (n_276_486 _) rfl ?_
      refine i_icmp (t := 493) r_276_488 (n_276_488 _) rfl (T_eq q15 q8) (fun c16 => ?_) (fun c16 => ?_)
      · replace h := h.1 c16
        refine i_iload (x := y7) r_276_493 (n_276_493 _) rfl ?_
        refine i_if (t := 510) r_276_495 (n_276_495 _) rfl (T_ne q8 ⟨by omega, by omega⟩) (fun c17 => ?_) (fun c17 => ?_)
        · replace h := h.1 c17
          refine i_goto (t := 2908) r_276_510 (n_276_510 _) rfl ?_
          refine i_iinc (x := x4) (l' := [(0, rf 0), (1, rf 2), (2, rf 252), (3, rf 275), (4, iv (x4 + 7)), (5, iv y7), (6, iv y12)]) r_276_2908 (n_276_2908 _) (by decide) rfl rfl ?_
          refine i_goto (t := 23) r_276_2911 (n_276_2911 _) rfl ?_
          exact wp_pr (l' := [(0, rf 0), (1, rf 2), (2, rf 252), (3, rf 275), (4, iv (x4 + 7))]) rfl h
        · replace h := h.2 c17
          refine i_aload_n (a := 275) r_276_498 (n_276_498 _) rfl ?_
          refine i_iconst r_276_499 (n_276_499 _) ?_
          refine i_laload (a := 275) (j := 0) r_276_500 (n_276_500 _) lf_275 ⟨by omega, by omega⟩ (by omega) (by omega) ?_
          refine i_iload (x := y12) r_276_501 (n_276_501 _) rfl ?_
          refine i_i2l r_276_503 (n_276_503 _) ?_
          refine i_lcmp r_276_504 (n_276_504 _) ?_
          refine i_if (t := 510) r_276_505 (n_276_505 _) rfl (T_eq (zcmp_rng _ _) ⟨by omega, by omega⟩) (fun c18 => ?_) (fun c18 => ?_)
          · replace h := h.1 c18
            refine i_goto (t := 2908) r_276_510 (n_276_510 _) rfl ?_
            refine i_iinc (x := x4) (l' := [(0, rf 0), (1, rf 2), (2, rf 252), (3, rf 275), (4, iv (x4 + 7)), (5, iv y7), (6, iv y12)]) r_276_2908 (n_276_2908 _) (by decide) rfl rfl ?_
            refine i_goto (t := 23) r_276_2911 (n_276_2911 _) rfl ?_
            exact wp_pr (l' := [(0, rf 0), (1, rf 2), (2, rf 252), (3, rf 275), (4, iv (x4 + 7))]) rfl h
          · replace h := h.2 c18
            refine i_iconst r_276_508 (n_276_508 _) ?_
            exact i_zreturn r_276_509 (n_276_509 _) rfl (by decide) h
      · replace h := h.2 c16
        refine i_iconst r_276_491 (n_276_491 _) ?_
        exact i_zreturn r_276_492 (n_276_492 _) rfl (by decide) h
    · skip
      exact h.elim
  · skip
    exact h.elim
theorem v_Law_law_513 {S : Option (Nat × (Nat → Int32))} {L : Nat} {xs : Nat → Int32} (hS : S = some (L, xs)) {s : zSt} {Q : Option Value ⊕ Nat → zSt → Prop} {x4 : Int} 
    (h : (0 ≤ (x4 + 1) ∧ (x4 + 1) < (L : Int) ∧ rng (x4 + 1)) ∧ ((0 ≤ (x4 + 2) ∧ (x4 + 2) < (L : Int) ∧ rng (x4 + 2)) ∧ ((0 ≤ (x4 + 3) ∧ (x4 + 3) < (L : Int) ∧ rng (x4 + 3)) ∧ (wp S 63 0 [(0, rf 2), (1, iv ((xs (x4 + 1).toNat).toInt)), (2, iv ((xs (x4 + 2).toNat).toInt)), (3, iv ((xs (x4 + 3).toNat).toInt)), (4, rf 275)] [] s (fun o7 s7 => zkI (fun y7 => wp S 210 0 [(0, rf 252), (1, iv ((xs (x4 + 1).toNat).toInt)), (2, iv ((xs (x4 + 2).toNat).toInt)), (3, iv ((xs (x4 + 3).toNat).toInt))] [] s7 (fun o12 s12 => zkI (fun y12 => ((zI s12 252 3) = y7 → (y7 ≠ 0 → wp S 276 23 [(0, rf 0), (1, rf 2), (2, rf 252), (3, rf 275), (4, iv (x4 + 7))] [] s12 Q) ∧ (y7 = 0 → ((zcmp (zL s12 275 0) (zi2l y12)) = 0 → wp S 276 23 [(0, rf 0), (1, rf 2), (2, rf 252), (3, rf 275), (4, iv (x4 + 7))] [] s12 Q) ∧ ((zcmp (zL s12 275 0) (zi2l y12)) ≠ 0 → Q (rI 0) s12))) ∧ ((zI s12 252 3) ≠ y7 → Q (rI 0) s12)) (fun e12 => False) o12)) (fun e7 => False) o7))))) :
    wp S 276 513 [(0, rf 0), (1, rf 2), (2, rf 252), (3, rf 275), (4, iv x4)] [] s Q := by
  refine i_aload_n (a := 2) r_276_513 rfl rfl ?_
  refine i_aload_n (a := 0) r_276_514 (n_276_514 _) rfl ?_
  refine i_iload (x := x4) r_276_515 (n_276_515 _) rfl ?_
  refine i_iconst r_276_517 (n_276_517 _) ?_
  refine i_iadd r_276_518 (n_276_518 _) ?_
  obtain ⟨g1, h⟩ := h
  refine i_script hS r_276_519 (n_276_519 _) g1.2.2 g1.1 g1.2.1 (fun q2 => ?_)
  refine i_aload_n (a := 0) r_276_520 (n_276_520 _) rfl ?_
  refine i_iload (x := x4) r_276_521 (n_276_521 _) rfl ?_
  refine i_iconst r_276_523 (n_276_523 _) ?_
  refine i_iadd r_276_524 (n_276_524 _) ?_
  obtain ⟨g3, h⟩ := h
  refine i_script hS r_276_525 (n_276_525 _) g3.2.2 g3.1 g3.2.1 (fun q4 => ?_)
  refine i_aload_n (a := 0) r_276_526 (n_276_526 _) rfl ?_
  refine i_iload (x := x4) r_276_527 (n_276_527 _) rfl ?_
  refine i_iconst r_276_529 (n_276_529 _) ?_
  refine i_iadd r_276_530 (n_276_530 _) ?_
  obtain ⟨g5, h⟩ := h
  refine i_script hS r_276_531 (n_276_531 _) g5.2.2 g5.1 g5.2.1 (fun q6 => ?_)
  refine i_aload_n (a := 275) r_276_532 (n_276_532 _) rfl ?_
  refine wp_stat (rest := []) (Ls := [(0, rf 2), (1, iv ((xs (x4 + 1).toNat).toInt)), (2, iv ((xs (x4 + 2).toNat).toInt)), (3, iv ((xs (x4 + 3).toNat).toInt)), (4, rf 275)]) r_276_533 (n_276_533 _) rfl ⟨rfl, by decide, by decide, by decide⟩ rfl rfl ⟨rfl, Nat.le_of_ble_eq_true rfl, Nat.le_of_ble_eq_true rfl⟩ rfl h ?_
  intro o7 s7 h
  rcases h with ⟨y7, q8, rfl, h⟩ | ⟨e7, rfl, h⟩
  · refine .inl ⟨some (iv y7), rfl, ?_⟩
    show wp S 276 536 [(0, rf 0), (1, rf 2), (2, rf 252), (3, rf 275), (4, iv x4)] [iv y7] s7 Q
    refine i_istore (l' := [(0, rf 0), (1, rf 2), (2, rf 252), (3, rf 275), (4, iv x4), (5, iv y7)]) r_276_536 (n_276_536 _) (by decide) rfl ?_
    refine i_aload_n (a := 252) r_276_538 (n_276_538 _) rfl ?_
    refine i_aload_n (a := 0) r_276_539 (n_276_539 _) rfl ?_
    refine i_iload (x := x4) r_276_540 (n_276_540 _) rfl ?_
    refine i_iconst r_276_542 (n_276_542 _) ?_
    refine i_iadd r_276_543 (n_276_543 _) ?_
    refine i_script hS r_276_544 (n_276_544 _) g1.2.2 g1.1 g1.2.1 (fun q9 => ?_)
    refine i_aload_n (a := 0) r_276_545 (n_276_545 _) rfl ?_
    refine i_iload (x := x4) r_276_546 (n_276_546 _) rfl ?_
    refine i_iconst r_276_548 (n_276_548 _) ?_
    refine i_iadd r_276_549 (n_276_549 _) ?_
    refine i_script hS r_276_550 (n_276_550 _) g3.2.2 g3.1 g3.2.1 (fun q10 => ?_)
    refine i_aload_n (a := 0) r_276_551 (n_276_551 _) rfl ?_
    refine i_iload (x := x4) r_276_552 (n_276_552 _) rfl ?_
    refine i_iconst r_276_554 (n_276_554 _) ?_
    refine i_iadd r_276_555 (n_276_555 _) ?_
    refine i_script hS r_276_556 (n_276_556 _) g5.2.2 g5.1 g5.2.1 (fun q11 => ?_)
    refine wp_virt (b := 252) (rest := []) (Ls := [(0, rf 252), (1, iv ((xs (x4 + 1).toNat).toInt)), (2, iv ((xs (x4 + 2).toNat).toInt)), (3, iv ((xs (x4 + 3).toNat).toInt))]) r_276_557 (n_276_557 _) rfl ⟨rfl, rfl, by decide, by decide⟩ rfl rfl lf_252 ⟨rfl, Nat.le_of_ble_eq_true rfl, Nat.le_of_ble_eq_true rfl⟩ rfl h ?_
    intro o12 s12 h
    rcases h with ⟨y12, q13, rfl, h⟩ | ⟨e12, rfl, h⟩
    · refine .inl ⟨some (iv y12), rfl, ?_⟩
      show wp S 276 560 [(0, rf 0), (1, rf 2), (2, rf 252), (3, rf 275), (4, iv x4), (5, iv y7)] [iv y12] s12 Q
      refine i_istore (l' := [(0, rf 0), (1, rf 2), (2, rf 252), (3, rf 275), (4, iv x4), (5, iv y7), (6, iv y12)]) r_276_560 (n_276_560 _) (by decide) rfl ?_
      refine i_aload_n (a := 252) r_276_562 (n_276_562 _) rfl ?_
      refine wp_virt (b := 252) (rest := []) (Ls := [(0, rf 252)]) r_276_563 (n_276_563 _) rfl ⟨rfl, rfl, by decide, by decide⟩ rfl rfl lf_252 ⟨rfl, Nat.le_of_ble_eq_true rfl, Nat.le_of_ble_eq_true rfl⟩ rfl K_Model_thrown ?_
      rintro _ _ ⟨rfl, rfl⟩
      refine .inl ⟨some (iv (zI s12 252 3)), rfl, ?_⟩
      show wp S 276 566 [(0, rf 0), (1, rf 2), (2, rf 252), (3, rf 275), (4, iv x4), (5, iv y7), (6, iv y12)] [iv (zI s12 252 3)] s12 Q
      refine wp_rd (a := 252) (j := 3) (fun q15 => ?_)
      refine i_iload (x := y7) r_276_566 (n_276_566 _) rfl ?_
      refine i_icmp (t := 573) r_276_568 (n_276_568 _) rfl (T_eq q15 q8) (fun c16 => ?_) (fun c16 => ?_)
      · replace h := h.1 c16
        refine i_iload (x := y7) r_276_573 (n_276_573 _) rfl ?_
        refine i_if (t := 590) r_276_575 (n_276_575 _) rfl (T_ne q8 ⟨by omega, by omega⟩) (fun c17 => ?_) (fun c17 => ?_)
        · replace h := h.1 c17
          refine i_goto (t := 2908) r_276_590 (n_276_590 _) rfl ?_
          refine i_iinc (x := x4) (l' := [(0, rf 0), (1, rf 2), (2, rf 252), (3, rf 275), (4, iv (x4 + 7)), (5, iv y7), (6, iv y12)]) r_276_2908 (n_276_2908 _) (by decide) rfl rfl ?_
          refine i_goto (t := 23) r_276_2911 (n_276_2911 _) rfl ?_
          exact wp_pr (l' := [(0, rf 0), (1, rf 2), (2, rf 252), (3, rf 275), (4, iv (x4 + 7))]) rfl h
        · replace h := h.2 c17
          refine i_aload_n (a := 275) r_276_578 (n_276_578 _) rfl ?_
          refine i_iconst r_276_579 (n_276_579 _) ?_
          refine i_laload (a := 275) (j := 0) r_276_580 (n_276_580 _) lf_275 ⟨by omega, by omega⟩ (by omega) (by omega) ?_
          refine i_iload (x := y12) r_276_581 (n_276_581 _) rfl ?_
          refine i_i2l r_276_583 (n_276_583 _) ?_
          refine i_lcmp r_276_584 (n_276_584 _) ?_
          refine i_if (t := 590) r_276_585 (n_276_585 _) rfl (T_eq (zcmp_rng _ _) ⟨by omega, by omega⟩) (fun c18 => ?_) (fun c18 => ?_)
          · replace h := h.1 c18
            refine i_goto (t := 2908) r_276_590 (n_276_590 _) rfl ?_
            refine i_iinc (x := x4) (l' := [(0, rf 0), (1, rf 2), (2, rf 252), (3, rf 275), (4, iv (x4 + 7)), (5, iv y7), (6, iv y12)]) r_276_2908 (n_276_2908 _) (by decide) rfl rfl ?_
            refine i_goto (t := 23) r_276_2911 (n_276_2911 _) rfl ?_
            exact wp_pr (l' := [(0, rf 0), (1, rf 2), (2, rf 252), (3, rf 275), (4, iv (x4 + 7))]) rfl h
          · replace h := h.2 c18
            refine i_iconst r_276_588 (n_276_588 _) ?_
            exact i_zreturn r_276_589 (n_276_589 _) rfl (by decide) h
      · replace h := h.2 c16
        refine i_iconst r_276_571 (n_276_571 _) ?_
        exact i_zreturn r_276_572 (n_276_572 _) rfl (by decide) h
    · skip
      exact h.elim
  · skip
    exact h.elim
theorem v_Law_law_593 {S : Option (Nat × (Nat → Int32))} {L : Nat} {xs : Nat → Int32} (hS : S = some (L, xs)) {s : zSt} {Q : Option Value ⊕ Nat → zSt → Prop} {x4 : Int} 
    (h : (0 ≤ (x4 + 1) ∧ (x4 + 1) < (L : Int) ∧ rng (x4 + 1)) ∧ ((0 ≤ (x4 + 2) ∧ (x4 + 2) < (L : Int) ∧ rng (x4 + 2)) ∧ ((0 ≤ (x4 + 3) ∧ (x4 + 3) < (L : Int) ∧ rng (x4 + 3)) ∧ (wp S 66 0 [(0, rf 2), (1, iv ((xs (x4 + 1).toNat).toInt)), (2, iv ((xs (x4 + 2).toNat).toInt)), (3, iv ((xs (x4 + 3).toNat).toInt)), (4, rf 275)] [] s (fun o7 s7 => zkI (fun y7 => wp S 212 0 [(0, rf 252), (1, iv ((xs (x4 + 1).toNat).toInt)), (2, iv ((xs (x4 + 2).toNat).toInt)), (3, iv ((xs (x4 + 3).toNat).toInt))] [] s7 (fun o12 s12 => zkI (fun y12 => ((zI s12 252 3) = y7 → (y7 ≠ 0 → wp S 276 23 [(0, rf 0), (1, rf 2), (2, rf 252), (3, rf 275), (4, iv (x4 + 7))] [] s12 Q) ∧ (y7 = 0 → ((zcmp (zL s12 275 0) (zi2l y12)) = 0 → wp S 276 23 [(0, rf 0), (1, rf 2), (2, rf 252), (3, rf 275), (4, iv (x4 + 7))] [] s12 Q) ∧ ((zcmp (zL s12 275 0) (zi2l y12)) ≠ 0 → Q (rI 0) s12))) ∧ ((zI s12 252 3) ≠ y7 → Q (rI 0) s12)) (fun e12 => False) o12)) (fun e7 => False) o7))))) :
    wp S 276 593 [(0, rf 0), (1, rf 2), (2, rf 252), (3, rf 275), (4, iv x4)] [] s Q := by
  refine i_aload_n (a := 2) r_276_593 rfl rfl ?_
  refine i_aload_n (a := 0) r_276_594 (n_276_594 _) rfl ?_
  refine i_iload (x := x4) r_276_595 (n_276_595 _) rfl ?_
  refine i_iconst r_276_597 (n_276_597 _) ?_
  refine i_iadd r_276_598 (n_276_598 _) ?_
  obtain ⟨g1, h⟩ := h
  refine i_script hS r_276_599 (n_276_599 _) g1.2.2 g1.1 g1.2.1 (fun q2 => ?_)
  refine i_aload_n (a := 0) r_276_600 (n_276_600 _) rfl ?_
  refine i_iload (x := x4) r_276_601 (n_276_601 _) rfl ?_
  refine i_iconst r_276_603 (n_276_603 _) ?_
  refine i_iadd r_276_604 (n_276_604 _) ?_
  obtain ⟨g3, h⟩ := h
  refine i_script hS r_276_605 (n_276_605 _) g3.2.2 g3.1 g3.2.1 (fun q4 => ?_)
  refine i_aload_n (a := 0) r_276_606 (n_276_606 _) rfl ?_
  refine i_iload (x := x4) r_276_607 (n_276_607 _) rfl ?_
  refine i_iconst r_276_609 (n_276_609 _) ?_
  refine i_iadd r_276_610 (n_276_610 _) ?_
  obtain ⟨g5, h⟩ := h
  refine i_script hS r_276_611 (n_276_611 _) g5.2.2 g5.1 g5.2.1 (fun q6 => ?_)
  refine i_aload_n (a := 275) r_276_612 (n_276_612 _) rfl ?_
  refine wp_stat (rest := []) (Ls := [(0, rf 2), (1, iv ((xs (x4 + 1).toNat).toInt)), (2, iv ((xs (x4 + 2).toNat).toInt)), (3, iv ((xs (x4 + 3).toNat).toInt)), (4, rf 275)]) r_276_613 (n_276_613 _) rfl ⟨rfl, by decide, by decide, by decide⟩ rfl rfl ⟨rfl, Nat.le_of_ble_eq_true rfl, Nat.le_of_ble_eq_true rfl⟩ rfl h ?_
  intro o7 s7 h
  rcases h with ⟨y7, q8, rfl, h⟩ | ⟨e7, rfl, h⟩
  · refine .inl ⟨some (iv y7), rfl, ?_⟩
    show wp S 276 616 [(0, rf 0), (1, rf 2), (2, rf 252), (3, rf 275), (4, iv x4)] [iv y7] s7 Q
    refine i_istore (l' := [(0, rf 0), (1, rf 2), (2, rf 252), (3, rf 275), (4, iv x4), (5, iv y7)]) r_276_616 (n_276_616 _) (by decide) rfl ?_
    refine i_aload_n (a := 252) r_276_618 (n_276_618 _) rfl ?_
    refine i_aload_n (a := 0) r_276_619 (n_276_619 _) rfl ?_
    refine i_iload (x := x4) r_276_620 (n_276_620 _) rfl ?_
    refine i_iconst r_276_622 (n_276_622 _) ?_
    refine i_iadd r_276_623 (n_276_623 _) ?_
    refine i_script hS r_276_624 (n_276_624 _) g1.2.2 g1.1 g1.2.1 (fun q9 => ?_)
    refine i_aload_n (a := 0) r_276_625 (n_276_625 _) rfl ?_
    refine i_iload (x := x4) r_276_626 (n_276_626 _) rfl ?_
    refine i_iconst r_276_628 (n_276_628 _) ?_
    refine i_iadd r_276_629 (n_276_629 _) ?_
    refine i_script hS r_276_630 (n_276_630 _) g3.2.2 g3.1 g3.2.1 (fun q10 => ?_)
    refine i_aload_n (a := 0) r_276_631 (n_276_631 _) rfl ?_
    refine i_iload (x := x4) r_276_632 (n_276_632 _) rfl ?_
    refine i_iconst r_276_634 (n_276_634 _) ?_
    refine i_iadd r_276_635 (n_276_635 _) ?_
    refine i_script hS r_276_636 (n_276_636 _) g5.2.2 g5.1 g5.2.1 (fun q11 => ?_)
    refine wp_virt (b := 252) (rest := []) (Ls := [(0, rf 252), (1, iv ((xs (x4 + 1).toNat).toInt)), (2, iv ((xs (x4 + 2).toNat).toInt)), (3, iv ((xs (x4 + 3).toNat).toInt))]) r_276_637 (n_276_637 _) rfl ⟨rfl, rfl, by decide, by decide⟩ rfl rfl lf_252 ⟨rfl, Nat.le_of_ble_eq_true rfl, Nat.le_of_ble_eq_true rfl⟩ rfl h ?_
    intro o12 s12 h
    rcases h with ⟨y12, q13, rfl, h⟩ | ⟨e12, rfl, h⟩
    · refine .inl ⟨some (iv y12), rfl, ?_⟩
      show wp S 276 640 [(0, rf 0), (1, rf 2), (2, rf 252), (3, rf 275), (4, iv x4), (5, iv y7)] [iv y12] s12 Q
      refine i_istore (l' := [(0, rf 0), (1, rf 2), (2, rf 252), (3, rf 275), (4, iv x4), (5, iv y7), (6, iv y12)]) r_276_640 (n_276_640 _) (by decide) rfl ?_
      refine i_aload_n (a := 252) r_276_642 (n_276_642 _) rfl ?_
      refine wp_virt (b := 252) (rest := []) (Ls := [(0, rf 252)]) r_276_643 (n_276_643 _) rfl ⟨rfl, rfl, by decide, by decide⟩ rfl rfl lf_252 ⟨rfl, Nat.le_of_ble_eq_true rfl, Nat.le_of_ble_eq_true rfl⟩ rfl K_Model_thrown ?_
      rintro _ _ ⟨rfl, rfl⟩
      refine .inl ⟨some (iv (zI s12 252 3)), rfl, ?_⟩
      show wp S 276 646 [(0, rf 0), (1, rf 2), (2, rf 252), (3, rf 275), (4, iv x4), (5, iv y7), (6, iv y12)] [iv (zI s12 252 3)] s12 Q
      refine wp_rd (a := 252) (j := 3) (fun q15 => ?_)
      refine i_iload (x := y7) r_276_646 (n_276_646 _) rfl ?_
      refine i_icmp (t := 653) r_276_648 (n_276_648 _) rfl (T_eq q15 q8) (fun c16 => ?_) (fun c16 => ?_)
      · replace h := h.1 c16
        refine i_iload (x := y7) r_276_653 (n_276_653 _) rfl ?_
        refine i_if (t := 670) r_276_655 (n_276_655 _) rfl (T_ne q8 ⟨by omega, by omega⟩) (fun c17 => ?_) (fun c17 => ?_)
        · replace h := h.1 c17
          refine i_goto (t := 2908) r_276_670 (n_276_670 _) rfl ?_
          refine i_iinc (x := x4) (l' := [(0, rf 0), (1, rf 2), (2, rf 252), (3, rf 275), (4, iv (x4 + 7)), (5, iv y7), (6, iv y12)]) r_276_2908 (n_276_2908 _) (by decide) rfl rfl ?_
          refine i_goto (t := 23) r_276_2911 (n_276_2911 _) rfl ?_
          exact wp_pr (l' := [(0, rf 0), (1, rf 2), (2, rf 252), (3, rf 275), (4, iv (x4 + 7))]) rfl h
        · replace h := h.2 c17
          refine i_aload_n (a := 275) r_276_658 (n_276_658 _) rfl ?_
          refine i_iconst r_276_659 (n_276_659 _) ?_
          refine i_laload (a := 275) (j := 0) r_276_660 (n_276_660 _) lf_275 ⟨by omega, by omega⟩ (by omega) (by omega) ?_
          refine i_iload (x := y12) r_276_661 (n_276_661 _) rfl ?_
          refine i_i2l r_276_663 (n_276_663 _) ?_
          refine i_lcmp r_276_664 (n_276_664 _) ?_
          refine i_if (t := 670) r_276_665 (n_276_665 _) rfl (T_eq (zcmp_rng _ _) ⟨by omega, by omega⟩) (fun c18 => ?_) (fun c18 => ?_)
          · replace h := h.1 c18
            refine i_goto (t := 2908) r_276_670 (n_276_670 _) rfl ?_
            refine i_iinc (x := x4) (l' := [(0, rf 0), (1, rf 2), (2, rf 252), (3, rf 275), (4, iv (x4 + 7)), (5, iv y7), (6, iv y12)]) r_276_2908 (n_276_2908 _) (by decide) rfl rfl ?_
            refine i_goto (t := 23) r_276_2911 (n_276_2911 _) rfl ?_
            exact wp_pr (l' := [(0, rf 0), (1, rf 2), (2, rf 252), (3, rf 275), (4, iv (x4 + 7))]) rfl h
          · replace h := h.2 c18
            refine i_iconst r_276_668 (n_276_668 _) ?_
            exact i_zreturn r_276_669 (n_276_669 _) rfl (by decide) h
      · replace h := h.2 c16
        refine i_iconst r_276_651 (n_276_651 _) ?_
        exact i_zreturn r_276_652 (n_276_652 _) rfl (by decide) h
    · skip
      exact h.elim
  · skip
    exact h.elim
theorem v_Law_law_673 {S : Option (Nat × (Nat → Int32))} {L : Nat} {xs : Nat → Int32} (hS : S = some (L, xs)) {s : zSt} {Q : Option Value ⊕ Nat → zSt → Prop} {x4 : Int} 
    (h : (0 ≤ (x4 + 1) ∧ (x4 + 1) < (L : Int) ∧ rng (x4 + 1)) ∧ (wp S 70 0 [(0, rf 2), (1, iv ((xs (x4 + 1).toNat).toInt)), (2, rf 275)] [] s (fun o3 s3 => zkI (fun y3 => wp S 214 0 [(0, rf 252), (1, iv ((xs (x4 + 1).toNat).toInt))] [] s3 (fun o6 s6 => zkI (fun y6 => ((zI s6 252 3) = y3 → (y3 ≠ 0 → wp S 276 23 [(0, rf 0), (1, rf 2), (2, rf 252), (3, rf 275), (4, iv (x4 + 7))] [] s6 Q) ∧ (y3 = 0 → ((zcmp (zL s6 275 0) (zi2l y6)) = 0 → wp S 276 23 [(0, rf 0), (1, rf 2), (2, rf 252), (3, rf 275), (4, iv (x4 + 7))] [] s6 Q) ∧ ((zcmp (zL s6 275 0) (zi2l y6)) ≠ 0 → Q (rI 0) s6))) ∧ ((zI s6 252 3) ≠ y3 → Q (rI 0) s6)) (fun e6 => False) o6)) (fun e3 => False) o3))) :
    wp S 276 673 [(0, rf 0), (1, rf 2), (2, rf 252), (3, rf 275), (4, iv x4)] [] s Q := by
  refine i_aload_n (a := 2) r_276_673 rfl rfl ?_
  refine i_aload_n (a := 0) r_276_674 (n_276_674 _) rfl ?_
  refine i_iload (x := x4) r_276_675 (n_276_675 _) rfl ?_
  refine i_iconst r_276_677 (n_276_677 _) ?_
  refine i_iadd r_276_678 (n_276_678 _) ?_
  obtain ⟨g1, h⟩ := h
  refine i_script hS r_276_679 (n_276_679 _) g1.2.2 g1.1 g1.2.1 (fun q2 => ?_)
  refine i_aload_n (a := 275) r_276_680 (n_276_680 _) rfl ?_
  refine wp_stat (rest := []) (Ls := [(0, rf 2), (1, iv ((xs (x4 + 1).toNat).toInt)), (2, rf 275)]) r_276_681 (n_276_681 _) rfl ⟨rfl, by decide, by decide, by decide⟩ rfl rfl ⟨rfl, Nat.le_of_ble_eq_true rfl, Nat.le_of_ble_eq_true rfl⟩ rfl h ?_
  intro o3 s3 h
  rcases h with ⟨y3, q4, rfl, h⟩ | ⟨e3, rfl, h⟩
  · refine .inl ⟨some (iv y3), rfl, ?_⟩
    show wp S 276 684 [(0, rf 0), (1, rf 2), (2, rf 252), (3, rf 275), (4, iv x4)] [iv y3] s3 Q
    refine i_istore (l' := [(0, rf 0), (1, rf 2), (2, rf 252), (3, rf 275), (4, iv x4), (5, iv y3)]) r_276_684 (n_276_684 _) (by decide) rfl ?_
    refine i_aload_n (a := 252) r_276_686 (n_276_686 _) rfl ?_
    refine i_aload_n (a := 0) r_276_687 (n_276_687 _) rfl ?_
    refine i_iload (x := x4) r_276_688 (n_276_688 _) rfl ?_
    refine i_iconst r_276_690 (n_276_690 _) ?_
    refine i_iadd r_276_691 (n_276_691 _) ?_
    refine i_script hS r_276_692 (n_276_692 _) g1.2.2 g1.1 g1.2.1 (fun q5 => ?_)
    refine wp_virt (b := 252) (rest := []) (Ls := [(0, rf 252), (1, iv ((xs (x4 + 1).toNat).toInt))]) r_276_693 (n_276_693 _) rfl ⟨rfl, rfl, by decide, by decide⟩ rfl rfl lf_252 ⟨rfl, Nat.le_of_ble_eq_true rfl, Nat.le_of_ble_eq_true rfl⟩ rfl h ?_
    intro o6 s6 h
    rcases h with ⟨y6, q7, rfl, h⟩ | ⟨e6, rfl, h⟩
    · refine .inl ⟨some (iv y6), rfl, ?_⟩
      show wp S 276 696 [(0, rf 0), (1, rf 2), (2, rf 252), (3, rf 275), (4, iv x4), (5, iv y3)] [iv y6] s6 Q
      refine i_istore (l' := [(0, rf 0), (1, rf 2), (2, rf 252), (3, rf 275), (4, iv x4), (5, iv y3), (6, iv y6)]) r_276_696 (n_276_696 _) (by decide) rfl ?_
      refine i_aload_n (a := 252) r_276_698 (n_276_698 _) rfl ?_
      refine wp_virt (b := 252) (rest := []) (Ls := [(0, rf 252)]) r_276_699 (n_276_699 _) rfl ⟨rfl, rfl, by decide, by decide⟩ rfl rfl lf_252 ⟨rfl, Nat.le_of_ble_eq_true rfl, Nat.le_of_ble_eq_true rfl⟩ rfl K_Model_thrown ?_
      rintro _ _ ⟨rfl, rfl⟩
      refine .inl ⟨some (iv (zI s6 252 3)), rfl, ?_⟩
      show wp S 276 702 [(0, rf 0), (1, rf 2), (2, rf 252), (3, rf 275), (4, iv x4), (5, iv y3), (6, iv y6)] [iv (zI s6 252 3)] s6 Q
      refine wp_rd (a := 252) (j := 3) (fun q9 => ?_)
      refine i_iload (x := y3) r_276_702 (n_276_702 _) rfl ?_
      refine i_icmp (t := 709) r_276_704 (n_276_704 _) rfl (T_eq q9 q4) (fun c10 => ?_) (fun c10 => ?_)
      · replace h := h.1 c10
        refine i_iload (x := y3) r_276_709 (n_276_709 _) rfl ?_
        refine i_if (t := 726) r_276_711 (n_276_711 _) rfl (T_ne q4 ⟨by omega, by omega⟩) (fun c11 => ?_) (fun c11 => ?_)
        · replace h := h.1 c11
          refine i_goto (t := 2908) r_276_726 (n_276_726 _) rfl ?_
          refine i_iinc (x := x4) (l' := [(0, rf 0), (1, rf 2), (2, rf 252), (3, rf 275), (4, iv (x4 + 7)), (5, iv y3), (6, iv y6)]) r_276_2908 (n_276_2908 _) (by decide) rfl rfl ?_
          refine i_goto (t := 23) r_276_2911 (n_276_2911 _) rfl ?_
          exact wp_pr (l' := [(0, rf 0), (1, rf 2), (2, rf 252), (3, rf 275), (4, iv (x4 + 7))]) rfl h
        · replace h := h.2 c11
          refine i_aload_n (a := 275) r_276_714 (n_276_714 _) rfl ?_
          refine i_iconst r_276_715 (n_276_715 _) ?_
          refine i_laload (a := 275) (j := 0) r_276_716 (n_276_716 _) lf_275 ⟨by omega, by omega⟩ (by omega) (by omega) ?_
          refine i_iload (x := y6) r_276_717 (n_276_717 _) rfl ?_
          refine i_i2l r_276_719 (n_276_719 _) ?_
          refine i_lcmp r_276_720 (n_276_720 _) ?_
          refine i_if (t := 726) r_276_721 (n_276_721 _) rfl (T_eq (zcmp_rng _ _) ⟨by omega, by omega⟩) (fun c12 => ?_) (fun c12 => ?_)
          · replace h := h.1 c12
            refine i_goto (t := 2908) r_276_726 (n_276_726 _) rfl ?_
            refine i_iinc (x := x4) (l' := [(0, rf 0), (1, rf 2), (2, rf 252), (3, rf 275), (4, iv (x4 + 7)), (5, iv y3), (6, iv y6)]) r_276_2908 (n_276_2908 _) (by decide) rfl rfl ?_
            refine i_goto (t := 23) r_276_2911 (n_276_2911 _) rfl ?_
            exact wp_pr (l' := [(0, rf 0), (1, rf 2), (2, rf 252), (3, rf 275), (4, iv (x4 + 7))]) rfl h
          · replace h := h.2 c12
            refine i_iconst r_276_724 (n_276_724 _) ?_
            exact i_zreturn r_276_725 (n_276_725 _) rfl (by decide) h
      · replace h := h.2 c10
        refine i_iconst r_276_707 (n_276_707 _) ?_
        exact i_zreturn r_276_708 (n_276_708 _) rfl (by decide) h
    · skip
      exact h.elim
  · skip
    exact h.elim
theorem v_Law_law_729 {S : Option (Nat × (Nat → Int32))} {L : Nat} {xs : Nat → Int32} (hS : S = some (L, xs)) {s : zSt} {Q : Option Value ⊕ Nat → zSt → Prop} {x4 : Int} 
    (h : (0 ≤ (x4 + 1) ∧ (x4 + 1) < (L : Int) ∧ rng (x4 + 1)) ∧ (wp S 74 0 [(0, rf 2), (1, iv ((xs (x4 + 1).toNat).toInt)), (2, rf 275)] [] s (fun o3 s3 => zkI (fun y3 => wp S 215 0 [(0, rf 252), (1, iv ((xs (x4 + 1).toNat).toInt))] [] s3 (fun o6 s6 => zkI (fun y6 => ((zI s6 252 3) = y3 → (y3 ≠ 0 → wp S 276 23 [(0, rf 0), (1, rf 2), (2, rf 252), (3, rf 275), (4, iv (x4 + 7))] [] s6 Q) ∧ (y3 = 0 → ((zcmp (zL s6 275 0) (zi2l y6)) = 0 → wp S 276 23 [(0, rf 0), (1, rf 2), (2, rf 252), (3, rf 275), (4, iv (x4 + 7))] [] s6 Q) ∧ ((zcmp (zL s6 275 0) (zi2l y6)) ≠ 0 → Q (rI 0) s6))) ∧ ((zI s6 252 3) ≠ y3 → Q (rI 0) s6)) (fun e6 => False) o6)) (fun e3 => False) o3))) :
    wp S 276 729 [(0, rf 0), (1, rf 2), (2, rf 252), (3, rf 275), (4, iv x4)] [] s Q := by
  refine i_aload_n (a := 2) r_276_729 rfl rfl ?_
  refine i_aload_n (a := 0) r_276_730 (n_276_730 _) rfl ?_
  refine i_iload (x := x4) r_276_731 (n_276_731 _) rfl ?_
  refine i_iconst r_276_733 (n_276_733 _) ?_
  refine i_iadd r_276_734 (n_276_734 _) ?_
  obtain ⟨g1, h⟩ := h
  refine i_script hS r_276_735 (n_276_735 _) g1.2.2 g1.1 g1.2.1 (fun q2 => ?_)
  refine i_aload_n (a := 275) r_276_736 (n_276_736 _) rfl ?_
  refine wp_stat (rest := []) (Ls := [(0, rf 2), (1, iv ((xs (x4 + 1).toNat).toInt)), (2, rf 275)]) r_276_737 (n_276_737 _) rfl ⟨rfl, by decide, by decide, by decide⟩ rfl rfl ⟨rfl, Nat.le_of_ble_eq_true rfl, Nat.le_of_ble_eq_true rfl⟩ rfl h ?_
  intro o3 s3 h
  rcases h with ⟨y3, q4, rfl, h⟩ | ⟨e3, rfl, h⟩
  · refine .inl ⟨some (iv y3), rfl, ?_⟩
    show wp S 276 740 [(0, rf 0), (1, rf 2), (2, rf 252), (3, rf 275), (4, iv x4)] [iv y3] s3 Q
    refine i_istore (l' := [(0, rf 0), (1, rf 2), (2, rf 252), (3, rf 275), (4, iv x4), (5, iv y3)]) r_276_740 (n_276_740 _) (by decide) rfl ?_
    refine i_aload_n (a := 252) r_276_742 (n_276_742 _) rfl ?_
    refine i_aload_n (a := 0) r_276_743 (n_276_743 _) rfl ?_
    refine i_iload (x := x4) r_276_744 (n_276_744 _) rfl ?_
    refine i_iconst r_276_746 (n_276_746 _) ?_
    refine i_iadd r_276_747 (n_276_747 _) ?_
    refine i_script hS r_276_748 (n_276_748 _) g1.2.2 g1.1 g1.2.1 (fun q5 => ?_)
    refine wp_virt (b := 252) (rest := []) (Ls := [(0, rf 252), (1, iv ((xs (x4 + 1).toNat).toInt))]) r_276_749 (n_276_749 _) rfl ⟨rfl, rfl, by decide, by decide⟩ rfl rfl lf_252 ⟨rfl, Nat.le_of_ble_eq_true rfl, Nat.le_of_ble_eq_true rfl⟩ rfl h ?_
    intro o6 s6 h
    rcases h with ⟨y6, q7, rfl, h⟩ | ⟨e6, rfl, h⟩
    · refine .inl ⟨some (iv y6), rfl, ?_⟩
      show wp S 276 752 [(0, rf 0), (1, rf 2), (2, rf 252), (3, rf 275), (4, iv x4), (5, iv y3)] [iv y6] s6 Q
      refine i_istore (l' := [(0, rf 0), (1, rf 2), (2, rf 252), (3, rf 275), (4, iv x4), (5, iv y3), (6, iv y6)]) r_276_752 (n_276_752 _) (by decide) rfl ?_
      refine i_aload_n (a := 252) r_276_754 (n_276_754 _) rfl ?_
      refine wp_virt (b := 252) (rest := []) (Ls := [(0, rf 252)]) r_276_755 (n_276_755 _) rfl ⟨rfl, rfl, by decide, by decide⟩ rfl rfl lf_252 ⟨rfl, Nat.le_of_ble_eq_true rfl, Nat.le_of_ble_eq_true rfl⟩ rfl K_Model_thrown ?_
      rintro _ _ ⟨rfl, rfl⟩
      refine .inl ⟨some (iv (zI s6 252 3)), rfl, ?_⟩
      show wp S 276 758 [(0, rf 0), (1, rf 2), (2, rf 252), (3, rf 275), (4, iv x4), (5, iv y3), (6, iv y6)] [iv (zI s6 252 3)] s6 Q
      refine wp_rd (a := 252) (j := 3) (fun q9 => ?_)
      refine i_iload (x := y3) r_276_758 (n_276_758 _) rfl ?_
      refine i_icmp (t := 765) r_276_760 (n_276_760 _) rfl (T_eq q9 q4) (fun c10 => ?_) (fun c10 => ?_)
      · replace h := h.1 c10
        refine i_iload (x := y3) r_276_765 (n_276_765 _) rfl ?_
        refine i_if (t := 782) r_276_767 (n_276_767 _) rfl (T_ne q4 ⟨by omega, by omega⟩) (fun c11 => ?_) (fun c11 => ?_)
        · replace h := h.1 c11
          refine i_goto (t := 2908) r_276_782 (n_276_782 _) rfl ?_
          refine i_iinc (x := x4) (l' := [(0, rf 0), (1, rf 2), (2, rf 252), (3, rf 275), (4, iv (x4 + 7)), (5, iv y3), (6, iv y6)]) r_276_2908 (n_276_2908 _) (by decide) rfl rfl ?_
          refine i_goto (t := 23) r_276_2911 (n_276_2911 _) rfl ?_
          exact wp_pr (l' := [(0, rf 0), (1, rf 2), (2, rf 252), (3, rf 275), (4, iv (x4 + 7))]) rfl h
        · replace h := h.2 c11
          refine i_aload_n (a := 275) r_276_770 (n_276_770 _) rfl ?_
          refine i_iconst r_276_771 (n_276_771 _) ?_
          refine i_laload (a := 275) (j := 0) r_276_772 (n_276_772 _) lf_275 ⟨by omega, by omega⟩ (by omega) (by omega) ?_
          refine i_iload (x := y6) r_276_773 (n_276_773 _) rfl ?_
          refine i_i2l r_276_775 (n_276_775 _) ?_
          refine i_lcmp r_276_776 (n_276_776 _) ?_
          refine i_if (t := 782) r_276_777 (n_276_777 _) rfl (T_eq (zcmp_rng _ _) ⟨by omega, by omega⟩) (fun c12 => ?_) (fun c12 => ?_)
          · replace h := h.1 c12
            refine i_goto (t := 2908) r_276_782 (n_276_782 _) rfl ?_
            refine i_iinc (x := x4) (l' := [(0, rf 0), (1, rf 2), (2, rf 252), (3, rf 275), (4, iv (x4 + 7)), (5, iv y3), (6, iv y6)]) r_276_2908 (n_276_2908 _) (by decide) rfl rfl ?_
            refine i_goto (t := 23) r_276_2911 (n_276_2911 _) rfl ?_
            exact wp_pr (l' := [(0, rf 0), (1, rf 2), (2, rf 252), (3, rf 275), (4, iv (x4 + 7))]) rfl h
          · replace h := h.2 c12
            refine i_iconst r_276_780 (n_276_780 _) ?_
            exact i_zreturn r_276_781 (n_276_781 _) rfl (by decide) h
      · replace h := h.2 c10
        refine i_iconst r_276_763 (n_276_763 _) ?_
        exact i_zreturn r_276_764 (n_276_764 _) rfl (by decide) h
    · skip
      exact h.elim
  · skip
    exact h.elim
theorem v_Law_law_785 {S : Option (Nat × (Nat → Int32))} {L : Nat} {xs : Nat → Int32} (hS : S = some (L, xs)) {s : zSt} {Q : Option Value ⊕ Nat → zSt → Prop} {x4 : Int} 
    (h : (0 ≤ (x4 + 1) ∧ (x4 + 1) < (L : Int) ∧ rng (x4 + 1)) ∧ ((0 ≤ (x4 + 2) ∧ (x4 + 2) < (L : Int) ∧ rng (x4 + 2)) ∧ (wp S 85 0 [(0, rf 2), (1, iv ((xs (x4 + 1).toNat).toInt)), (2, iv ((xs (x4 + 2).toNat).toInt)), (3, rf 275)] [] s (fun o5 s5 => zkI (fun y5 => wp S 219 0 [(0, rf 252), (1, iv ((xs (x4 + 1).toNat).toInt)), (2, iv ((xs (x4 + 2).toNat).toInt))] [] s5 (fun o9 s9 => zkI (fun y9 => ((zI s9 252 3) = y5 → (y5 ≠ 0 → wp S 276 23 [(0, rf 0), (1, rf 2), (2, rf 252), (3, rf 275), (4, iv (x4 + 7))] [] s9 Q) ∧ (y5 = 0 → ((zcmp (zL s9 275 0) (zi2l y9)) = 0 → wp S 276 23 [(0, rf 0), (1, rf 2), (2, rf 252), (3, rf 275), (4, iv (x4 + 7))] [] s9 Q) ∧ ((zcmp (zL s9 275 0) (zi2l y9)) ≠ 0 → Q (rI 0) s9))) ∧ ((zI s9 252 3) ≠ y5 → Q (rI 0) s9)) (fun e9 => False) o9)) (fun e5 => False) o5)))) :
    wp S 276 785 [(0, rf 0), (1, rf 2), (2, rf 252), (3, rf 275), (4, iv x4)] [] s Q := by
  refine i_aload_n (a := 2) r_276_785 rfl rfl ?_
  refine i_aload_n (a := 0) r_276_786 (n_276_786 _) rfl ?_
  refine i_iload (x := x4) r_276_787 (n_276_787 _) rfl ?_
  refine i_iconst r_276_789 (n_276_789 _) ?_
  refine i_iadd r_276_790 (n_276_790 _) ?_
  obtain ⟨g1, h⟩ := h
  refine i_script hS r_276_791 (n_276_791 _) g1.2.2 g1.1 g1.2.1 (fun q2 => ?_)
  refine i_aload_n (a := 0) r_276_792 (n_276_792 _) rfl ?_
  refine i_iload (x := x4) r_276_793 (n_276_793 _) rfl ?_
  refine i_iconst r_276_795 (n_276_795 _) ?_
  refine i_iadd r_276_796 (n_276_796 _) ?_
  obtain ⟨g3, h⟩ := h
  refine i_script hS r_276_797 (n_276_797 _) g3.2.2 g3.1 g3.2.1 (fun q4 => ?_)
  refine i_aload_n (a := 275) r_276_798 (n_276_798 _) rfl ?_
  refine wp_stat (rest := []) (Ls := [(0, rf 2), (1, iv ((xs (x4 + 1).toNat).toInt)), (2, iv ((xs (x4 + 2).toNat).toInt)), (3, rf 275)]) r_276_799 (n_276_799 _) rfl ⟨rfl, by decide, by decide, by decide⟩ rfl rfl ⟨rfl, Nat.le_of_ble_eq_true rfl, Nat.le_of_ble_eq_true rfl⟩ rfl h ?_
  intro o5 s5 h
  rcases h with ⟨y5, q6, rfl, h⟩ | ⟨e5, rfl, h⟩
  · refine .inl ⟨some (iv y5), rfl, ?_⟩
    show wp S 276 802 [(0, rf 0), (1, rf 2), (2, rf 252), (3, rf 275), (4, iv x4)] [iv y5] s5 Q
    refine i_istore (l' := [(0, rf 0), (1, rf 2), (2, rf 252), (3, rf 275), (4, iv x4), (5, iv y5)]) r_276_802 (n_276_802 _) (by decide) rfl ?_
    refine i_aload_n (a := 252) r_276_804 (n_276_804 _) rfl ?_
    refine i_aload_n (a := 0) r_276_805 (n_276_805 _) rfl ?_
    refine i_iload (x := x4) r_276_806 (n_276_806 _) rfl ?_
    refine i_iconst r_276_808 (n_276_808 _) ?_
    refine i_iadd r_276_809 (n_276_809 _) ?_
    refine i_script hS r_276_810 (n_276_810 _) g1.2.2 g1.1 g1.2.1 (fun q7 => ?_)
    refine i_aload_n (a := 0) r_276_811 (n_276_811 _) rfl ?_
    refine i_iload (x := x4) r_276_812 (n_276_812 _) rfl ?_
    refine i_iconst r_276_814 (n_276_814 _) ?_
    refine i_iadd r_276_815 (n_276_815 _) ?_
    refine i_script hS r_276_816 (n_276_816 _) g3.2.2 g3.1 g3.2.1 (fun q8 => ?_)
    refine wp_virt (b := 252) (rest := []) (Ls := [(0, rf 252), (1, iv ((xs (x4 + 1).toNat).toInt)), (2, iv ((xs (x4 + 2).toNat).toInt))]) r_276_817 (n_276_817 _) rfl ⟨rfl, rfl, by decide, by decide⟩ rfl rfl lf_252 ⟨rfl, Nat.le_of_ble_eq_true rfl, Nat.le_of_ble_eq_true rfl⟩ rfl h ?_
    intro o9 s9 h
    rcases h with ⟨y9, q10, rfl, h⟩ | ⟨e9, rfl, h⟩
    · refine .inl ⟨some (iv y9), rfl, ?_⟩
      show wp S 276 820 [(0, rf 0), (1, rf 2), (2, rf 252), (3, rf 275), (4, iv x4), (5, iv y5)] [iv y9] s9 Q
      refine i_istore (l' := [(0, rf 0), (1, rf 2), (2, rf 252), (3, rf 275), (4, iv x4), (5, iv y5), (6, iv y9)]) r_276_820 (n_276_820 _) (by decide) rfl ?_
      refine i_aload_n (a := 252) r_276_822 (n_276_822 _) rfl ?_
      refine wp_virt (b := 252) (rest := []) (Ls := [(0, rf 252)]) r_276_823 (n_276_823 _) rfl ⟨rfl, rfl, by decide, by decide⟩ rfl rfl lf_252 ⟨rfl, Nat.le_of_ble_eq_true rfl, Nat.le_of_ble_eq_true rfl⟩ rfl K_Model_thrown ?_
      rintro _ _ ⟨rfl, rfl⟩
      refine .inl ⟨some (iv (zI s9 252 3)), rfl, ?_⟩
      show wp S 276 826 [(0, rf 0), (1, rf 2), (2, rf 252), (3, rf 275), (4, iv x4), (5, iv y5), (6, iv y9)] [iv (zI s9 252 3)] s9 Q
      refine wp_rd (a := 252) (j := 3) (fun q12 => ?_)
      refine i_iload (x := y5) r_276_826 (n_276_826 _) rfl ?_
      refine i_icmp (t := 833) r_276_828 (n_276_828 _) rfl (T_eq q12 q6) (fun c13 => ?_) (fun c13 => ?_)
      · replace h := h.1 c13
        refine i_iload (x := y5) r_276_833 (n_276_833 _) rfl ?_
        refine i_if (t := 850) r_276_835 (n_276_835 _) rfl (T_ne q6 ⟨by omega, by omega⟩) (fun c14 => ?_) (fun c14 => ?_)
        · replace h := h.1 c14
          refine i_goto (t := 2908) r_276_850 (n_276_850 _) rfl ?_
          refine i_iinc (x := x4) (l' := [(0, rf 0), (1, rf 2), (2, rf 252), (3, rf 275), (4, iv (x4 + 7)), (5, iv y5), (6, iv y9)]) r_276_2908 (n_276_2908 _) (by decide) rfl rfl ?_
          refine i_goto (t := 23) r_276_2911 (n_276_2911 _) rfl ?_
          exact wp_pr (l' := [(0, rf 0), (1, rf 2), (2, rf 252), (3, rf 275), (4, iv (x4 + 7))]) rfl h
        · replace h := h.2 c14
          refine i_aload_n (a := 275) r_276_838 (n_276_838 _) rfl ?_
          refine i_iconst r_276_839 (n_276_839 _) ?_
          refine i_laload (a := 275) (j := 0) r_276_840 (n_276_840 _) lf_275 ⟨by omega, by omega⟩ (by omega) (by omega) ?_
          refine i_iload (x := y9) r_276_841 (n_276_841 _) rfl ?_
          refine i_i2l r_276_843 (n_276_843 _) ?_
          refine i_lcmp r_276_844 (n_276_844 _) ?_
          refine i_if (t := 850) r_276_845 (n_276_845 _) rfl (T_eq (zcmp_rng _ _) ⟨by omega, by omega⟩) (fun c15 => ?_) (fun c15 => ?_)
          · replace h := h.1 c15
            refine i_goto (t := 2908) r_276_850 (n_276_850 _) rfl ?_
            refine i_iinc (x := x4) (l' := [(0, rf 0), (1, rf 2), (2, rf 252), (3, rf 275), (4, iv (x4 + 7)), (5, iv y5), (6, iv y9)]) r_276_2908 (n_276_2908 _) (by decide) rfl rfl ?_
            refine i_goto (t := 23) r_276_2911 (n_276_2911 _) rfl ?_
            exact wp_pr (l' := [(0, rf 0), (1, rf 2), (2, rf 252), (3, rf 275), (4, iv (x4 + 7))]) rfl h
          · replace h := h.2 c15
            refine i_iconst r_276_848 (n_276_848 _) ?_
            exact i_zreturn r_276_849 (n_276_849 _) rfl (by decide) h
      · replace h := h.2 c13
        refine i_iconst r_276_831 (n_276_831 _) ?_
        exact i_zreturn r_276_832 (n_276_832 _) rfl (by decide) h
    · skip
      exact h.elim
  · skip
    exact h.elim

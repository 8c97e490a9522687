/-! ===== newTable of the class ===== -/
section OPS20
variable {S : Option (Nat × (Nat → Int32))} {Q : Option Value ⊕ Nat → zSt → Prop} {s : zSt} {D : Int → Int} {H : List (Int → Int)} {T : List Int}
theorem putT_at {D : Int → Int} {t r nr ly od bs by_ : Int} : putT D t r nr ly od bs by_ (157 + 6 * t) = r ∧ putT D t r nr ly od bs by_ (157 + 6 * t + 1) = nr ∧ putT D t r nr ly od bs by_ (157 + 6 * t + 2) = ly ∧ putT D t r nr ly od bs by_ (157 + 6 * t + 3) = od ∧ putT D t r nr ly od bs by_ (157 + 6 * t + 4) = bs ∧ putT D t r nr ly od bs by_ (157 + 6 * t + 5) = by_ := by
  unfold putT
  refine ⟨?_, ?_, ?_, ?_, ?_, ?_⟩
  · rw [upD_ne (by omega), upD_ne (by omega), upD_ne (by omega), upD_ne (by omega), upD_ne (by omega), upD_eq]
  · rw [upD_ne (by omega), upD_ne (by omega), upD_ne (by omega), upD_ne (by omega), upD_eq]
  · rw [upD_ne (by omega), upD_ne (by omega), upD_ne (by omega), upD_eq]
  · rw [upD_ne (by omega), upD_ne (by omega), upD_eq]
  · rw [upD_ne (by omega), upD_eq]
  · rw [upD_eq]
/-- the stores of a new table and the bytes cleared -/
theorem X_newStores {r nr ly od t bs : Int} {m : Nat} (hA : okA D) (hH : okHs H) (h : cPre s D H T) (ht : 0 ≤ t ∧ t < 3) (hr : hasRc D r) (hm : (m : Int) = bFor (shp D r) nr ly) (h0 : 0 ≤ bs) (h1 : bs + m ≤ 1024)
    (k4 : ∀ u, frm clsC s u → cRel u (newTD D t r nr ly od bs) H T → Q rU u) : wp S 109 0 [(0, rf 2), (1, iv bs), (2, iv m)] [] (zwI (zwI (zwI (zwI (zwI (zwI (zwI s (31 + t) 0 1) (31 + t) 1 r) (31 + t) 2 nr) (31 + t) 3 ly) (31 + t) 4 od) (31 + t) 5 bs) (31 + t) 6 m) Q := by
  have hD0 := hA.1.1
  obtain ⟨⟨b1, b2, b3, b4⟩, b, c, d, e⟩ := h
  generalize hU : zwI (zwI (zwI (zwI (zwI (zwI (zwI s (31 + t) 0 1) (31 + t) 1 r) (31 + t) 2 nr) (31 + t) 3 ly) (31 + t) 4 od) (31 + t) 5 bs) (31 + t) 6 m = U
  have hf : frm (fun x => x = 31 + t) s U := by
    rw [← hU]
    exact frm_I (frm_I (frm_I (frm_I (frm_I (frm_I (frm_I frm_refl rfl) rfl) rfl) rfl) rfl) rfl) rfl
  have hcm : cMm U 6 (putT D t r nr ly od bs (bFor (shp D r) nr ly)) := fun j q0 q1 => by
    rw [putT_ne (by omega), fI hf (by omega)]; exact b4 j q0 q1
  have hHp := okHs_H hH
  refine C_clear h0 h1 hcm fun u hfu hcu => ?_
  have hmt : m = (bFor (shp D r) nr ly).toNat := by omega
  rw [hmt] at hcu
  have hout : ∀ j, j < 175 → newTD D t r nr ly od bs j = putT D t r nr ly od bs (bFor (shp D r) nr ly) j := fun j hj => clrD_out _ (.inl (by omega))
  have hag : agR D (newTD D t r nr ly od bs) := fun j q0 q1 => by rw [hout j (by omega)]; exact putT_ne (.inl (by omega))
  have e0 : newTD D t r nr ly od bs 0 = D 0 := hag 0 (by omega) (by omega)
  have hfs : frm clsC s u := frm_trans (frm_mono hf fun x hx => by unfold clsC; omega) (frm_mono hfu fun x hx => by unfold clsC; omega)
  have hU7 : zI U (31 + t) 0 = 1 ∧ zI U (31 + t) 1 = r ∧ zI U (31 + t) 2 = nr ∧ zI U (31 + t) 3 = ly ∧ zI U (31 + t) 4 = od ∧ zI U (31 + t) 5 = bs ∧ zI U (31 + t) 6 = m := by
    rw [← hU]
    refine ⟨?_, ?_, ?_, ?_, ?_, ?_, ?_⟩
    · rw [zI_nj (by omega), zI_nj (by omega), zI_nj (by omega), zI_nj (by omega), zI_nj (by omega), zI_nj (by omega), zI_eq]
    · rw [zI_nj (by omega), zI_nj (by omega), zI_nj (by omega), zI_nj (by omega), zI_nj (by omega), zI_eq]
    · rw [zI_nj (by omega), zI_nj (by omega), zI_nj (by omega), zI_nj (by omega), zI_eq]
    · rw [zI_nj (by omega), zI_nj (by omega), zI_nj (by omega), zI_eq]
    · rw [zI_nj (by omega), zI_nj (by omega), zI_eq]
    · rw [zI_nj (by omega), zI_eq]
    · rw [zI_eq]
  obtain ⟨p1, p2, p3, p4, p5, p6⟩ := putT_at (D := D) (t := t) (r := r) (nr := nr) (ly := ly) (od := od) (bs := bs) (by_ := bFor (shp D r) nr ly)
  refine k4 u hfs ⟨⟨?_, ?_, fun v v0 v1 => ?_, hcu⟩, ?_, ?_, cTx_fr (cTx_fr d hf ⟨by omega, by omega⟩) hfu ⟨by omega, by omega⟩, .inl ?_⟩
  · rw [fI hfu (by omega), fI hf (by omega), e0]; exact b1
  · refine agR_cFl hA.1 hag fun i q0 q1 => ?_
    have hn8 := (hA.1.2 i q0 q1).2.1
    exact cFld_fr (cFld_fr (b2 i q0 q1) hf fun x x0 x1 => by omega) hfu fun x x0 x1 => by omega
  · rw [show (3 : Int) + 28 + v = 31 + v by omega]
    by_cases hvt : v = t
    · subst hvt
      right
      obtain ⟨g0, g1, g2, g3, g4, g5, g6⟩ := hU7
      have hgv : ∀ k, zI u (31 + v) k = zI U (31 + v) k := fun k => fI hfu (by omega)
      have ho : ∀ k, 0 ≤ k → k < 6 → newTD D v r nr ly od bs (157 + 6 * v + k) = putT D v r nr ly od bs (bFor (shp D r) nr ly) (157 + 6 * v + k) := fun k k0 k1 => hout _ (by omega)
      refine ⟨?_, by rw [hgv, g0], fun k k0 k1 => ?_⟩
      · have hz := ho 0 (by omega) (by omega)
        rw [Int.add_zero, p1] at hz
        unfold tRc
        rw [hz]
        have := hr.1
        omega
      · rw [hgv, ho k k0 k1]
        have hk : k = 0 ∨ k = 1 ∨ k = 2 ∨ k = 3 ∨ k = 4 ∨ k = 5 := by omega
        rcases hk with q | q | q | q | q | q <;> subst q
        · rw [Int.add_zero, p1]; exact g1
        · rw [p2]; exact g2
        · rw [p3]; exact g3
        · rw [p4]; exact g4
        · rw [p5]; exact g5
        · rw [p6, ← hm]; exact g6
    · have hq := b3 v v0 v1
      rw [show (3 : Int) + 28 + v = 31 + v by omega] at hq
      have hq := cTb_fr (cTb_fr hq hf (by omega)) hfu (by omega)
      have hk : ∀ k, 0 ≤ k → k < 6 → newTD D t r nr ly od bs (157 + 6 * v + k) = D (157 + 6 * v + k) := fun k k0 k1 => by rw [hout _ (by omega)]; exact putT_ne (by omega)
      have hk0 := hk 0 (by omega) (by omega)
      rw [Int.add_zero] at hk0
      unfold cTb tRc at hq ⊢
      rw [hk0]
      rcases hq with hq | ⟨z1, z2, z3⟩
      · exact .inl hq
      · exact .inr ⟨z1, z2, fun k k0 k1 => by rw [hk k k0 k1]; exact z3 k k0 k1⟩
  · exact agR_cSh hA.1 hag (cSh_fr (cSh_fr b hf fun x x0 x1 => by omega) hfu fun x x0 x1 => by omega)
  · exact ⟨by rw [fI hfu (by omega), fI hf (by omega)]; exact c.1, ⟨by rw [fI hfu (by omega), fI hf (by omega)]; exact c.2.1.1, c.2.1.2⟩, fun i hi => by rw [fI hfu (by omega), fI hf (by omega)]; exact cSt_fr (cSt_fr (c.2.2 i hi) (hHp i hi).1.2 hf fun x x0 x1 => by omega) (hHp i hi).1.2 hfu fun x x0 x1 => by omega⟩
  · rw [fI hfu (by omega), fI hf (by omega)]; exact e
theorem X_newTable {r nr ly od : Int} (hA : okA D) (hH : okHs H) (h : cRel s D H T) (hr : rng r) (h1 : rng nr) (h2 : rng ly) (h3 : rng od) (k1 : ¬ hasRc D r → Q (rT 2) (zbump s)) (k2 : hasRc D r → ¬ argT nr ly od → Q (rT 0) (zbump s))
    (k3 : hasRc D r → argT nr ly od → ¬ staT D r nr ly → ∀ u, frm clsC s u → cRel u D H T → Q (rT 1) (zbump u)) (k4 : hasRc D r → argT nr ly od → staT D r nr ly → ∀ u, frm clsC s u → cRel u (newTD D (ffT D 3 0) r nr ly od (bseT D r nr ly)) (pushH H D) T → Q (rI (ffT D 3 0)) u) : wp S 102 0 [(0, rf 2), (1, iv r), (2, iv nr), (3, iv ly), (4, iv od)] [] s Q := by
  have hD0 := hA.1.1
  have e0 : zI s 3 0 = D 0 := h.1.1
  refine v_RL_newTable_0 ⟨hr, fun hc => ?_, fun hc => k1 fun hh => hc ⟨hh.1, by have := hh.2; omega⟩⟩
  have hh : hasRc D r := ⟨hc.1, by omega⟩
  have hr0 := hh.1
  have hr1 := hh.2
  have en : zI s (7 + 4 * r) 1 = dN D r := by
    have hz := (h.1.2.1 r hh.1 hh.2).2.1
    rw [show (3 : Int) + 4 + 4 * r = 7 + 4 * r by omega] at hz
    exact hz
  refine ⟨h1, fun q1 => k2 hh fun ha => by have := ha.1.1; omega, fun q1 => ⟨fun q2 => ⟨h2, fun q3 => ⟨h3, fun q4 => ⟨⟨by omega, by omega⟩, ?_⟩, fun q4 => k2 hh fun ha => q4 ha.2.2⟩, fun q3 => k2 hh fun ha => q3 ha.2.1⟩, fun q2 => k2 hh fun ha => by have := ha.1.2; omega⟩⟩
  have ha : argT nr ly od := ⟨⟨q1, q2⟩, q3, q4⟩
  rw [en]
  refine ⟨fun hd => X_firstFree h.1 (zkI_I ?_ ⟨fun hy => ?_, fun hy => ?_⟩), fun hd => k3 hh ha (fun hs => by have := hs.1; omega) s frm_refl h⟩
  · have hb := ffT_b (D := D) 3 0
    split <;> exact ⟨by omega, by omega⟩
  · have hb := ffT_b (D := D) 3 0
    by_cases hf3 : ffT D 3 0 = 3
    · rw [if_pos hf3] at hy; exact absurd rfl hy
    rw [if_neg hf3]
    have hG := okG_shp hA.1 hr0 hr1
    refine C_layOut lf_53 ⟨hr0, by omega⟩ (by omega) hG ha.2.1 ha.1 (h.2.1 r hr0 hr1) fun u hfu _ _ hvu => zkU_U ?_
    have hbr := bFor_r hA hh ha.1 ha.2.1
    have hcu := cRel_fr h hA.1 (okHs_H hH) hfu fun x hx => by unfold cK at hx; omega
    have hv4 := hvu.2.2.1
    rw [hv4]
    have hyr : rng (bseT D r nr ly) := by
      rcases roomD_in (D := D) (need := bFor (shp D r) nr ly) 64 0 (by omega) (by omega) (by omega) with hq | hq <;> unfold bseT <;> exact ⟨by omega, by omega⟩
    refine X_findRoom hA hcu.1 ⟨by omega, by omega⟩ (zkI_I hyr ⟨fun hb1 => ?_, fun hb1 => k3 hh ha (fun hs => hs.2.2 hb1) u (frm_mono hfu fun x hx => by unfold clsC; omega) hcu⟩)
    have hst : staT D r nr ly := ⟨by omega, by omega, hb1⟩
    obtain ⟨z1, z2, z3, z4, z5, z6⟩ := staT_in hA hh ha.1 ha.2.1 hst
    obtain ⟨a, b, c, d, e⟩ := hcu
    refine C_save (okD_Ns hA.1) (okHs_H hH) a c fun w hfw hrt h7 _ => zkU_U ⟨z1, ?_⟩
    have hpw : cPre w D (pushH H D) T := ⟨cSt_fr a hA.1.1.2 hfw fun x x0 x1 => by omega, cSh_fr b hfw fun x x0 x1 => by omega, hrt, cTx_fr d hfw ⟨by omega, by omega⟩, h7⟩
    have hw4 : zI w 53 4 = bFor (shp D r) nr ly := (fI hfw (by omega)).trans hv4
    have e6 : zI (zwI (zwI (zwI (zwI (zwI (zwI w (31 + ffT D 3 0) 0 1) (31 + ffT D 3 0) 1 r) (31 + ffT D 3 0) 2 nr) (31 + ffT D 3 0) 3 ly) (31 + ffT D 3 0) 4 od) (31 + ffT D 3 0) 5 (bseT D r nr ly)) 53 4 = ((bFor (shp D r) nr ly).toNat : Int) := by
      rw [zI_ne (by omega), zI_ne (by omega), zI_ne (by omega), zI_ne (by omega), zI_ne (by omega), zI_ne (by omega), hw4, Int.toNat_of_nonneg hbr.1]
    have e7 : ∀ x : Int, zI (zwI (zwI (zwI (zwI (zwI (zwI (zwI w (31 + ffT D 3 0) 0 1) (31 + ffT D 3 0) 1 r) (31 + ffT D 3 0) 2 nr) (31 + ffT D 3 0) 3 ly) (31 + ffT D 3 0) 4 od) (31 + ffT D 3 0) 5 (bseT D r nr ly)) (31 + ffT D 3 0) 6 x) 53 4 = ((bFor (shp D r) nr ly).toNat : Int) := fun x => (zI_ne (by omega)).trans e6
    have hgo : wp S 109 0 [(0, rf 2), (1, iv (bseT D r nr ly)), (2, iv ((bFor (shp D r) nr ly).toNat : Int))] [] (zwI (zwI (zwI (zwI (zwI (zwI (zwI w (31 + ffT D 3 0) 0 1) (31 + ffT D 3 0) 1 r) (31 + ffT D 3 0) 2 nr) (31 + ffT D 3 0) 3 ly) (31 + ffT D 3 0) 4 od) (31 + ffT D 3 0) 5 (bseT D r nr ly)) (31 + ffT D 3 0) 6 ((bFor (shp D r) nr ly).toNat : Int)) (fun o28 s28 => zkU (Q (rI (ffT D 3 0)) s28) (fun e28 => False) o28) := by
      refine X_newStores hA (okHs_push hH hA) hpw z1 hh (Int.toNat_of_nonneg hbr.1) z3.1 (by omega) fun v hfv hcv => zkU_U ?_
      exact k4 hh ha hst v (frm_trans (frm_mono hfu fun x hx => by unfold clsC; omega) (frm_trans (frm_mono hfw fun x hx => by unfold clsC; omega) hfv)) hcv
    unfold bseT at *
    rw [e7, e6]
    exact hgo
  · have hf3 : ffT D 3 0 = 3 := by
      have hb := ffT_b (D := D) 3 0
      by_cases hf3 : ffT D 3 0 = 3
      · exact hf3
      · rw [if_neg hf3] at hy; omega
    exact k3 hh ha (fun hs => by have := hs.2.1; omega) s frm_refl h
end OPS20

/-! ===== one more field: the class ===== -/
section OPS15
variable {S : Option (Nat × (Nat → Int32))} {Q : Option Value ⊕ Nat → zSt → Prop} {s : zSt} {D : Int → Int} {H : List (Int → Int)} {T : List Int}
theorem X_addStores {r nm ty ct : Int} (hA : okA D) (hH : okHs H) (h : cRel s D H T) (hr : hasRc D r) (hnm : rng nm) (hty : rng ty) (hct : rng ct) (ha : argF D r nm ty ct) (hst : staF D r ty ct) (k4 : ∀ u, frm clsC s u → cRel u (addD D r nm ty ct) (pushH H D) T → Q (rI (dN D r + 1)) u) :
    wp S 18 0 [(0, rf 2)] [] s (fun o1 s1 => zkU (wp S 21 0 [(0, rf (7 + 4 * r)), (1, iv nm), (2, iv ty), (3, iv ct)] [] s1 (fun o2 s2 => zkU (wp S 41 0 [(0, rf 2), (1, iv r), (2, iv ((zI s2 (7 + 4 * r) 1) - 1))] [] s2 (fun o3 s3 => zkU (Q (rI (zI s3 (7 + 4 * r) 1)) s3) (fun _ => False) o3)) (fun _ => False) o2)) (fun _ => False) o1) := by
  have hD0 := hA.1.1
  have hr0 := hr.1
  have hr1 := hr.2
  have hn : 0 ≤ dN D r ∧ dN D r < 8 := ⟨(hA.1.2 r hr0 hr1).2.1.1, hst.1⟩
  have hA' := add_okA hA hr ha hst
  have e0 : addD D r nm ty ct 0 = D 0 := addD_ne (by omega) (by omega) (by omega) (by omega)
  obtain ⟨a1, a2, a3, a4, a5, a6⟩ := addD_at (nm := nm) (ty := ty) (ct := ct) hn
  have hat := add_shp_at (nm := nm) (ct := ct) hA.1 hr hn ha.2.1 hst.2.1
  have hne : ∀ i, 0 ≤ i → i < D 0 → i ≠ r → shp (addD D r nm ty ct) i = shp D i := fun i i0 i1 i2 => add_shp_ne hA.1 hr hn ha.2.1 hst.2.1 i.toNat i (by omega) i1 i2
  refine X_save hA hH h fun w hfw hcw => zkU_U ?_
  obtain ⟨⟨b1, b2, b3, b4⟩, b, c, d, e⟩ := hcw
  have hfl := b2 r hr0 hr1
  rw [show (3 : Int) + 4 + 4 * r = 7 + 4 * r by omega] at hfl
  have en := hfl.2.1
  refine v_Fields_add_0 (isO_fields ⟨by omega, by omega⟩) ?_
  rw [en]
  refine ⟨fun _ => ⟨hn, hnm, hty, hct, ⟨by omega, by omega⟩, zkU_U ?_⟩, fun hc => by omega⟩
  generalize hU : zwI (zwI (zwI (zwI w (7 + 4 * r + 1) (dN D r) nm) (7 + 4 * r + 2) (dN D r) ty) (7 + 4 * r + 3) (dN D r) ct) (7 + 4 * r) 1 (dN D r + 1) = U
  have hf : frm (fun x => 7 + 4 * r ≤ x ∧ x ≤ 10 + 4 * r) w U := by
    rw [← hU]
    exact frm_I (frm_I (frm_I (frm_I frm_refl (by omega)) (by omega)) (by omega)) (by omega)
  have u1 : zI U (7 + 4 * r) 1 = dN D r + 1 := by rw [← hU, zI_eq]
  have hnew : cFld U (7 + 4 * r) (dP (addD D r nm ty ct) r) (dN (addD D r nm ty ct) r) (dFd (addD D r nm ty ct) r) := by
    rw [a1, a2]
    refine ⟨?_, u1, fun f hfd => ?_⟩
    · rw [← hU, zI_nj (by omega), zI_ne (by omega), zI_ne (by omega), zI_ne (by omega)]; exact hfl.1
    · by_cases hfn : (f : Int) = dN D r
      · unfold dFd
        rw [hfn, a4, a5, a6, ← hU]
        refine ⟨?_, ?_, ?_⟩
        · rw [zI_ne (by omega), zI_ne (by omega), zI_ne (by omega), zI_eq]
        · rw [zI_ne (by omega), zI_ne (by omega), zI_eq]
        · rw [zI_ne (by omega), zI_eq]
      · obtain ⟨z1, z2, z3⟩ := a3 f (by omega) (by omega)
        obtain ⟨y1, y2, y3⟩ := hfl.2.2 f (by omega)
        unfold dFd
        rw [z1, z2, z3, ← hU]
        refine ⟨?_, ?_, ?_⟩
        · rw [zI_ne (by omega), zI_ne (by omega), zI_ne (by omega), zI_nj (by omega)]; exact y1
        · rw [zI_ne (by omega), zI_ne (by omega), zI_nj (by omega), zI_ne (by omega)]; exact y2
        · rw [zI_ne (by omega), zI_nj (by omega), zI_ne (by omega), zI_ne (by omega)]; exact y3
  have hold : ∀ i, 0 ≤ i → i < D 0 → i ≠ r → cFld U (7 + 4 * i) (dP (addD D r nm ty ct) i) (dN (addD D r nm ty ct) i) (dFd (addD D r nm ty ct) i) := fun i q0 q1 q2 => by
    have hy := addD_out (nm := nm) (ty := ty) (ct := ct) hr0 hn q0 q2
    have hn8 := (hA.1.2 i q0 q1).2.1
    have hw := b2 i q0 q1
    rw [show (3 : Int) + 4 + 4 * i = 7 + 4 * i by omega] at hw
    have hw2 := cFld_fr hw hf fun x x0 x1 => by omega
    rw [hy.1, hy.2.1]
    refine ⟨hw2.1, hw2.2.1, fun f hfl => ?_⟩
    have hx := hy.2.2 f (by omega) (by omega)
    unfold dFd
    rw [hx.1, hx.2.1, hx.2.2]
    exact hw2.2.2 f hfl
  have hsho : ∀ i, 0 ≤ i → i < D 0 → i ≠ r → cShp U (62 + 11 * i) (shp (addD D r nm ty ct) i) := fun i q0 q1 q2 => by
    rw [hne i q0 q1 q2]
    exact cShp_fr (b i q0 q1) hf fun x x0 x1 => by omega
  have hshr : cShp U (62 + 11 * r) (shp D r) := cShp_fr (b r hr0 hr1) hf fun x x0 x1 => by omega
  have un : zI U (7 + 4 * r) 1 - 1 = ((dN D r).toNat : Int) := by rw [u1]; omega
  rw [un]
  have hHp := okHs_H (okHs_push hH hA)
  refine C_placeField hA'.1 hr0 (by rw [e0]; exact hr1) (by rw [a2]; omega) hat.1.symm (by rw [fI hf (by omega), e0]; exact b1) hnew (fun i q0 q1 => hsho i q0 (by omega) (by omega)) hshr fun v hfv hcv => zkU_U ?_
  have hsv : shp (addD D r nm ty ct) r = gN (shp (addD D r nm ty ct)) (dP (addD D r nm ty ct) r) (dFd (addD D r nm ty ct) r) ((dN D r).toNat + 1) := by
    have hz := shp_eq (D := addD D r nm ty ct) hr0 (add_ty hA.1 hr hn ha.2.1 hr0 hr1)
    rw [a2, show (dN D r + 1).toNat = (dN D r).toNat + 1 by omega] at hz
    exact hz
  rw [← hsv] at hcv
  rw [fI hfv (by omega), u1]
  refine k4 v (frm_trans hfw (frm_trans (frm_mono hf fun x hx => by unfold clsC; omega) (frm_mono hfv fun x hx => by unfold clsC; omega))) ⟨⟨?_, fun i q0 q1 => ?_, fun t t0 t1 => ?_, fun j q0 q1 => ?_⟩, fun i q0 q1 => ?_, ⟨?_, ⟨?_, c.2.1.2⟩, fun i hi => ?_⟩, cTx_fr (cTx_fr d hf ⟨by omega, by omega⟩) hfv ⟨by omega, by omega⟩, .inl ?_⟩
  · rw [fI hfv (by omega), fI hf (by omega), e0]; exact b1
  · rw [e0] at q1
    rw [show (3 : Int) + 4 + 4 * i = 7 + 4 * i by omega]
    by_cases hir : i = r
    · subst hir; exact cFld_fr hnew hfv fun x x0 x1 => by omega
    · exact cFld_fr (hold i q0 q1 hir) hfv fun x x0 x1 => by omega
  · have hq := cTb_fr (cTb_fr (b3 t t0 t1) hf (by omega)) hfv (by omega)
    unfold cTb tRc at hq ⊢
    rw [addD_ne (by omega) (by omega) (by omega) (by omega)]
    rcases hq with hq | ⟨z1, z2, z3⟩
    · exact .inl hq
    · exact .inr ⟨z1, z2, fun k k0 k1 => by rw [addD_ne (by omega) (by omega) (by omega) (by omega)]; exact z3 k k0 k1⟩
  · rw [addD_ne (by omega) (by omega) (by omega) (by omega), fI hfv (by omega), fI hf (by omega)]; exact b4 j q0 q1
  · rw [e0] at q1
    by_cases hir : i = r
    · subst hir; exact hcv
    · exact cShp_fr (hsho i q0 q1 hir) hfv fun x x0 x1 => by omega
  · rw [fI hfv (by omega), fI hf (by omega)]; exact c.1
  · rw [fI hfv (by omega), fI hf (by omega)]; exact c.2.1.1
  · rw [fI hfv (by omega), fI hf (by omega)]; exact cSt_fr (cSt_fr (c.2.2 i hi) (hHp i hi).1.2 hf fun x x0 x1 => by omega) (hHp i hi).1.2 hfv fun x x0 x1 => by omega
  · rw [fI hfv (by omega), fI hf (by omega)]; exact e
end OPS15

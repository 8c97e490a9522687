/-! ===== one more field: what it asks, the row is in order, the reference ===== -/
def argF (D : Int → Int) (r nm ty ct : Int) : Prop := ((97 ≤ nm ∧ nm ≤ 122) ∧ ¬ hasNm D r nm (dN D r).toNat) ∧ okT D r ty ∧ (1 ≤ ct ∧ ct ≤ 4) ∧ (21 ≤ ty → ty ≤ 36 → ct = 1)
def staF (D : Int → Int) (r ty ct : Int) : Prop := dN D r < 8 ∧ ¬ usedR D r ∧ (gV (shp D r)).length + ct.toNat * tyL (shp D) ty ≤ 40
theorem add_okA {D : Int → Int} {r nm ty ct : Int} (hA : okA D) (hr : hasRc D r) (ha : argF D r nm ty ct) (hs : staF D r ty ct) : okA (addD D r nm ty ct) := by
  have hD := hA.1
  have hr0 := hr.1
  have hr1 := hr.2
  have hD0 := hD.1
  have hn : 0 ≤ dN D r ∧ dN D r < 8 := ⟨(hD.2 r hr0 hr1).2.1.1, hs.1⟩
  have e0 : addD D r nm ty ct 0 = D 0 := addD_ne (by omega) (by omega) (by omega) (by omega)
  obtain ⟨a1, a2, a3, a4, a5, a6⟩ := addD_at (nm := nm) (ty := ty) (ct := ct) hn
  have hat := add_shp_at (nm := nm) (ct := ct) hD hr hn ha.2.1 hs.2.1
  have hne : ∀ i, 0 ≤ i → i < D 0 → i ≠ r → shp (addD D r nm ty ct) i = shp D i := fun i i0 i1 i2 => add_shp_ne hD hr hn ha.2.1 hs.2.1 i.toNat i (by omega) i1 i2
  have hok : okD (addD D r nm ty ct) := by
    refine ⟨by rw [e0]; exact hD.1, fun i i0 i1 => ?_⟩
    rw [e0] at i1
    obtain ⟨o1, o2, o3, o4⟩ := hD.2 i i0 i1
    by_cases hir : i = r
    · subst hir
      refine ⟨by rw [a1]; exact o1, by rw [a2]; omega, fun f f0 f1 => ?_, by rw [hat.2, plc_len]; exact hs.2.2⟩
      rw [a2] at f1
      by_cases hf : f < dN D i
      · obtain ⟨g1, g2, g3, g4⟩ := o3 f f0 hf
        obtain ⟨z1, z2, z3⟩ := a3 f f0 hf
        refine ⟨by rw [z1]; exact g1, by rw [z2]; exact add_okT hr0 hn g2, by rw [z3]; exact g3, by rw [z2, z3]; exact g4⟩
      · have hfe : f = dN D i := by omega
        subst hfe
        refine ⟨by rw [a4]; exact ha.1.1, by rw [a5]; exact add_okT hr0 hn ha.2.1, by rw [a6]; exact ha.2.2.1, by rw [a5, a6]; exact ha.2.2.2⟩
    · obtain ⟨b1, b2, b3⟩ := addD_out (nm := nm) (ty := ty) (ct := ct) hr0 hn i0 hir
      refine ⟨by rw [b1]; exact o1, by rw [b2]; exact o2, fun f f0 f1 => ?_, by rw [hne i i0 i1 hir]; exact o4⟩
      rw [b2] at f1
      obtain ⟨g1, g2, g3, g4⟩ := o3 f f0 f1
      obtain ⟨z1, z2, z3⟩ := b3 f f0 (by omega)
      refine ⟨by rw [z1]; exact g1, by rw [z2]; exact add_okT hr0 hn g2, by rw [z3]; exact g3, by rw [z2, z3]; exact g4⟩
  refine okA_tabs hA hok (by rw [e0]; exact Int.le_refl _) (fun j q0 q1 => addD_ne (by omega) (by omega) (by omega) (by omega)) fun t t0 t1 hl => ?_
  have hT := isLv_ok hA ⟨t0, t1, hl⟩
  have hnr : tRc D t ≠ r := fun hq => hs.2.1 (.inr ⟨t, t0, t1, hq⟩)
  exact ⟨hne _ hT.1.1 hT.1.2 hnr, by rw [(addD_out hr0 hn hT.1.1 hnr).2.1]; exact hT.2.1⟩
section OPS14
variable {S : Option (Nat × (Nat → Int32))} {Q : Option Value ⊕ Nat → zSt → Prop} {s : zSt} {D : Int → Int} {H : List (Int → Int)} {T : List Int}
theorem M_addsRow {r nm ty ct : Int} (hr : 0 ≤ r ∧ r < 6) (hn : 0 ≤ dN D r ∧ dN D r < 8) (h : mRel s D H T) (h1 : rng nm) (h2 : rng ty) (h3 : rng ct) (k1 : ∀ u, frm (fun x => x = 253) s u → mRel u (addD D r nm ty ct) H T → Q rU u) : wp S 203 0 [(0, rf 252), (1, iv r), (2, iv nm), (3, iv ty), (4, iv ct)] [] s Q := by
  have en : zI s 253 (1 + 26 * r + 1) = dN D r := h.1 _ (by omega) (by omega)
  refine v_Model_appends_0 ?_
  rw [en]
  have e1 : zI (zwI (zwI (zwI s 253 (1 + 26 * r + 2 + 3 * dN D r) nm) 253 (1 + 26 * r + 2 + 3 * dN D r + 1) ty) 253 (1 + 26 * r + 2 + 3 * dN D r + 2) ct) 253 (1 + 26 * r + 1) = dN D r := by
    rw [zI_nj (by omega), zI_nj (by omega), zI_nj (by omega)]; exact en
  rw [e1]
  refine ⟨⟨by omega, by omega⟩, ⟨by omega, by omega⟩, h1, ⟨by omega, by omega⟩, h2, ⟨by omega, by omega⟩, h3, ⟨by omega, by omega⟩, k1 _ (frm_I (frm_I (frm_I (frm_I frm_refl rfl) rfl) rfl) rfl) (mRel_D h (frm_I (frm_I (frm_I (frm_I frm_refl rfl) rfl) rfl) rfl) fun j q0 q1 => ?_)⟩
  unfold addD upD
  rw [zI_wI, zI_wI, zI_wI, zI_wI]
  by_cases c0 : j = 1 + 26 * r + 1
  · rw [if_pos ⟨rfl, c0⟩, if_pos c0]
  · rw [if_neg (fun hq => c0 hq.2), if_neg c0]
    by_cases c1 : j = 1 + 26 * r + 2 + 3 * dN D r + 2
    · rw [if_pos ⟨rfl, c1⟩, if_pos c1]
    · rw [if_neg (fun hq => c1 hq.2), if_neg c1]
      by_cases c2 : j = 1 + 26 * r + 2 + 3 * dN D r + 1
      · rw [if_pos ⟨rfl, c2⟩, if_pos c2]
      · rw [if_neg (fun hq => c2 hq.2), if_neg c2]
        by_cases c3 : j = 1 + 26 * r + 2 + 3 * dN D r
        · rw [if_pos ⟨rfl, c3⟩, if_pos c3]
        · rw [if_neg (fun hq => c3 hq.2), if_neg c3]; exact h.1 j q0 q1
theorem add_sum {r ty ct : Int} (hA : okA D) (hr : hasRc D r) (ht : okT D r ty) (hc : 1 ≤ ct ∧ ct ≤ 4) : ((gV (shp D r)).length : Int) + ct * (tyL (shp D) ty : Int) = (((gV (shp D r)).length + ct.toNat * tyL (shp D) ty : Nat) : Int) ∧ rng (((gV (shp D r)).length : Int) + ct * (tyL (shp D) ty : Int)) := by
  have hol := (shp_OK hA.1 hr.1 hr.2).2.2
  have hL : tyL (shp D) ty ≤ 40 := by
    unfold tyL
    split
    · omega
    · have hin := okT_in ht (by omega)
      exact (shp_OK hA.1 (r := ty - 100) hin.1 (by have := hr.2; omega)).2.2
  refine ⟨by rw [Int.natCast_add, Int.natCast_mul, Int.toNat_of_nonneg (by omega)], ?_⟩
  have h1 : ct * (tyL (shp D) ty : Int) ≤ 4 * (tyL (shp D) ty : Int) := Int.mul_le_mul_of_nonneg_right hc.2 (by omega)
  have h2 : 0 ≤ ct * (tyL (shp D) ty : Int) := Int.mul_nonneg (by omega) (by omega)
  exact ⟨by omega, by omega⟩
theorem M_addField {r nm ty ct : Int} (hA : okA D) (h : mRel s D H T) (hr : rng r) (hnm : rng nm) (hty : rng ty) (hct : rng ct) (k1 : ¬ hasRc D r → ∀ u, frm modC s u → zI u 252 3 = 1 → mRel u D H T → Q (rI 0) u) (k2 : hasRc D r → ¬ argF D r nm ty ct → ∀ u, frm modC s u → zI u 252 3 = 2 → mRel u D H T → Q (rI 0) u)
    (k3 : hasRc D r → argF D r nm ty ct → ¬ staF D r ty ct → ∀ u, frm modC s u → zI u 252 3 = 3 → mRel u D H T → Q (rI 0) u) (k4 : hasRc D r → argF D r nm ty ct → staF D r ty ct → ∀ u, frm modC s u → zI u 252 3 = 0 → mRel u (addD D r nm ty ct) (pushH H D) T → Q (rI (dN D r + 1)) u) : wp S 185 0 [(0, rf 252), (1, iv r), (2, iv nm), (3, iv ty), (4, iv ct)] [] s Q := by
  have hD0 := hA.1.1
  have e0 : zI s 253 0 = D 0 := h.1 0 (by omega) (by omega)
  have hP : (0 ≤ r ∧ r ≤ zI s 253 0 - 1) ↔ hasRc D r := ⟨fun hq => ⟨hq.1, by omega⟩, fun hq => ⟨hq.1, by have := hq.2; omega⟩⟩
  have hbad : (hasRc D r → ¬ argF D r nm ty ct) → wp S 185 78 [(0, rf 252), (1, iv r), (2, iv nm), (3, iv ty), (4, iv ct), (5, iv (bi (0 ≤ r ∧ r ≤ zI s 253 0 - 1))), (6, iv 0)] [] s Q := fun hq =>
    v_Model_addField_78 ⟨⟨by omega, by omega⟩, fun _ => v_Model_addField_140 ⟨bi_rng _, fun h5 => ⟨⟨by omega, by omega⟩, fun h6 => absurd rfl h6, fun _ => by
      have hh : hasRc D r := hP.mp (Classical.byContradiction fun hn => h5 (bi_0.mpr hn))
      exact k2 hh (hq hh) _ (frm_I frm_refl (by unfold modC; omega)) zI_eq (mRel_252 h ⟨by omega, by omega⟩)⟩, fun h5 => k1 (fun hh => bi_0.mp h5 (hP.mpr hh)) _ (frm_I frm_refl (by unfold modC; omega)) zI_eq (mRel_252 h ⟨by omega, by omega⟩)⟩, fun h6 => absurd rfl h6⟩
  refine v_Model_addField_0 ⟨hr, ⟨by omega, by omega⟩, fun hc => hbad fun hh => absurd (hP.mpr hh) hc, fun hc => ⟨hnm, fun hc2 => hbad fun _ ha => hc2 ha.1.1, fun hc2 => ?_⟩⟩
  have hh := hP.mp hc
  have hr0 := hh.1
  have hr1 := hh.2
  have hn8 := (hA.1.2 r hh.1 hh.2).2.1
  have htest : ((0 ≤ ty ∧ ty ≤ 7) ∨ (21 ≤ ty ∧ ty ≤ 36) ∨ (100 ≤ ty ∧ ty ≤ 99 + r ∧ 0 < zI s 253 (1 + 26 * (ty - 100) + 1))) ↔ okT D r ty := by
    have hv : 100 ≤ ty → ty ≤ 99 + r → zI s 253 (1 + 26 * (ty - 100) + 1) = dN D (ty - 100) := fun q0 q1 => h.1 _ (by omega) (by omega)
    unfold okT
    constructor
    · rintro (g | g | g)
      · exact .inl g
      · exact .inr (.inl g)
      · exact .inr (.inr ⟨g.1, g.2.1, by have := hv g.1 g.2.1; omega⟩)
    · rintro (g | g | g)
      · exact .inl g
      · exact .inr (.inl g)
      · exact .inr (.inr ⟨g.1, g.2.1, by have := hv g.1 g.2.1; omega⟩)
  refine M_hasName hA h.1 hh hnm (zkI_I (bi_rng _) ⟨fun h0 => hbad fun _ ha => h0 (bi_0.mpr ha.1.2), fun h0 => ⟨hty, ⟨by omega, by omega⟩, fun q0 q1 => by omega, fun hc3 => hbad fun _ ha => hc3 (htest.mpr ha.2.1), fun hc3 => ?_⟩⟩)
  have hno := bi_0.mp h0
  have hT := htest.mp hc3
  have hgo : 1 ≤ ct ∧ ct ≤ 4 → (21 ≤ ty → ty ≤ 36 → ct = 1) → ∀ t, frm cLy s t → mLay t D (D 0) → wp S 185 78 [(0, rf 252), (1, iv r), (2, iv nm), (3, iv ty), (4, iv ct), (5, iv (bi (0 ≤ r ∧ r ≤ zI s 253 0 - 1))), (6, iv 1)] [] t Q := fun hc4 hc5 t hft hlt => by
    have ha : argF D r nm ty ct := ⟨⟨hc2, hno⟩, hT, hc4, hc5⟩
    have hmt := mRel_ly h hft
    have en : zI t 253 (1 + 26 * r + 1) = dN D r := hmt.1 _ (by omega) (by omega)
    have hbt : bi (0 ≤ r ∧ r ≤ zI s 253 0 - 1) ≠ 0 := by rw [bi_T hc]; decide
    have hbad3 : ¬ staF D r ty ct → wp S 185 140 [(0, rf 252), (1, iv r), (2, iv nm), (3, iv ty), (4, iv ct), (5, iv (bi (0 ≤ r ∧ r ≤ zI s 253 0 - 1))), (6, iv 1)] [iv 0] t Q := fun hns =>
      v_Model_addField_140 ⟨bi_rng _, fun _ => ⟨⟨by omega, by omega⟩, fun _ => ⟨⟨by omega, by omega⟩, fun h9 => absurd rfl h9, fun _ => k3 hh ha hns _ (frm_I (cLy_mod hft) (by unfold modC; omega)) zI_eq (mRel_252 hmt ⟨by omega, by omega⟩)⟩, fun h6 => by omega⟩, fun h5 => absurd h5 hbt⟩
    have hgood : staF D r ty ct → wp S 185 140 [(0, rf 252), (1, iv r), (2, iv nm), (3, iv ty), (4, iv ct), (5, iv (bi (0 ≤ r ∧ r ≤ zI s 253 0 - 1))), (6, iv 1)] [iv 1] t Q := fun hst =>
      v_Model_addField_140 ⟨bi_rng _, fun _ => ⟨⟨by omega, by omega⟩, fun _ => ⟨⟨by omega, by omega⟩, fun _ => M_saves (mRel_252 hmt (k := 3) ⟨by omega, by omega⟩) fun w hfw h3 hmw => zkU_U (M_addsRow ⟨by omega, by omega⟩ ⟨hn8.1, hst.1⟩ hmw hnm hty hct fun u hfu hmu => zkU_U ⟨⟨by omega, by omega⟩, by
        have e1 : zI u 253 (1 + 26 * r + 1) = dN D r + 1 := (hmu.1 _ (by omega) (by omega)).trans (addD_at ⟨hn8.1, hst.1⟩).2.1
        rw [e1]
        exact k4 hh ha hst u (frm_trans (frm_I (cLy_mod hft) (by unfold modC; omega)) (frm_trans hfw (frm_mono hfu fun x hx => by unfold modC; omega))) (by rw [fI hfu (by omega), h3, zI_eq]) hmu⟩), fun h9 => by omega⟩, fun h6 => by omega⟩, fun h5 => absurd h5 hbt⟩
    refine v_Model_addField_78 ⟨⟨by omega, by omega⟩, fun h6 => by omega, fun _ => ⟨⟨by omega, by omega⟩, fun h8 => hbad3 fun hst => by have := hst.1; omega, fun h8 => M_isUsed hA hmt.1 ⟨by omega, by omega⟩ (zkI_I (bi_rng _) ⟨fun hu => hbad3 fun hst => hu (bi_0.mpr hst.2.1), fun hu => ?_⟩)⟩⟩
    have hnu := bi_0.mp hu
    obtain ⟨s1, s2⟩ := add_sum hA hh hT hc4
    have el : zI t 256 r = ((gV (shp D r)).length : Int) := (hlt r hr0 hr1).2.2.1
    have hfin : ∀ v : Int, v = (tyL (shp D) ty : Int) → rng (zI t 256 r + ct * v) ∧ (40 < zI t 256 r + ct * v → wp S 185 140 [(0, rf 252), (1, iv r), (2, iv nm), (3, iv ty), (4, iv ct), (5, iv (bi (0 ≤ r ∧ r ≤ zI s 253 0 - 1))), (6, iv 1)] [iv 0] t Q) ∧ (zI t 256 r + ct * v ≤ 40 → wp S 185 140 [(0, rf 252), (1, iv r), (2, iv nm), (3, iv ty), (4, iv ct), (5, iv (bi (0 ≤ r ∧ r ≤ zI s 253 0 - 1))), (6, iv 1)] [iv 1] t Q) := fun v hv => by
      subst hv
      rw [el]
      exact ⟨s2, fun h40 => hbad3 fun hst => by have := hst.2.2; omega, fun h40 => hgood ⟨by omega, hnu, by omega⟩⟩
    refine ⟨⟨by omega, by omega⟩, hty, fun hlt100 => ?_, fun hge => ?_⟩
    · exact hfin 1 (by unfold tyL; rw [if_pos hlt100]; rfl)
    · have hin := okT_in hT hge
      refine ⟨⟨by omega, by omega⟩, hfin _ ?_⟩
      rw [(hlt (ty - 100) (by omega) (by omega)).2.2.1]
      unfold tyL
      rw [if_neg (by omega)]
  refine ⟨fun hb => ⟨hct, fun hc4 => hbad fun _ ha => hc4 ha.2.2.1, fun hc4 => ?_⟩, fun hb => ⟨hct, fun hc4 => hbad fun _ ha => hc4 (by have := ha.2.2.2 hb.1 hb.2; omega), fun hc4 => ?_⟩⟩
  · exact C_lays hA.1 h.1 fun t hft hlt => zkU_U (hgo hc4 (fun q0 q1 => absurd ⟨q0, q1⟩ hb) t hft hlt)
  · exact C_lays hA.1 h.1 fun t hft hlt => zkU_U (hgo ⟨by omega, by omega⟩ (fun q0 q1 => by omega) t hft hlt)
end OPS14

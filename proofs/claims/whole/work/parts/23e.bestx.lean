/-! ===== the class answers with the best order ===== -/
theorem best_rng {D : Int → Int} {r v : Int} {o : Nat → Int} (hA : okA D) (hr : hasRc D r) (h : isBest D r v o) : rng v := by
  have hF := okD_Fs hA.1 hr.1 hr.2
  have hW := (okG_shp hA.1 hr.1 hr.2).1.2.1
  have hn := hF.2.2.1
  rw [← h.2.1, finO_st hF h.1]
  have hb := stP_b (P := bP D r) (o := o) (bP_ok hF) (dN D r).toNat h.1.1
  have hu := zup_b (e := (stP (bP D r) o (dN D r).toNat).1) hW
  have h8 := zp8_b hW
  exact ⟨by omega, by omega⟩
section OPS23
variable {S : Option (Nat × (Nat → Int32))} {Q : Option Value ⊕ Nat → zSt → Prop} {s : zSt} {D : Int → Int} {H : List (Int → Int)} {T : List Int}
def beC (a : Int) : Prop := 42 ≤ a ∧ a ≤ 47
theorem X_se_10 {r : Int} (hA : okA D) (hr : hasRc D r) {s0 : zSt} (h0 : cSt s0 3 D) (hsh : cShp s0 (62 + 11 * r) (shp D r)) (k1 : ∀ u, frm beC s0 u → isBest D r (zI u 42 0) (fun k => zI u 43 k) → Q rU u) (n : Nat) : ∀ (f : Nat) (s : zSt), (f : Int) + n = dN D r → frm beC s0 s → zI s 42 2 = dN D r → (∀ g : Nat, g < f → zI s 44 g = pL (bP D r) g ∧ zI s 45 g = pA (bP D r) g ∧ zI s 46 g = pW (bP D r) g) →
    wp S 77 10 [(0, rf 42), (1, rf (7 + 4 * r)), (2, rf (62 + 11 * r)), (3, iv f)] [] s Q := by
  have hD0 := hA.1.1
  have hr0 := hr.1
  have hr1 := hr.2
  have hF := okD_Fs hA.1 hr.1 hr.2
  have hP := bP_ok hF
  have hn8 := hF.2.2.1
  have hG := okG_shp hA.1 hr0 hr1
  have hW : zp8 (gW (shp D r)) := hG.1.2.1
  have h8W := zp8_b hW
  induction n with
  | zero =>
    intro f s hf hfs h2 hg
    refine v_BestOrder_search_10 (isO_fields ⟨by omega, by omega⟩) (isO_shape ⟨by omega, by omega⟩) ⟨⟨by omega, by omega⟩, fun _ => ?_, fun hc => by omega⟩
    have hbo : cBo s (dN D r).toNat (bP D r) := ⟨by rw [h2]; omega, fun g hgl => hg g (by omega)⟩
    refine C_fillNeeds hP hbo fun t hft hbt hYt => zkU_U ?_
    have e5 : zI t (62 + 11 * r) 5 = gW (shp D r) := (fI hft (by omega)).trans ((fI hfs (by unfold beC; omega)).trans hsh.1)
    have hv : isNd (dN D r).toNat (bP D r) 0 0 (zI t 47 0) := by
      have hz := hYt 0 (Nat.two_pow_pos _) 0 (by omega) (.inl rfl)
      exact hz
    have hvb := isNd_b hP hv
    have hub := zup_b (e := zI t 47 0) hW
    rw [e5]
    refine ⟨zp8_zp2 hW, hvb.1, by omega, ⟨by omega, by omega⟩, ?_⟩
    have hf0 : frm (fun a => a = 42) t (zwI t 42 0 (zup (zI t 47 0) (gW (shp D r)))) := frm_I frm_refl rfl
    have hdv := zup_dv (e := zI t 47 0) hW
    refine C_choose (t := zup (zI t 47 0) (gW (shp D r))) hP (fun g hgl => dvd_W (hP.2 g hgl).1 hW (W_ge hF hgl) hdv) ⟨by rw [zI_nj (by omega)]; exact hbt.1, fun g hgl => ?_⟩ (fun Y y l hl hlh => by rw [zI_ne (by omega)]; exact hYt Y y l hl hlh) zI_eq ⟨zI t 47 0, hv, hub.1⟩ fun u hfu hu => zkU_U ?_
    · rw [zI_ne (by omega), zI_ne (by omega), zI_ne (by omega)]; exact hbt.2 g hgl
    · refine k1 u (frm_trans hfs (frm_trans (frm_mono hft fun a ha => by unfold beC; omega) (frm_trans (frm_mono hf0 fun a ha => by unfold beC; omega) (frm_mono hfu fun a ha => by unfold beC; omega)))) ?_
      have e0 : zI u 42 0 = zup (zI t 47 0) (gW (shp D r)) := by rw [fI hfu (by omega), zI_eq]
      rw [e0]
      exact best_of hF hW hv rfl hu
  | succ n ihn =>
    intro f s hf hfs h2 hg
    obtain ⟨f1, f2, f3⟩ := hF.2.2.2 f (by omega) (by omega)
    have hcf := (h0.2.1 r hr0 hr1).2.2 f (by omega)
    rw [show (3 : Int) + 4 + 4 * r = 7 + 4 * r by omega] at hcf
    have hql : f < (gQ (shp D r)).length := by
      rw [shp_eq hr0 fun g q0 q1 => (hF.2.2.2 g q0 q1).1.2.1, gQ_len]
      omega
    have hcq := hsh.2.2.2.2.1 f hql
    rw [fld_gQ hA hr (by omega)] at hcq
    have e2 : zI s (7 + 4 * r + 2) f = dTy D r f := (fI hfs (by unfold beC; omega)).trans hcf.2.1
    have e3 : zI s (7 + 4 * r + 3) f = dCt D r f := (fI hfs (by unfold beC; omega)).trans hcf.2.2
    have e23 : zI s (62 + 11 * r + 3) f = tyB (shp D) (dTy D r f) := (fI hfs (by unfold beC; omega)).trans hcq.2.2.1
    have e24 : zI s (62 + 11 * r + 4) f = min (tyA (shp D) (dTy D r f)) (dP D r) := (fI hfs (by unfold beC; omega)).trans hcq.2.2.2
    have ht6 := okT_106 f1.2.1 (by omega)
    have h8A := zp8_b (zp8_min f2 hF.2.1)
    refine v_BestOrder_search_10 (isO_fields ⟨by omega, by omega⟩) (isO_shape ⟨by omega, by omega⟩) ?_
    rw [e3, e23]
    have eB : zI (zwI s 44 f (dCt D r f * tyB (shp D) (dTy D r f))) (62 + 11 * r + 4) f = min (tyA (shp D) (dTy D r f)) (dP D r) := by rw [zI_ne (by omega)]; exact e24
    rw [eB]
    have eT : zI (zwI (zwI s 44 f (dCt D r f * tyB (shp D) (dTy D r f))) 45 f (min (tyA (shp D) (dTy D r f)) (dP D r))) (7 + 4 * r + 2) f = dTy D r f := by rw [zI_ne (by omega), zI_ne (by omega)]; exact e2
    rw [eT]
    have hgo : ∀ w : Int, w = zwd (dTy D r f) → wp S 77 10 [(0, rf 42), (1, rf (7 + 4 * r)), (2, rf (62 + 11 * r)), (3, iv ((f : Int) + 1))] [] (zwI (zwI (zwI s 44 f (dCt D r f * tyB (shp D) (dTy D r f))) 45 f (min (tyA (shp D) (dTy D r f)) (dP D r))) 46 f w) Q := by
      intro w hw
      have hfr : frm beC s (zwI (zwI (zwI s 44 f (dCt D r f * tyB (shp D) (dTy D r f))) 45 f (min (tyA (shp D) (dTy D r f)) (dP D r))) 46 f w) := frm_I (frm_I (frm_I frm_refl (by unfold beC; omega)) (by unfold beC; omega)) (by unfold beC; omega)
      refine ihn (f + 1) _ (by omega) (frm_trans hfs hfr) (by rw [zI_ne (by omega), zI_ne (by omega), zI_ne (by omega)]; exact h2) fun g hgl => ?_
      by_cases hgf : g = f
      · subst hgf
        refine ⟨?_, ?_, ?_⟩
        · rw [zI_ne (by omega), zI_ne (by omega), zI_eq]; rfl
        · rw [zI_ne (by omega), zI_eq]; rfl
        · rw [zI_eq]; exact hw
      · obtain ⟨g1, g2, g3⟩ := hg g (by omega)
        refine ⟨?_, ?_, ?_⟩
        · rw [zI_ne (by omega), zI_ne (by omega), zI_nj (by omega)]; exact g1
        · rw [zI_ne (by omega), zI_nj (by omega), zI_ne (by omega)]; exact g2
        · rw [zI_nj (by omega), zI_ne (by omega), zI_ne (by omega)]; exact g3
    refine ⟨⟨by omega, by omega⟩, fun hc => by omega, fun _ => ⟨⟨by omega, by omega⟩, ⟨by omega, by omega⟩, fun hn => hgo 0 ?_, fun hy => ⟨⟨by omega, by omega⟩, hgo _ ?_⟩⟩⟩
    · rw [zwd_0 (by omega)]
    · rw [zwd_pos (by omega)]
theorem X_searchBest {r : Int} (hA : okA D) (hH : okHs H) (h : cRel s D H T) (hr : hasRc D r) (k1 : ∀ u, frm clsC s u → cRel u D H T → isBest D r (zI u 42 0) (fun k => zI u 43 k) → Q rU u) : wp S 76 0 [(0, rf 2), (1, iv r)] [] s Q := by
  have hD0 := hA.1.1
  have hr0 := hr.1
  have hr1 := hr.2
  obtain ⟨a, b, c, d, e⟩ := h
  refine v_RL_searchBest_0 ⟨⟨by omega, by omega⟩, fun hc => ?_, fun hc => ⟨⟨by omega, by omega⟩, v_BestOrder_search_0 (isO_fields ⟨by omega, by omega⟩) (isO_shape ⟨by omega, by omega⟩) ?_⟩⟩
  · rcases e with e | ⟨_, e⟩
    · omega
    · have hb := e
      rw [hc] at hb
      exact k1 s frm_refl ⟨a, b, c, d, .inr ⟨by rw [hc]; exact hr, by rw [hc]; exact hb⟩⟩ hb
  · have en : zI s (7 + 4 * r) 1 = dN D r := by
      have hz := (a.2.1 r hr0 hr1).2.1
      rw [show (3 : Int) + 4 + 4 * r = 7 + 4 * r by omega] at hz
      exact hz
    have hn := (hA.1.2 r hr0 hr1).2.1
    refine X_se_10 (s0 := s) hA hr a (b r hr0 hr1) (fun u hfu hbu => zkU_U ?_) (dN D r).toNat 0 _ (by omega) (frm_I frm_refl (by unfold beC; omega)) (by rw [zI_eq]; exact en) fun g hg => absurd hg (Nat.not_lt_zero g)
    have hHk := okHs_H hH
    have hf2 : frm (fun x => beC x ∨ x = 2) s (zwI u 2 7 r) := frm_I (frm_mono hfu fun x hx => .inl hx) (.inr rfl)
    have hb2 : isBest D r (zI (zwI u 2 7 r) 42 0) (fun k : Nat => zI (zwI u 2 7 r) 43 k) := by
      have e0 : zI (zwI u 2 7 r) 42 0 = zI u 42 0 := zI_ne (by omega)
      have e1 : (fun k : Nat => zI (zwI u 2 7 r) 43 k) = fun k : Nat => zI u 43 k := funext fun k => zI_ne (by omega)
      rw [e0, e1]
      exact hbu
    refine k1 _ (frm_mono hf2 fun x hx => by unfold beC at hx; unfold clsC; omega) ⟨cSt_fr a hA.1.1.2 hf2 fun x x0 x1 => by unfold beC; omega, cSh_fr b hf2 fun x x0 x1 => by unfold beC; omega, ?_, cTx_fr d hf2 ⟨by unfold beC; omega, by unfold beC; omega⟩, .inr ⟨by rw [zI_eq]; exact hr, by rw [zI_eq]; exact hb2⟩⟩ hb2
    obtain ⟨r1, r2, r3⟩ := c
    have e3 : zI (zwI u 2 7 r) 2 3 = zI s 2 3 := by rw [zI_nj (by omega)]; exact fI hfu (by unfold beC; omega)
    have e4 : zI (zwI u 2 7 r) 2 4 = zI s 2 4 := by rw [zI_nj (by omega)]; exact fI hfu (by unfold beC; omega)
    refine ⟨by rw [e3]; exact r1, ⟨e4.trans r2.1, r2.2⟩, fun i hi => ?_⟩
    rw [e3]
    exact cSt_fr (r3 i hi) (hHk i hi).1.2 hf2 fun x x0 x1 => by unfold beC; omega
theorem X_bestSize {r : Int} (hA : okA D) (hH : okHs H) (h : cRel s D H T) (hr : rng r) (k1 : ¬ hasRc D r → Q (rT 2) (zbump s)) (k2 : hasRc D r → ∀ (u : zSt) (v : Int) (o : Nat → Int), rng v → frm clsC s u → cRel u D H T → isBest D r v o → Q (rI v) u) : wp S 75 0 [(0, rf 2), (1, iv r)] [] s Q := by
  have e0 : zI s 3 0 = D 0 := h.1.1
  refine v_RL_bestSize_0 ?_
  rw [e0]
  exact ⟨hr, fun hc => X_searchBest hA hH h hc fun u hfu hcu hbu => zkU_U (k2 hc u _ _ (best_rng hA hc hbu) hfu hcu hbu), fun hc => k1 hc⟩
theorem X_bestOrder {r p : Int} (hA : okA D) (hH : okHs H) (h : cRel s D H T) (hr : rng r) (hp : rng p) (k1 : ¬ hasFd D r p → Q (rT 2) (zbump s)) (k2 : hasFd D r p → ∀ (u : zSt) (v : Int) (o : Nat → Int), rng (o p.toNat) → frm clsC s u → cRel u D H T → isBest D r v o → Q (rI (o p.toNat)) u) : wp S 86 0 [(0, rf 2), (1, iv r), (2, iv p)] [] s Q := by
  have e0 : zI s 3 0 = D 0 := h.1.1
  have hD0 := hA.1.1
  refine v_RL_bestOrder_0 ?_
  rw [e0]
  refine ⟨hr, fun hc => ⟨hp, fun hn => k1 fun hh => by have := hh.2.1; omega, fun h0 => ⟨⟨hc.1, by omega⟩, ?_⟩⟩, fun hc => k1 fun hh => hc hh.1⟩
  have hn8 := (hA.1.2 r hc.1 hc.2).2.1
  have en : zI s (7 + 4 * r) 1 = dN D r := by
    have hz := (h.1.2.1 r hc.1 hc.2).2.1
    rw [show (3 : Int) + 4 + 4 * r = 7 + 4 * r by omega] at hz
    exact hz
  rw [en]
  refine ⟨fun hlt => ?_, fun hge => k1 fun hh => by have := hh.2.2; omega⟩
  refine X_searchBest hA hH h hc fun u hfu hcu hbu => zkU_U ⟨⟨by omega, by omega⟩, ?_⟩
  have hob : 0 ≤ zI u 43 ((p.toNat : Nat) : Int) ∧ zI u 43 ((p.toNat : Nat) : Int) < (((dN D r).toNat : Nat) : Int) := hbu.1.1 p.toNat (by omega)
  have hz := k2 ⟨hc, h0, hlt⟩ u _ _ ⟨by omega, by omega⟩ hfu hcu hbu
  rw [Int.toNat_of_nonneg h0] at hz
  exact hz
end OPS23

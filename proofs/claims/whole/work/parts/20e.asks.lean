/-! ===== the numbers of a leaf and of a field ===== -/
noncomputable def fldN (D : Int → Int) (r f w : Int) : Int :=
  if w = 0 then dNm D r f else if w = 1 then dTy D r f else if w = 2 then dCt D r f else if w = 3 then ((gQ (shp D r)).getD f.toNat dq).1 else if w = 4 then ((gQ (shp D r)).getD f.toNat dq).2.1 else ((gQ (shp D r)).getD f.toNat dq).2.2.1
def hasFd (D : Int → Int) (r f : Int) : Prop := hasRc D r ∧ 0 ≤ f ∧ f < dN D r
def hasLr (D : Int → Int) (r k : Int) : Prop := hasRc D r ∧ 0 ≤ k ∧ k < ((gV (shp D r)).length : Int)
theorem zel_b {D : Int → Int} {r t : Int} (hA : okA D) (hr : hasRc D r) (ht : okT D r t) : 0 ≤ tyB (shp D) t ∧ tyB (shp D) t ≤ 400 := by
  unfold tyB zel
  split
  · have hb := zp8_b (zby_8 t)
    omega
  · have h3 := okT_in ht (by omega)
    obtain ⟨⟨g1, g2, g3, g4⟩, -, h40⟩ := shp_OK hA.1 (r := t - 100) h3.1 (by have := hr.2; omega)
    have hb := zup_b (e := gE (shp D (t - 100))) g2
    have h8 := zp8_b g2
    have hS : gS (shp D (t - 100)) = zup (gE (shp D (t - 100))) (gW (shp D (t - 100))) := rfl
    omega
theorem fld_gQ {D : Int → Int} {r : Int} {f : Nat} (hA : okA D) (hr : hasRc D r) (hf : (f : Int) < dN D r) : (gQ (shp D r)).getD f dq =
    ((gst (min (tyA (shp D) (dTy D r f)) (dP D r)) (zwd (dTy D r f)) (dCt D r f * tyB (shp D) (dTy D r f)) (gE (gN (shp D) (dP D r) (dFd D r) f)) (gL (gN (shp D) (dP D r) (dFd D r) f))).1, (gst (min (tyA (shp D) (dTy D r f)) (dP D r)) (zwd (dTy D r f)) (dCt D r f * tyB (shp D) (dTy D r f)) (gE (gN (shp D) (dP D r) (dFd D r) f)) (gL (gN (shp D) (dP D r) (dFd D r) f))).2.1, tyB (shp D) (dTy D r f), min (tyA (shp D) (dTy D r f)) (dP D r)) := by
  have hF := okD_Fs hA.1 hr.1 hr.2
  have hsh := shp_eq (D := D) hr.1 fun f q0 q1 => (hF.2.2.2 f q0 q1).1.2.1
  have hq := gQ_at (N := shp D) (pack := dP D r) (F := dFd D r) (dN D r).toNat f (by omega)
  rw [← hsh] at hq
  exact hq
section OPS10
variable {S : Option (Nat × (Nat → Int32))} {Q : Option Value ⊕ Nat → zSt → Prop} {s : zSt} {D : Int → Int} {H : List (Int → Int)} {T : List Int}
theorem X_leafInfo {r k w : Int} (hA : okA D) (h : cRel s D H T) (hr : rng r) (hk : rng k) (hw : rng w) (k1 : ¬ hasLr D r k → Q (rT 2) (zbump s)) (k2 : hasLr D r k → ¬ (0 ≤ w ∧ w ≤ 3) → Q (rT 0) (zbump s)) (k3 : hasLr D r k → 0 ≤ w ∧ w ≤ 3 → Q (rI (leaN D r k w)) s) : wp S 64 0 [(0, rf 2), (1, iv r), (2, iv k), (3, iv w)] [] s Q := by
  have hD0 := hA.1.1
  have e0 : zI s 3 0 = D 0 := h.1.1
  have hln : hasRc D r → zI s (67 + 11 * r) 0 = ((gV (shp D r)).length : Int) := fun hh => by
    have hz := (h.2.1 r hh.1 hh.2).2.2.2.2.2.1
    rw [show (62 : Int) + 11 * r + 5 = 67 + 11 * r by omega] at hz
    exact hz
  refine v_RL_leafInfo_0 ⟨hr, hk, fun q0 q1 => by omega, fun hc => ?_, fun hc => k1 fun hh => hc ⟨⟨hh.1.1, by have := hh.1.2; omega⟩, hh.2.1, by have := hln hh.1; have := hh.2.2; omega⟩⟩
  have hrc : hasRc D r := ⟨hc.1.1, by have := hc.1.2; omega⟩
  have hl := hln hrc
  have hh : hasLr D r k := ⟨hrc, hc.2.1, by have := hc.2.2; omega⟩
  have hol := (shp_OK hA.1 hrc.1 hrc.2).2.2
  have hr0 := hrc.1
  have hr1 := hrc.2
  have hk0 := hh.2.1
  have hk1 := hh.2.2
  have hv := (h.2.1 r hrc.1 hrc.2).2.2.2.2.2.2 k.toNat (by omega)
  rw [Int.toNat_of_nonneg hk0, show (62 : Int) + 11 * r + 5 + 1 = 68 + 11 * r by omega, show (62 : Int) + 11 * r + 5 + 2 = 69 + 11 * r by omega, show (62 : Int) + 11 * r + 5 + 3 = 70 + 11 * r by omega, show (62 : Int) + 11 * r + 5 + 4 = 71 + 11 * r by omega] at hv
  obtain ⟨v1, v2, v3, v4, -⟩ := hv
  refine ⟨hw, fun hc2 => ⟨⟨by omega, by omega⟩, fun e => ⟨⟨by omega, by omega⟩, ?_⟩, fun e => ⟨⟨by omega, by omega⟩, ?_⟩, fun e => ⟨⟨by omega, by omega⟩, ?_⟩, fun e => ⟨⟨by omega, by omega⟩, ?_⟩⟩, fun hc2 => k2 hh hc2⟩
  · have hq := k3 hh hc2; subst e; rw [v1]; exact hq
  · have hq := k3 hh hc2; subst e; rw [v2]; exact hq
  · have hq := k3 hh hc2; subst e; rw [v3]; exact hq
  · have hq := k3 hh hc2
    have e3 : w = 3 := by omega
    subst e3; rw [v4]; exact hq
theorem M_leafInfo {r k w : Int} (hA : okA D) (h : mRel s D H T) (hr : rng r) (hk : rng k) (hw : rng w) (k1 : ¬ hasLr D r k → ∀ u, frm modC s u → zI u 252 3 = 1 → mRel u D H T → Q (rI 0) u) (k2 : hasLr D r k → ¬ (0 ≤ w ∧ w ≤ 3) → ∀ u, frm modC s u → zI u 252 3 = 2 → mRel u D H T → Q (rI 0) u) (k3 : hasLr D r k → 0 ≤ w ∧ w ≤ 3 → ∀ u, frm modC s u → zI u 252 3 = 0 → mRel u D H T → Q (rI (leaN D r k w)) u) : wp S 210 0 [(0, rf 252), (1, iv r), (2, iv k), (3, iv w)] [] s Q := by
  have hD0 := hA.1.1
  refine v_Model_leafInfo_0 (C_lays hA.1 h.1 fun t hft hlt => zkU_U ?_)
  have hmt := mRel_ly h hft
  have e0 : zI t 253 0 = D 0 := hmt.1 0 (by omega) (by omega)
  have hbad : ∀ c : Int, c = 1 ∨ c = 2 → (∀ u, frm modC s u → zI u 252 3 = c → mRel u D H T → Q (rI 0) u) → wp S 210 52 [(0, rf 252), (1, iv r), (2, iv k), (3, iv w)] [iv c, rf 252] t Q := fun c hc kk =>
    v_Model_leafInfo_52 ⟨⟨by omega, by omega⟩, fun hn => by omega, fun _ => kk _ (frm_I (cLy_mod hft) (by unfold modC; omega)) zI_eq (mRel_252 hmt ⟨by omega, by omega⟩)⟩
  refine ⟨hr, ⟨by omega, by omega⟩, fun hc => hbad 1 (.inl rfl) (k1 fun hh => hc ⟨hh.1.1, by have := hh.1.2; omega⟩), fun hc => ?_⟩
  have hrc : hasRc D r := ⟨hc.1, by omega⟩
  have hr0 := hrc.1
  have hr1 := hrc.2
  have hol := (shp_OK hA.1 hrc.1 hrc.2).2.2
  obtain ⟨w1, w2, w3, w4⟩ := hlt r hrc.1 hrc.2
  refine ⟨⟨by omega, by omega⟩, hk, ⟨by omega, by omega⟩, fun hc2 => hbad 1 (.inl rfl) (k1 fun hh => hc2 ⟨hh.2.1, by have := hh.2.2; omega⟩), fun hc2 => ?_⟩
  have hh : hasLr D r k := ⟨hrc, hc2.1, by omega⟩
  have hk0 := hh.2.1
  have hk1 := hh.2.2
  refine ⟨hw, fun hc3 => ?_, fun hc3 => hbad 2 (.inr rfl) (k2 hh hc3)⟩
  have hv := w4 k.toNat (by omega)
  rw [Int.toNat_of_nonneg hk0] at hv
  obtain ⟨v1, v2, v3, v4, -⟩ := hv
  have hq := k3 hh hc3 (zwI t 252 3 0) (frm_I (cLy_mod hft) (by unfold modC; omega)) zI_eq (mRel_252 hmt ⟨by omega, by omega⟩)
  refine v_Model_leafInfo_52 ⟨⟨by omega, by omega⟩, fun _ => ⟨hw, fun n0 => ⟨fun n1 => ⟨fun n2 => ⟨⟨by omega, by omega⟩, ?_⟩, fun n2 => ⟨⟨by omega, by omega⟩, ?_⟩⟩, fun n1 => ⟨⟨by omega, by omega⟩, ?_⟩⟩, fun n0 => ⟨⟨by omega, by omega⟩, ?_⟩⟩, fun hn => by omega⟩
  · have e3 : w = 3 := by omega
    subst e3; rw [v4]; exact hq
  · subst n2; rw [v3]; exact hq
  · subst n1; rw [v2]; exact hq
  · subst n0; rw [v1]; exact hq
theorem fldN_rng {r f w : Int} (hA : okA D) (hh : hasFd D r f) : rng (fldN D r f w) := by
  have hF := okD_Fs hA.1 hh.1.1 hh.1.2
  have hf0 := hh.2.1
  have hf1 := hh.2.2
  obtain ⟨⟨g1, g2, g3, g4⟩, f2, f3⟩ := hF.2.2.2 f hf0 hf1
  have hq := fld_gQ (f := f.toNat) hA hh.1 (by omega)
  rw [Int.toNat_of_nonneg hf0] at hq
  have ht := okT_106 g2 (by have := hF.1; omega)
  have hz := zel_b hA hh.1 g2
  have hgo := gN_ok (N := shp D) (F := dFd D r) hF.2.1 f.toNat fun k hk => by
    obtain ⟨⟨g1, g2, g3, g4⟩, -⟩ := hF.2.2.2 k (by omega) (by omega)
    refine ⟨fun ht => ?_, g3, g4⟩
    have hz := okT_in g2 ht
    have ho := shp_OK hA.1 (r := dTy D r k - 100) hz.1 (by have := hh.1.2; omega)
    exact ⟨ho.1, ho.2.1 hz.2.2⟩
  have hgi := gst_in (own := min (tyA (shp D) (dTy D r f)) (dP D r)) (w := zwd (dTy D r f)) (len := dCt D r f * tyB (shp D) (dTy D r f)) (zp8_min f2 hF.2.1) hgo.1.1.1 hgo.1.2.2.1 (zwd_b _) f3.1
  have hgb := gst_step (own := min (tyA (shp D) (dTy D r f)) (dP D r)) (w := zwd (dTy D r f)) (len := dCt D r f * tyB (shp D) (dTy D r f)) (zp8_min f2 hF.2.1) hgo.1.1.1 hgo.1.2.2.1 (zwd_b _) f3
  unfold fldN
  split
  · exact ⟨by omega, by omega⟩
  split
  · exact ⟨by omega, by omega⟩
  split
  · exact ⟨by omega, by omega⟩
  have hgoE := hgo.1.1
  have hgo40 : (gV (gN (shp D) (dP D r) (dFd D r) f.toNat)).length ≤ 40 := by
    have hsh := shp_eq (D := D) hh.1.1 fun f q0 q1 => (hF.2.2.2 f q0 q1).1.2.1
    obtain ⟨W, hW⟩ := gN_mono (shp D) (dP D r) (dFd D r) f.toNat (dN D r).toNat (by omega)
    rw [← hsh] at hW
    have h40 := (shp_OK hA.1 hh.1.1 hh.1.2).2.2
    rw [hW, List.length_append] at h40
    omega
  have hwb := zwd_b (dTy D r f)
  rw [hq]
  dsimp only
  split
  · rcases Int.lt_or_le 0 (zwd (dTy D r f)) with hw | hw
    · have := (hgi.2.2.1 hw).1; have := hgb.1.2; exact ⟨by omega, by omega⟩
    · have := (hgi.2.2.2 (by omega)).1; have := hgb.1.2; exact ⟨by omega, by omega⟩
  split
  · rcases Int.lt_or_le 0 (zwd (dTy D r f)) with hw | hw
    · have := (hgi.2.2.1 hw).2; exact ⟨by omega, by omega⟩
    · have := (hgi.2.2.2 (by omega)).2; exact ⟨by omega, by omega⟩
  · exact ⟨by omega, by omega⟩
theorem X_fieldNumber {r f w : Int} (hA : okA D) (h : cRel s D H T) (hh : hasFd D r f) (hw : 0 ≤ w ∧ w ≤ 5) (k1 : Q (rI (fldN D r f w)) s) : wp S 32 0 [(0, rf 2), (1, iv r), (2, iv f), (3, iv w)] [] s Q := by
  have hF := okD_Fs hA.1 hh.1.1 hh.1.2
  have hr := hF.1
  have hn8 := hF.2.2.1
  have hf0 := hh.2.1
  have hf1 := hh.2.2
  have hfl := (h.1.2.1 r hh.1.1 hh.1.2).2.2 f.toNat (by omega)
  rw [Int.toNat_of_nonneg hf0, show (3 : Int) + 4 + 4 * r + 1 = 8 + 4 * r by omega, show (3 : Int) + 4 + 4 * r + 2 = 9 + 4 * r by omega, show (3 : Int) + 4 + 4 * r + 3 = 10 + 4 * r by omega] at hfl
  obtain ⟨f1, f2, f3⟩ := hfl
  rw [show dFd D r f.toNat = (dNm D r f, dTy D r f, dCt D r f) by unfold dFd; rw [Int.toNat_of_nonneg hf0]] at f1 f2 f3
  have hsh := shp_eq (D := D) hh.1.1 fun f q0 q1 => (hF.2.2.2 f q0 q1).1.2.1
  have hql : (gQ (shp D r)).length = (dN D r).toNat := by
    have hz := gQ_len (shp D) (dP D r) (dFd D r) (dN D r).toNat
    rw [← hsh] at hz
    exact hz
  have hq := (h.2.1 r hh.1.1 hh.1.2).2.2.2.2.1 f.toNat (by omega)
  rw [Int.toNat_of_nonneg hf0, show (62 : Int) + 11 * r + 1 = 63 + 11 * r by omega, show (62 : Int) + 11 * r + 2 = 64 + 11 * r by omega, show (62 : Int) + 11 * r + 3 = 65 + 11 * r by omega] at hq
  obtain ⟨q1, q2, q3, -⟩ := hq
  refine v_RL_fieldNumber_0 ⟨hr, ⟨by omega, by omega⟩, fun e => ⟨⟨by omega, by omega⟩, ?_⟩, fun e => ⟨⟨by omega, by omega⟩, ?_⟩, fun e => ⟨⟨by omega, by omega⟩, ?_⟩, fun e => ⟨⟨by omega, by omega⟩, ?_⟩, fun e => ⟨⟨by omega, by omega⟩, ?_⟩, fun e => ⟨⟨by omega, by omega⟩, ?_⟩⟩
  · subst e; rw [f1]; exact k1
  · subst e; rw [f2]; exact k1
  · subst e; rw [f3]; exact k1
  · subst e; rw [q1]; exact k1
  · subst e; rw [q2]; exact k1
  · have e5 : w = 5 := by omega
    subst e5; rw [q3]; exact k1
theorem X_fieldInfo {r f w : Int} (hA : okA D) (h : cRel s D H T) (hr : rng r) (hf : rng f) (hw : rng w) (k1 : ¬ hasFd D r f → Q (rT 2) (zbump s)) (k2 : hasFd D r f → ¬ (0 ≤ w ∧ w ≤ 5) → Q (rT 0) (zbump s)) (k3 : hasFd D r f → 0 ≤ w ∧ w ≤ 5 → Q (rI (fldN D r f w)) s) : wp S 62 0 [(0, rf 2), (1, iv r), (2, iv f), (3, iv w)] [] s Q := by
  have hD0 := hA.1.1
  have e0 : zI s 3 0 = D 0 := h.1.1
  refine v_RL_fieldInfo_0 ⟨hr, fun hc => ⟨hf, fun hf0 => k1 fun hh => by have := hh.2.1; omega, fun hf0 => ?_⟩, fun hc => k1 fun hh => hc ⟨hh.1.1, by have := hh.1.2; omega⟩⟩
  have hrc : hasRc D r := ⟨hc.1, by omega⟩
  have hn := (h.1.2.1 r hrc.1 hrc.2).2.1
  rw [show (3 : Int) + 4 + 4 * r = 7 + 4 * r by omega] at hn
  refine ⟨⟨by omega, by omega⟩, fun hf1 => ?_, fun hf1 => k1 fun hh => by have := hh.2.2; omega⟩
  have hh : hasFd D r f := ⟨hrc, hf0, by omega⟩
  exact ⟨hw, fun hc2 => X_fieldNumber hA h hh hc2 (zkI_I (fldN_rng hA hh) (k3 hh hc2)), fun hc2 => k2 hh hc2⟩
theorem M_fieldBy {r f w : Int} (hA : okA D) (hm : mD s D) (hly : mLay s D (D 0)) (hh : hasFd D r f) (hw : 0 ≤ w ∧ w ≤ 5) (k1 : ∀ t, frm cLy s t → Q (rI (fldN D r f w)) t) : wp S 209 0 [(0, rf 252), (1, iv r), (2, iv f), (3, iv w)] [] s Q := by
  have hF := okD_Fs hA.1 hh.1.1 hh.1.2
  have hr := hF.1
  have hn8 := hF.2.2.1
  have hf0 := hh.2.1
  have hf1 := hh.2.2
  have hr1 := hh.1.2
  refine v_Model_fieldBy_0 ⟨⟨by omega, by omega⟩, fun h3 => ?_, fun h3 => ?_⟩
  · refine C_inOrder fun t1 hf1' ho1 => zkU_U ?_
    have hm1 : mD t1 D := fun j q0 q1 => (fI hf1' (by omega)).trans (hm j q0 q1)
    have hmty : mTy t1 (shp D) r := fun i q0 q1 => by
      have hz := hly i q0 (by omega)
      exact ⟨(fI hf1' (by omega)).trans hz.1, (fI hf1' (by omega)).trans hz.2.1⟩
    refine C_places hF (o := fun k => k) (fun k hk => ⟨by omega, hk⟩) hm1 hmty (fun j hj => ho1 j (by omega) (by omega)) fun t2 hf2 h258 h258r hpos => ?_
    have hsh := shp_eq (D := D) (r := r) (by omega) fun f q0 q1 => (hF.2.2.2 f q0 q1).1.2.1
    have hpl := plo_id (N := shp D) (pack := dP D r) (D := D) (r := r) (o := fun k => (k : Int)) (dN D r).toNat fun j hj => rfl
    rw [← hsh] at hpl
    rw [hpl]
    dsimp only
    have hO := (shp_OK hA.1 (r := r) (by omega) (by omega)).1
    have hub := zup_8 hO.2.1 hO.1.2
    have huc := zup_b (e := gE (shp D r)) hO.2.1
    have hol := (shp_OK hA.1 (r := r) (by omega) (by omega)).2.2
    have hoe := hO.1.1
    have hall : frm cLy s t2 := frm_trans (frm_mono hf1' fun a ha => by unfold cLy; omega) (frm_mono hf2 fun a ha => by unfold cLy; omega)
    have hk := k1 t2 hall
    have hp := hpos (fun _ _ => rfl) f.toNat (by omega)
    rw [ploP_id fun j hj => rfl, Int.toNat_of_nonneg hf0] at hp
    have hq := fld_gQ (f := f.toNat) hA hh.1 (by omega)
    rw [Int.toNat_of_nonneg hf0] at hq
    unfold fldN at hk
    rw [if_neg (by omega), if_neg (by omega), if_neg (by omega), hq] at hk
    refine zkI_I ⟨by omega, by omega⟩ ⟨fun h4 => ⟨fun h5 => ?_, fun h5 => ?_⟩, fun h4 => ?_⟩
    · rw [if_neg h4, if_neg h5] at hk
      have ety : zI t2 253 (1 + 26 * r + 2 + 3 * f + 1) = dTy D r f := (fI hf2 (by omega)).trans (hm1 _ (by omega) (by omega))
      have ht := okT_106 (hF.2.2.2 f hf0 hf1).1.2.1 (by omega)
      refine ⟨⟨by omega, by omega⟩, ?_⟩
      rw [ety]
      refine ⟨ht.2, ?_⟩
      rw [zel_at (N := shp D) (g := gS) (fun h100 => ?_)]
      · exact hk
      · have hin := okT_in (hF.2.2.2 f hf0 hf1).1.2.1 h100
        exact (fI hf2 (by omega)).trans (hmty _ hin.1 hin.2.1).1
    · rw [if_neg h4, if_pos h5] at hk
      refine ⟨⟨by omega, by omega⟩, ?_⟩
      rw [hp.2]
      exact hk
    · rw [if_pos h4] at hk
      refine ⟨⟨by omega, by omega⟩, ?_⟩
      rw [hp.1]
      exact hk
  · have hk := k1 s frm_refl
    unfold fldN at hk
    refine ⟨⟨by omega, by omega⟩, ?_⟩
    rw [hm _ (by omega) (by omega)]
    rcases (by omega : w = 0 ∨ w = 1 ∨ w = 2) with e | e | e
    · subst e; rw [Int.add_zero]; exact hk
    · subst e; exact hk
    · subst e; exact hk
theorem M_fieldInfo {r f w : Int} (hA : okA D) (h : mRel s D H T) (hr : rng r) (hf : rng f) (hw : rng w) (k1 : ¬ hasFd D r f → ∀ u, frm modC s u → zI u 252 3 = 1 → mRel u D H T → Q (rI 0) u) (k2 : hasFd D r f → ¬ (0 ≤ w ∧ w ≤ 5) → ∀ u, frm modC s u → zI u 252 3 = 2 → mRel u D H T → Q (rI 0) u) (k3 : hasFd D r f → 0 ≤ w ∧ w ≤ 5 → ∀ u, frm modC s u → zI u 252 3 = 0 → mRel u D H T → Q (rI (fldN D r f w)) u) : wp S 208 0 [(0, rf 252), (1, iv r), (2, iv f), (3, iv w)] [] s Q := by
  have hD0 := hA.1.1
  have e0 : zI s 253 0 = D 0 := h.1 0 (by omega) (by omega)
  have hbad : ¬ hasFd D r f → wp S 208 28 [(0, rf 252), (1, iv r), (2, iv f), (3, iv w)] [iv 0] s Q := fun hn =>
    v_Model_fieldInfo_28 ⟨⟨by omega, by omega⟩, fun hc => absurd rfl hc, fun _ => k1 hn _ (frm_I frm_refl (by unfold modC; omega)) zI_eq (mRel_252 h ⟨by omega, by omega⟩)⟩
  refine v_Model_fieldInfo_0 ⟨hr, ⟨by omega, by omega⟩, fun hc => hbad fun hh => hc ⟨hh.1.1, by have := hh.1.2; omega⟩, fun hc => ?_⟩
  have hrc : hasRc D r := ⟨hc.1, by omega⟩
  have en : zI s 253 (1 + 26 * r + 1) = dN D r := h.1 _ (by omega) (by omega)
  have hn8 := (hA.1.2 r hrc.1 hrc.2).2.1
  refine ⟨⟨by omega, by omega⟩, hf, ⟨by omega, by omega⟩, fun hc2 => hbad fun hh => hc2 ⟨hh.2.1, by have := hh.2.2; omega⟩, fun hc2 => ?_⟩
  have hh : hasFd D r f := ⟨hrc, hc2.1, by omega⟩
  refine v_Model_fieldInfo_28 ⟨⟨by omega, by omega⟩, fun _ => ⟨hw, fun hc3 => ?_, fun hc3 => k2 hh hc3 _ (frm_I frm_refl (by unfold modC; omega)) zI_eq (mRel_252 h ⟨by omega, by omega⟩)⟩, fun hc3 => absurd hc3 (by omega)⟩
  have hm := mRel_252 (k := 3) (v := 0) h ⟨by omega, by omega⟩
  refine C_lays hA.1 hm.1 fun t hft hlt => zkU_U ?_
  have hmt := mRel_ly hm hft
  refine M_fieldBy hA hmt.1 hlt hh hc3 fun u hfu => zkI_I (fldN_rng hA hh) (k3 hh hc3 u (frm_trans (frm_I frm_refl (by unfold modC; omega)) (cLy_mod (frm_trans hft hfu))) ?_ (mRel_ly hmt hfu))
  rw [fI hfu (by unfold cLy; omega), fI hft (by unfold cLy; omega)]
  exact zI_eq
end OPS10

/-! ===== the numbers of a record, of a field and of a leaf ===== -/
/-- the record is there -/
def hasRc (D : Int → Int) (r : Int) : Prop := 0 ≤ r ∧ r < D 0
noncomputable def recN (D : Int → Int) (r w : Int) : Int :=
  if w = 0 then dP D r else if w = 1 then dN D r else if w = 2 then gS (shp D r) else if w = 3 then gW (shp D r) else if w = 4 then gS (shp D r) - gC (shp D r) else if w = 5 then ((gV (shp D r)).length : Int) else bi (usedR D r)
def leaN (D : Int → Int) (r k w : Int) : Int :=
  if w = 0 then lT ((gV (shp D r)).getD k.toNat dl) else if w = 1 then lA ((gV (shp D r)).getD k.toNat dl) else if w = 2 then lB ((gV (shp D r)).getD k.toNat dl) else lF ((gV (shp D r)).getD k.toNat dl)
theorem recN_rng {D : Int → Int} {r w : Int} (hA : okA D) (hr : hasRc D r) : rng (recN D r w) := by
  obtain ⟨o1, o2, -, o4⟩ := hA.1.2 r hr.1 hr.2
  obtain ⟨g1, g2, g3, g4⟩ := (shp_OK hA.1 hr.1 hr.2).1
  have hb := zup_b (e := gE (shp D r)) g2
  have h8 := zp8_b g2
  have h9 := zp8_b o1
  have hu := bi_rng (usedR D r)
  have hS : gS (shp D r) = zup (gE (shp D r)) (gW (shp D r)) := rfl
  unfold recN
  split
  · exact ⟨by omega, by omega⟩
  split
  · exact ⟨by omega, by omega⟩
  split
  · exact ⟨by omega, by omega⟩
  split
  · exact ⟨by omega, by omega⟩
  split
  · exact ⟨by omega, by omega⟩
  split
  · exact ⟨by omega, by omega⟩
  · exact hu
section OPS9
variable {S : Option (Nat × (Nat → Int32))} {Q : Option Value ⊕ Nat → zSt → Prop} {s : zSt} {D : Int → Int} {H : List (Int → Int)} {T : List Int}
theorem X_recordNumber {r w : Int} (hA : okA D) (h : cRel s D H T) (hr : hasRc D r) (hw : 0 ≤ w ∧ w ≤ 6) (k1 : Q (rI (recN D r w)) s) : wp S 28 0 [(0, rf 2), (1, iv r), (2, iv w)] [] s Q := by
  have hD0 := hA.1.1
  have hr0 := hr.1
  have hr1 := hr.2
  obtain ⟨f1, f2, -⟩ := h.1.2.1 r hr.1 hr.2
  obtain ⟨w1, w2, w3, -, -, w6, -⟩ := h.2.1 r hr.1 hr.2
  obtain ⟨g1, g2, g3, g4⟩ := (shp_OK hA.1 hr.1 hr.2).1
  have hol := (shp_OK hA.1 hr.1 hr.2).2.2
  rw [show (3 : Int) + 4 + 4 * r = 7 + 4 * r by omega] at f1 f2
  rw [show (62 : Int) + 11 * r + 5 = 67 + 11 * r by omega] at w6
  refine v_RL_recordNumber_0 ⟨⟨by omega, by omega⟩, ⟨by omega, by omega⟩, fun e => ?_, fun e => ?_, fun e => ?_, fun e => ?_, fun e => ?_, fun e => ?_, fun e => ?_⟩
  · subst e; rw [f1]; exact k1
  · subst e; rw [f2]; exact k1
  · subst e; rw [w1, w3]; exact ⟨zp8_zp2 g2, g1.1, by omega, k1⟩
  · subst e; rw [w1]; exact k1
  · subst e; rw [w1, w2, w3]; exact ⟨zp8_zp2 g2, g1.1, by omega, k1⟩
  · subst e; rw [w6]; exact k1
  · have e6 : w = 6 := by omega
    subst e6
    refine C_inUse hA h.1 ⟨by omega, by omega⟩ (zkI_I (bi_rng _) ⟨fun h0 => ?_, fun h0 => ?_⟩)
    · have hq : Q (rI (bi (usedR D r))) s := k1
      rw [h0] at hq; exact hq
    · have hq : Q (rI (bi (usedR D r))) s := k1
      rw [bi_T (Classical.byContradiction fun hn => h0 (bi_0.mpr hn))] at hq; exact hq
theorem X_recordInfo {r w : Int} (hA : okA D) (h : cRel s D H T) (hr : rng r) (hw : rng w) (k1 : ¬ hasRc D r → Q (rT 2) (zbump s)) (k2 : hasRc D r → ¬ (0 ≤ w ∧ w ≤ 6) → Q (rT 0) (zbump s)) (k3 : hasRc D r → 0 ≤ w ∧ w ≤ 6 → Q (rI (recN D r w)) s) : wp S 59 0 [(0, rf 2), (1, iv r), (2, iv w)] [] s Q := by
  have e0 : zI s 3 0 = D 0 := h.1.1
  refine v_RL_recordInfo_0 ⟨hr, fun hc => ⟨hw, fun hc2 => ?_, fun hc2 => ?_⟩, fun hc => k1 fun hh => hc ?_⟩
  · rw [e0] at hc
    exact X_recordNumber hA h hc hc2 (zkI_I (recN_rng hA hc) (k3 hc hc2))
  · rw [e0] at hc
    exact k2 hc hc2
  · rw [e0]; exact hh
theorem C_filled {r : Int} {V : List yLf} (hr : 0 ≤ r ∧ r < 6) (hV : mLv s r V) (hl : V.length ≤ 40) (n : Nat) : ∀ (i : Nat) (a : Int), i + n = V.length → Q (rI (a + filL (V.drop i))) s → wp S 207 4 [(0, rf 252), (1, iv r), (2, iv a), (3, iv i)] [] s Q := by
  have hn := hV.1
  induction n with
  | zero =>
    intro i a hi k1
    refine v_Model_filled_4 ⟨hr, ⟨by omega, by omega⟩, fun _ => ?_, fun hc => by omega⟩
    rw [List.drop_eq_nil_of_le (by omega)] at k1
    rw [show a + filL [] = a by show a + 0 = a; omega] at k1
    exact k1
  | succ n ihn =>
    intro i a hi k1
    have hil : i < V.length := by omega
    have hd : V.drop i = V.getD i dl :: V.drop (i + 1) := by
      rw [List.drop_eq_getElem_cons hil, List.getD_eq_getElem?_getD, List.getElem?_eq_getElem hil]; rfl
    rw [hd] at k1
    have k2 : Q (rI (a + lfl (V.getD i dl) + filL (V.drop (i + 1)))) s := by
      rw [show a + lfl (V.getD i dl) + filL (V.drop (i + 1)) = a + filL (V.getD i dl :: V.drop (i + 1)) by show _ = a + (lfl _ + filL _); omega]
      exact k1
    have hgo := ihn (i + 1) (a + lfl (V.getD i dl)) (by omega) k2
    obtain ⟨m1, m2, m3, m4, m5⟩ := hV.2 i hil
    refine v_Model_filled_4 ⟨hr, ⟨by omega, by omega⟩, fun hc => by omega, fun _ => ⟨⟨by omega, by omega⟩, ?_⟩⟩
    rw [m1, m3]
    refine ⟨fun hb => ?_, fun hb => ⟨fun hb2 => ?_, fun hb2 => ?_⟩⟩
    · rw [show lfl (V.getD i dl) = zby (lT (V.getD i dl)) by unfold lfl; exact if_neg fun hq => hb hq.1] at hgo
      exact hgo
    · rw [show lfl (V.getD i dl) = zby (lT (V.getD i dl)) by unfold lfl; exact if_neg fun hq => by have := hq.2; omega] at hgo
      exact hgo
    · rw [show lfl (V.getD i dl) = 0 by unfold lfl; exact if_pos ⟨hb, hb2⟩] at hgo
      exact hgo
theorem M_recordBy {r w : Int} (hA : okA D) (hm : mD s D) (hly : mLay s D (D 0)) (hr : hasRc D r) (hw : 0 ≤ w ∧ w ≤ 6) (k1 : Q (rI (recN D r w)) s) : wp S 206 0 [(0, rf 252), (1, iv r), (2, iv w)] [] s Q := by
  have hD0 := hA.1.1
  have hr0 := hr.1
  have hr1 := hr.2
  obtain ⟨w1, w2, w3⟩ := hly r hr.1 hr.2
  have hol := (shp_OK hA.1 hr.1 hr.2).2.2
  have hfil := shp_fil hA.1 r.toNat r (by omega) hr1
  obtain ⟨g1, g2, g3, g4⟩ := (shp_OK hA.1 hr.1 hr.2).1
  have f1 : zI s 253 (1 + 26 * r) = dP D r := hm _ (by omega) (by omega)
  have f2 : zI s 253 (1 + 26 * r + 1) = dN D r := hm _ (by omega) (by omega)
  refine v_Model_recordBy_0 ⟨⟨by omega, by omega⟩, fun e => ⟨⟨by omega, by omega⟩, ?_⟩, fun e => ⟨⟨by omega, by omega⟩, ?_⟩, fun e => ⟨⟨by omega, by omega⟩, ?_⟩, fun e => ⟨⟨by omega, by omega⟩, ?_⟩, fun e => ⟨⟨by omega, by omega⟩, ?_⟩, fun e => ⟨⟨by omega, by omega⟩, ?_⟩, fun e => ?_⟩
  · subst e; rw [f1]; exact k1
  · subst e; rw [f2]; exact k1
  · subst e; rw [w1]; exact k1
  · subst e; rw [w2]; exact k1
  · subst e
    have k2 : Q (rI (gS (shp D r) - gC (shp D r))) s := k1
    rw [hfil, ← w1] at k2
    have hfb : rng (filL (gV (shp D r))) := by rw [← hfil]; exact ⟨by omega, by omega⟩
    refine v_Model_filled_0 (C_filled ⟨by omega, by omega⟩ w3 hol (gV (shp D r)).length 0 0 (by omega) ?_)
    rw [List.drop_zero, Int.zero_add]
    exact zkI_I hfb k2
  · subst e; rw [w3.1]; exact k1
  · have e6 : w = 6 := by omega
    subst e6
    refine M_isUsed hA hm ⟨by omega, by omega⟩ (zkI_I (bi_rng _) ⟨fun h0 => ?_, fun h0 => ?_⟩)
    · have hq : Q (rI (bi (usedR D r))) s := k1
      rw [h0] at hq; exact hq
    · have hq : Q (rI (bi (usedR D r))) s := k1
      rw [bi_T (Classical.byContradiction fun hn => h0 (bi_0.mpr hn))] at hq; exact hq
theorem M_recordInfo {r w : Int} (hA : okA D) (h : mRel s D H T) (hr : rng r) (hw : rng w) (k1 : ¬ hasRc D r → ∀ u, frm modC s u → zI u 252 3 = 1 → mRel u D H T → Q (rI 0) u) (k2 : hasRc D r → ¬ (0 ≤ w ∧ w ≤ 6) → ∀ u, frm modC s u → zI u 252 3 = 2 → mRel u D H T → Q (rI 0) u) (k3 : hasRc D r → 0 ≤ w ∧ w ≤ 6 → ∀ u, frm modC s u → zI u 252 3 = 0 → mRel u D H T → Q (rI (recN D r w)) u) : wp S 205 0 [(0, rf 252), (1, iv r), (2, iv w)] [] s Q := by
  have hD0 := hA.1.1
  have e0 : zI s 253 0 = D 0 := h.1 0 (by omega) (by omega)
  refine v_Model_recordInfo_0 ⟨hr, ⟨by omega, by omega⟩, fun hc => ?_, fun hc => ?_⟩
  · have hh : hasRc D r := ⟨hc.1, by omega⟩
    refine ⟨hw, fun hc2 => ?_, fun hc2 => k2 hh hc2 _ (frm_I frm_refl (by unfold modC; omega)) zI_eq (mRel_252 h ⟨by omega, by omega⟩)⟩
    have hm := mRel_252 (k := 3) (v := 0) h ⟨by omega, by omega⟩
    refine C_lays hA.1 hm.1 fun t hft hlt => zkU_U ?_
    have hmt := mRel_ly hm hft
    exact M_recordBy hA hmt.1 hlt hh hc2 (zkI_I (recN_rng hA hh) (k3 hh hc2 t (frm_trans (frm_I frm_refl (by unfold modC; omega)) (cLy_mod hft)) (by rw [fI hft (by unfold cLy; omega)]; exact zI_eq) hmt))
  · exact k1 (fun hh => hc ⟨hh.1, by have := hh.2; omega⟩) _ (frm_I frm_refl (by unfold modC; omega)) zI_eq (mRel_252 h ⟨by omega, by omega⟩)
end OPS9

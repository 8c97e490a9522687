/-! ===== calls on the leaves of a table ===== -/
def isLv (D : Int → Int) (t : Int) : Prop := 0 ≤ t ∧ t < 3 ∧ tRc D t ≠ -1
def hasLf (D : Int → Int) (t k : Int) : Prop := isLv D t ∧ 0 ≤ k ∧ k < ((gV (tG D t)).length : Int)
def inRow (D : Int → Int) (t row : Int) : Prop := 0 ≤ row ∧ row < tNr D t
theorem isLv_ok {D : Int → Int} {t : Int} (hA : okA D) (h : isLv D t) : okTab D t := by
  rcases hA.2.2.1 t h.1 h.2.1 with hq | hq
  · exact absurd hq h.2.2
  · exact hq
section OPS2
variable {S : Option (Nat × (Nat → Int32))} {Q : Option Value ⊕ Nat → zSt → Prop} {s : zSt} {D : Int → Int} {H : List (Int → Int)} {T : List Int}
theorem c_live (hA : okA D) (h : cRel s D H T) (t : Int) : (0 ≤ t ∧ t < 3 ∧ zI s (31 + t) 0 ≠ 0 ↔ isLv D t) ∧ (0 ≤ t → t < 3 → zI s (31 + t) 0 ≠ 0 → 0 ≤ zI s (31 + t) 1 ∧ zI s (31 + t) 1 < zI s 3 0 ∧ zI s (31 + t) 1 < 6) := by
  have hD0 := hA.1.1
  have hn := h.1.1
  refine ⟨⟨fun hc => ⟨hc.1, hc.2.1, (cTb_live h.1 hc.1 hc.2.1).1.mp hc.2.2⟩, fun hc => ⟨hc.1, hc.2.1, (cTb_live h.1 hc.1 hc.2.1).1.mpr hc.2.2⟩⟩, fun h0 h1 h2 => ?_⟩
  have hl := (cTb_live h.1 h0 h1).1.mp h2
  have hT := isLv_ok hA ⟨h0, h1, hl⟩
  have e1 := (cTb_live h.1 h0 h1).2 hl 0 (by omega) (by omega)
  have e2 : zI s (31 + t) 1 = tRc D t := by rw [Int.add_zero] at e1; exact e1
  have hr := hT.1
  omega
theorem c_leaf (hA : okA D) (h : cRel s D H T) (t k : Int) : ((0 ≤ t ∧ t < 3 ∧ zI s (31 + t) 0 ≠ 0) ∧ 0 ≤ k ∧ k < zI s (67 + 11 * zI s (31 + t) 1) 0) ↔ hasLf D t k := by
  have hl := (c_live hA h t).1
  have hlen : isLv D t → zI s (67 + 11 * zI s (31 + t) 1) 0 = ((gV (tG D t)).length : Int) := fun hv => by
    have hT := isLv_ok hA hv
    have e1 := (cTb_live h.1 hv.1 hv.2.1).2 hv.2.2 0 (by omega) (by omega)
    have e2 : zI s (31 + t) 1 = tRc D t := by rw [Int.add_zero] at e1; exact e1
    have hz := (h.2.1 (tRc D t) hT.1.1 hT.1.2).2.2.2.2.2.1
    rw [e2, show 67 + 11 * tRc D t = 62 + 11 * tRc D t + 5 by omega]
    exact hz
  constructor
  · intro hc
    have hv := hl.mp hc.1
    exact ⟨hv, hc.2.1, by rw [← hlen hv]; exact hc.2.2⟩
  · intro hc
    exact ⟨hl.mpr hc.1, hc.2.1, by rw [hlen hc.1]; exact hc.2.2⟩
theorem c_row (hA : okA D) (h : cRel s D H T) (t row : Int) : ((0 ≤ t ∧ t < 3 ∧ zI s (31 + t) 0 ≠ 0) ∧ 0 ≤ row ∧ row < zI s (31 + t) 2) ↔ (isLv D t ∧ inRow D t row) := by
  have hl := (c_live hA h t).1
  have hrw : isLv D t → zI s (31 + t) 2 = tNr D t := fun hv => (cTb_live h.1 hv.1 hv.2.1).2 hv.2.2 1 (by omega) (by omega)
  constructor
  · intro hc
    have hv := hl.mp hc.1
    exact ⟨hv, hc.2.1, by rw [← hrw hv]; exact hc.2.2⟩
  · intro hc
    exact ⟨hl.mpr hc.1, hc.2.1, by rw [hrw hc.1]; exact hc.2.2⟩
theorem c_place (hA : okA D) (h : cRel s D H T) (t row k : Int) : (((0 ≤ t ∧ t < 3 ∧ zI s (31 + t) 0 ≠ 0) ∧ 0 ≤ row ∧ row < zI s (31 + t) 2) ∧ 0 ≤ k ∧ k < zI s (67 + 11 * zI s (31 + t) 1) 0) ↔ (hasLf D t k ∧ inRow D t row) := by
  have h1 := c_row hA h t row
  have h2 := c_leaf hA h t k
  constructor
  · intro hc
    exact ⟨h2.mp ⟨hc.1.1, hc.2⟩, (h1.mp hc.1).2⟩
  · intro hc
    exact ⟨h1.mpr ⟨hc.1.1, hc.2⟩, (h2.mpr hc.1).2⟩
/-- a view that is open at a table, and the leaves that it reads -/
def vOpen (s : zSt) (D : Int → Int) (t : Int) : Prop := zI s 48 0 = tBs D t ∧ zI s 48 1 = tOr D t ∧ cVw s 48 (tG D t) (tNr D t) (tLy D t) ∧ cMm s 6 D
theorem vOpen_fr {P : Int → Prop} {u : zSt} {t : Int} (h : vOpen s D t) (hf : frm P s u) (hn : ∀ x, 48 ≤ x → x ≤ 52 → ¬ P x) {D' : Int → Int} (hag : agT D D') (hD : okD D) (hT : okTab D t) (ht : 0 ≤ t ∧ t < 3) (hm : cMm u 6 D') : vOpen u D' t := by
  obtain ⟨a1, a2, a3, a4, a5, a6⟩ := agT_tab hag ht.1 ht.2
  have hg : tG D' t = tG D t := by unfold tG; rw [a1]; exact agR_shp hD (agT_R hag) hT.1.1 hT.1.2
  refine ⟨?_, ?_, ?_, hm⟩
  · rw [a5, fI hf (hn _ (by omega) (by omega))]; exact h.1
  · rw [a4, fI hf (hn _ (by omega) (by omega))]; exact h.2.1
  · rw [hg, a2, a3]
    exact cVw_fr h.2.2.1 hf fun x x0 x1 => hn x (by omega) (by omega)
theorem X_openView {t : Int} (hA : okA D) (hv : isLv D t) (hs : cSt s 3 D) (hsh : cSh s D (D 0)) (k1 : ∀ u, frm (fun x => 48 ≤ x ∧ x ≤ 52) s u → vOpen u D t → Q rU u) : wp S 120 0 [(0, rf 2), (1, iv t)] [] s Q :=
  C_openView ⟨hv.1, hv.2.1⟩ hA.1 (isLv_ok hA hv) hs hsh fun u hfu h0 h1 hcu => k1 u hfu ⟨h0, h1, hcu, by
    have hm := hs.2.2.2
    rw [show (3 : Int) + 3 = 6 by omega] at hm
    exact cMm_fr hm hfu (by omega)⟩
theorem X_read {t row : Int} {k : Nat} (hA : okA D) (hv : isLv D t) (ho : vOpen s D t) (hk : k < (gV (tG D t)).length) (h0 : inRow D t row) (k1 : Q (rL (valD D t row k)) s) : wp S 126 0 [(0, rf 48), (1, rf 6), (2, iv row), (3, iv k)] [] s Q := by
  have hT := isLv_ok hA hv
  obtain ⟨q1, q2, q3, q4, q5, q6, q7, q8⟩ := hT
  have hG : okG (tG D t) := okG_shp hA.1 q1.1 q1.2
  exact C_read lf_48 ho.2.2.1 ho.1 ho.2.1 hG q4 q3 hk h0 ho.2.2.2 hA.2.1 ⟨q6.1, by omega⟩ k1
theorem X_write {t row : Int} {k : Nat} {v : Int64} (hA : okA D) (hv : isLv D t) (ho : vOpen s D t) (hk : k < (gV (tG D t)).length) (h0 : inRow D t row) (k1 : ∀ u, frm (fun x => x = 6) s u → vOpen u (wrD D t row k v) t → Q rU u) : wp S 131 0 [(0, rf 48), (1, rf 6), (2, iv row), (3, iv k), (4, .long v)] [] s Q := by
  have hT := isLv_ok hA hv
  have hT2 := hT
  obtain ⟨q1, q2, q3, q4, q5, q6, q7, q8⟩ := hT
  have hG : okG (tG D t) := okG_shp hA.1 q1.1 q1.2
  refine C_write lf_48 (by omega) ho.2.2.1 ho.1 ho.2.1 hG q4 q3 hk h0 ho.2.2.2 ⟨q6.1, by omega⟩ fun u hfu hcu => ?_
  exact k1 u hfu (vOpen_fr ho hfu (fun x x0 x1 => by omega) (wrD_okA (v := v) hA hT2 hk h0).1 hA.1 hT2 ⟨hv.1, hv.2.1⟩ hcu)
/-! the reference -/
theorem M_hasLeaf {t k : Int} (hA : okA D) (h : mRel s D H T) (ht : rng t) (hk : rng k) (k1 : ∀ u, frm cLy s u → (isLv D t → mLay u D (D 0)) → Q (rI (bi (hasLf D t k))) u) : wp S 243 0 [(0, rf 252), (1, iv t), (2, iv k)] [] s Q := by
  have hD0 := hA.1.1
  refine v_Model_hasLeaf_0 ⟨ht, fun hc => ?_, fun hc => ?_⟩
  · rw [h.1 _ (by omega) (by omega)] at hc
    have hv : isLv D t := ⟨hc.1, by omega, hc.2.2⟩
    have hT := isLv_ok hA hv
    refine C_lays hA.1 h.1 fun u hfu hlu => zkU_U ?_
    have e0 : zI u 253 (157 + 6 * t + 0) = tRc D t := by rw [fI hfu (by unfold cLy; omega), Int.add_zero]; exact h.1 _ (by omega) (by omega)
    have hlen := (hlu (tRc D t) hT.1.1 hT.1.2).2.2.1
    have h40 := (okG_shp hA.1 hT.1.1 hT.1.2).2.1
    rw [e0, hlen]
    refine ⟨⟨by omega, by omega⟩, ⟨by have := hT.1; omega, by have := hT.1; omega⟩, hk, ⟨by omega, by omega⟩, ?_⟩
    have hq := k1 u hfu fun _ => hlu
    rw [bi_iff (P' := 0 ≤ k ∧ k ≤ ((gV (shp D (tRc D t))).length : Int) - 1) ⟨fun hh => ⟨hh.2.1, by have := hh.2.2; unfold tG at this; omega⟩, fun hh => ⟨hv, hh.1, by unfold tG; omega⟩⟩] at hq
    exact hq
  · have hn : ¬ isLv D t := fun hv => hc ⟨hv.1, by have := hv.2.1; omega, by rw [h.1 _ (by have := hv.1; omega) (by have := hv.2.1; omega)]; exact hv.2.2⟩
    have hq := k1 s frm_refl fun hv => absurd hv hn
    rw [bi_F (fun hh => hn hh.1)] at hq
    exact hq
theorem cLy_mod {u : zSt} (h : frm cLy s u) : frm modC s u := frm_mono h fun a ha => by unfold cLy at ha; unfold modC; omega
theorem mRel_ly {u : zSt} (h : mRel s D H T) (hf : frm cLy s u) : mRel u D H T := mRel_fr h hf fun a a0 a1 => by unfold cLy; omega
theorem mLay_fr {P : Int → Prop} {u : zSt} {n : Int} (h : mLay s D n) (hf : frm P s u) (hn : ∀ a, 256 ≤ a → a ≤ 264 → ¬ P a) : mLay u D n := by
  intro r q0 q1
  obtain ⟨w1, w2, w3, w4⟩ := h r q0 q1
  refine ⟨(fI hf (hn _ (by omega) (by omega))).trans w1, (fI hf (hn _ (by omega) (by omega))).trans w2, (fI hf (hn _ (by omega) (by omega))).trans w3, fun i hi => ?_⟩
  obtain ⟨x1, x2, x3, x4, x5, x6⟩ := w4 i hi
  exact ⟨(fI hf (hn _ (by omega) (by omega))).trans x1, (fI hf (hn _ (by omega) (by omega))).trans x2, (fI hf (hn _ (by omega) (by omega))).trans x3, (fI hf (hn _ (by omega) (by omega))).trans x4, (fI hf (hn _ (by omega) (by omega))).trans x5, fun q hq => (fI hf (hn _ (by omega) (by omega))).trans (x6 q hq)⟩
theorem mLay_252 {n k v : Int} (h : mLay s D n) : mLay (zwI s 252 k v) D n := mLay_fr h (frm_I (P := fun a => a = 252) frm_refl rfl) fun a a0 a1 => by omega
/-- where a call that has both a leaf and a row goes on -/
theorem row_iff {t row : Int} : (0 ≤ row ∧ row ≤ tNr D t - 1) ↔ inRow D t row := ⟨fun h => ⟨h.1, by omega⟩, fun h => ⟨h.1, by have := h.2; omega⟩⟩
/-! get -/
theorem X_get {t row k : Int} (hA : okA D) (h : cRel s D H T) (ht : rng t) (hr : rng row) (hk : rng k) (k1 : ¬ (hasLf D t k ∧ inRow D t row) → Q (rT 2) (zbump s)) (k2 : hasLf D t k → inRow D t row → ∀ u, frm (fun x => 48 ≤ x ∧ x ≤ 52) s u → Q (rL (valD D t row k.toNat)) u) : wp S 125 0 [(0, rf 2), (1, iv t), (2, iv row), (3, iv k)] [] s Q := by
  refine v_RL_get_0 ⟨ht, hr, hk, (c_live hA h t).2, fun hc => ?_, fun hc => k1 fun hh => hc ((c_place hA h t row k).mpr hh)⟩
  obtain ⟨h1, h2⟩ := (c_place hA h t row k).mp hc
  refine X_openView hA h1.1 h.1 h.2.1 fun u hfu hou => zkU_U ?_
  have hkn : k = (k.toNat : Int) := by have := h1.2.1; omega
  rw [hkn]
  exact X_read hA h1.1 hou (by have := h1.2.2; omega) h2 (zkL_L (k2 h1 h2 u hfu))
theorem M_get {t row k : Int} (hA : okA D) (h : mRel s D H T) (ht : rng t) (hr : rng row) (hk : rng k) (k1 : ¬ (hasLf D t k ∧ inRow D t row) → ∀ u, frm modC s u → zI u 252 3 = 1 → mRel u D H T → Q (rL 0) u) (k2 : hasLf D t k → inRow D t row → ∀ u, frm modC s u → zI u 252 3 = 0 → mRel u D H T → Q (rL (valD D t row k.toNat)) u) : wp S 247 0 [(0, rf 252), (1, iv t), (2, iv row), (3, iv k)] [] s Q := by
  refine v_Model_get_0 (M_hasLeaf hA h ht hk fun u hfu hlu => zkI_I (bi_rng _) ⟨fun h0 => ?_, fun h0 => ?_⟩)
  · have hn := bi_0.mp h0
    exact k1 (fun hh => hn hh.1) _ (frm_I (cLy_mod hfu) (by unfold modC; omega)) zI_eq (mRel_252 (mRel_ly h hfu) ⟨by omega, by omega⟩)
  · have hl : hasLf D t k := Classical.byContradiction fun hn => h0 (bi_0.mpr hn)
    have hT := isLv_ok hA hl.1
    have ht3 := hl.1
    have e1 : zI u 253 (157 + 6 * t + 1) = tNr D t := by rw [fI hfu (by unfold cLy; omega)]; exact h.1 _ (by have := ht3.1; omega) (by have := ht3.2.1; omega)
    rw [e1]
    have h12 := hT.2.2.1
    refine ⟨⟨by have := ht3.1; omega, by have := ht3.2.1; omega⟩, hr, ⟨by omega, by omega⟩, fun hn => ?_, fun hy => ?_⟩
    · exact k1 (fun hh => hn (row_iff.mpr hh.2)) _ (frm_I (cLy_mod hfu) (by unfold modC; omega)) zI_eq (mRel_252 (mRel_ly h hfu) ⟨by omega, by omega⟩)
    · have hm := mRel_252 (k := 3) (v := 0) (mRel_ly h hfu) ⟨by omega, by omega⟩
      have hly := mLay_252 (k := 3) (v := 0) (hlu ht3)
      have hkn : k = (k.toNat : Int) := by have := hl.2.1; omega
      rw [hkn]
      refine C_value ⟨ht3.1, ht3.2.1⟩ hA.1 hT hm.1 (hly _ hT.1.1 hT.1.2) (by have := hl.2.2; omega) (row_iff.mp hy) (zkL_L ?_)
      exact k2 hl (row_iff.mp hy) _ (frm_I (cLy_mod hfu) (by unfold modC; omega)) zI_eq hm
end OPS2

/-! ===== more calls on the leaves of a table ===== -/
def wrsD (D : Int → Int) (t : Int) (k : Nat) (st step : Int64) : Nat → Int → Int
  | 0 => D
  | i + 1 => wrD (wrsD D t k st step i) t i k (st + zi2l i * step)
def sumD (D : Int → Int) (t : Int) (k : Nat) : Nat → Int64
  | 0 => 0
  | i + 1 => sumD D t k i + valD D t i k
/-- what a relation asks of a comparison -/
def relC (rel : Int) (u v : Int64) : Prop := (rel = 0 ∧ zcmp u v < 0) ∨ (rel = 1 ∧ zcmp u v = 0) ∨ (rel = 2 ∧ 0 < zcmp u v)
noncomputable def cntD (D : Int → Int) (t : Int) (k : Nat) (rel : Int) (v : Int64) : Nat → Int
  | 0 => 0
  | i + 1 => cntD D t k rel v i + bi (relC rel (valD D t i k) v)
theorem tG_ag {D D' : Int → Int} {t : Int} (hA : okA D) (h : agT D D') (hv : isLv D t) : isLv D' t ∧ tG D' t = tG D t ∧ tNr D' t = tNr D t := by
  obtain ⟨a1, a2, a3, a4, a5, a6⟩ := agT_tab h hv.1 hv.2.1
  have hT := isLv_ok hA hv
  exact ⟨⟨hv.1, hv.2.1, by rw [a1]; exact hv.2.2⟩, by unfold tG; rw [a1]; exact agR_shp hA.1 (agT_R h) hT.1.1 hT.1.2, a2⟩
theorem agT_trans {D D' D2 : Int → Int} (h : agT D D') (k : agT D' D2) : agT D D2 := fun j q0 q1 => (k j q0 q1).trans (h j q0 q1)
theorem wrsD_ok {D : Int → Int} {t : Int} {k : Nat} {st step : Int64} (hA : okA D) (hv : isLv D t) (hk : k < (gV (tG D t)).length) : ∀ i : Nat, (i : Int) ≤ tNr D t → agT D (wrsD D t k st step i) ∧ okA (wrsD D t k st step i) := by
  intro i
  induction i with
  | zero => intro _; exact ⟨fun _ _ _ => rfl, hA⟩
  | succ i ihi =>
    intro hi
    obtain ⟨h1, h2⟩ := ihi (by omega)
    obtain ⟨g1, g2, g3⟩ := tG_ag hA h1 hv
    have hz := wrD_okA (t := t) (row := i) (k := k) (v := st + zi2l i * step) h2 (isLv_ok h2 g1) (by rw [g2]; exact hk) ⟨by omega, by rw [g3]; omega⟩
    exact ⟨agT_trans h1 hz.1, hz.2⟩
section OPS3
variable {S : Option (Nat × (Nat → Int32))} {Q : Option Value ⊕ Nat → zSt → Prop} {s : zSt} {D : Int → Int} {H : List (Int → Int)} {T : List Int}
/-- a call of the reference that asks for a leaf and a row -/
theorem M_lfrow {t row k : Int} {u : zSt} (hA : okA D) (h : mRel s D H T) (hfu : frm cLy s u) (hlu : isLv D t → mLay u D (D 0)) (hl : hasLf D t k) : zI u 253 (157 + 6 * t + 1) = tNr D t ∧ (0 ≤ 157 + 6 * t + 1 ∧ 157 + 6 * t + 1 < 1199) ∧ rng (tNr D t - 1) ∧ (1 ≤ tNr D t ∧ tNr D t ≤ 12) ∧ mRel u D H T ∧ mLay u D (D 0) ∧ frm modC s u ∧ k = (k.toNat : Int) ∧ k.toNat < (gV (tG D t)).length := by
  have ht3 := hl.1
  have hT := isLv_ok hA ht3
  have h12 := hT.2.2.1
  have hk := hl.2
  exact ⟨by rw [fI hfu (by unfold cLy; omega)]; exact h.1 _ (by have := ht3.1; omega) (by have := ht3.2.1; omega), ⟨by have := ht3.1; omega, by have := ht3.2.1; omega⟩, ⟨by omega, by omega⟩, h12, mRel_ly h hfu, hlu ht3, cLy_mod hfu, by omega, by omega⟩
theorem M_val {t row : Int} {k : Nat} (hA : okA D) (h : mRel s D H T) (hly : mLay s D (D 0)) (hv : isLv D t) (hk : k < (gV (tG D t)).length) (hr : inRow D t row) (k1 : Q (rL (valD D t row k)) s) : wp S 248 0 [(0, rf 252), (1, iv t), (2, iv row), (3, iv k)] [] s Q := by
  have hT := isLv_ok hA hv
  exact C_value ⟨hv.1, hv.2.1⟩ hA.1 hT h.1 (hly _ hT.1.1 hT.1.2) hk hr k1
theorem mRel_D {u : zSt} {D' : Int → Int} (h : mRel s D H T) (hf : frm (fun x => x = 253) s u) (hm : mD u D') : mRel u D' H T :=
  ⟨hm, ⟨⟨(fI hf (by omega)).trans h.2.1.1.1, h.2.1.1.2⟩, fun i hi j q0 q1 => (fI hf (by omega)).trans (h.2.1.2 i hi j q0 q1)⟩, (fI hf (by omega)).trans h.2.2.1, fun i hi => (fI hf (by omega)).trans (h.2.2.2 i hi)⟩
theorem mLay_ag {u : zSt} {D' : Int → Int} (hD : okD D) (hag : agR D D') (h : mLay u D (D 0)) : mLay u D' (D' 0) := by
  have e0 : D' 0 = D 0 := hag 0 (by omega) (by omega)
  intro r q0 q1
  rw [e0] at q1
  unfold mRc
  rw [agR_shp hD hag q0 q1]
  exact h r q0 q1
theorem M_writes {t row : Int} {k : Nat} {v : Int64} (hA : okA D) (h : mRel s D H T) (hly : mLay s D (D 0)) (hv : isLv D t) (hk : k < (gV (tG D t)).length) (hr : inRow D t row) (k1 : ∀ u, frm (fun x => x = 253) s u → mRel u (wrD D t row k v) H T → mLay u (wrD D t row k v) ((wrD D t row k v) 0) → Q rU u) : wp S 252 0 [(0, rf 252), (1, iv t), (2, iv row), (3, iv k), (4, .long v)] [] s Q := by
  have hT := isLv_ok hA hv
  refine C_writes ⟨hv.1, hv.2.1⟩ hA.1 hT h.1 (hly _ hT.1.1 hT.1.2) hk hr fun u hfu hmu => ?_
  have hz := wrD_okA (v := v) hA hT hk hr
  exact k1 u hfu (mRel_D h hfu hmu) (mLay_ag hA.1 (agT_R hz.1) (mLay_fr hly hfu fun a a0 a1 => by omega))
/-! address -/
theorem X_address {t row k : Int} (hA : okA D) (h : cRel s D H T) (ht : rng t) (hr : rng row) (hk : rng k) (k1 : ¬ (hasLf D t k ∧ inRow D t row) → Q (rT 2) (zbump s)) (k2 : hasLf D t k → inRow D t row → ∀ u, frm (fun x => 48 ≤ x ∧ x ≤ 52) s u → Q (rI (adr D t row k.toNat)) u) : wp S 116 0 [(0, rf 2), (1, iv t), (2, iv row), (3, iv k)] [] s Q := by
  refine v_RL_address_0 ⟨ht, hr, hk, (c_live hA h t).2, fun hc => ?_, fun hc => k1 fun hh => hc ((c_place hA h t row k).mpr hh)⟩
  obtain ⟨h1, h2⟩ := (c_place hA h t row k).mp hc
  refine X_openView hA h1.1 h.1 h.2.1 fun u hfu hou => zkU_U ?_
  have hT := isLv_ok hA h1.1
  have hG : okG (tG D t) := okG_shp hA.1 hT.1.1 hT.1.2
  have hkn : k = (k.toNat : Int) := by have := h1.2.1; omega
  have hkl : k.toNat < (gV (tG D t)).length := by have := h1.2.2; omega
  obtain ⟨o1, o2, ⟨v2, v3, v4, v5, v6, v7⟩, o4⟩ := hou
  obtain ⟨w1, w2, w3, w4⟩ := v7 k.toNat hkl
  have hbr := vBr_b hT.2.2.2.1 hT.2.2.1
  have h40 := hG.2.1
  rw [← hkn] at w2 w3
  rw [o1, v3, v5, v6, w2, w3]
  refine ⟨⟨by omega, by omega⟩, by omega, by omega, h2.1, ?_⟩
  have hq := k2 h1 h2 u hfu
  have he : tBs D t + row / vBr (tLy D t) (tNr D t) * vBb (tG D t) (tLy D t) (tNr D t) + vSt (tG D t) (tLy D t) (tNr D t) k.toNat + row % vBr (tLy D t) (tNr D t) * wd (gV (tG D t)) k.toNat = adr D t row k.toNat := by unfold adr dist; omega
  rw [he]
  exact hq
theorem M_address {t row k : Int} (hA : okA D) (h : mRel s D H T) (ht : rng t) (hr : rng row) (hk : rng k) (k1 : ¬ (hasLf D t k ∧ inRow D t row) → ∀ u, frm modC s u → zI u 252 3 = 1 → mRel u D H T → Q (rI 0) u) (k2 : hasLf D t k → inRow D t row → ∀ u, frm modC s u → zI u 252 3 = 0 → mRel u D H T → Q (rI (adr D t row k.toNat)) u) : wp S 242 0 [(0, rf 252), (1, iv t), (2, iv row), (3, iv k)] [] s Q := by
  refine v_Model_address_0 (M_hasLeaf hA h ht hk fun u hfu hlu => zkI_I (bi_rng _) ⟨fun h0 => ?_, fun h0 => ?_⟩)
  · have hn := bi_0.mp h0
    exact k1 (fun hh => hn hh.1) _ (frm_I (cLy_mod hfu) (by unfold modC; omega)) zI_eq (mRel_252 (mRel_ly h hfu) ⟨by omega, by omega⟩)
  · have hl : hasLf D t k := Classical.byContradiction fun hn => h0 (bi_0.mpr hn)
    obtain ⟨e1, e2, e3, e4, e5, e6, e7, e8, e9⟩ := M_lfrow (row := row) hA h hfu hlu hl
    have hT := isLv_ok hA hl.1
    rw [e1]
    refine ⟨e2, hr, e3, fun hn => ?_, fun hy => ?_⟩
    · exact k1 (fun hh => hn (row_iff.mpr hh.2)) _ (frm_I e7 (by unfold modC; omega)) zI_eq (mRel_252 e5 ⟨by omega, by omega⟩)
    · have hm := mRel_252 (k := 3) (v := 0) e5 ⟨by omega, by omega⟩
      have hly := mLay_252 (k := 3) (v := 0) e6
      have hq := k2 hl (row_iff.mp hy) _ (frm_I e7 (by unfold modC; omega)) (zI_eq (v := 0)) hm
      have hza := tab_adr hA hT e9 (row_iff.mp hy)
      rw [e8]
      exact C_addressOf ⟨hl.1.1, hl.1.2.1⟩ hA.1 hT hm.1 (hly _ hT.1.1 hT.1.2) e9 (row_iff.mp hy) (zkI_I ⟨by omega, by omega⟩ hq)
/-! set -/
theorem X_set {t row k : Int} {v : Int64} (hA : okA D) (hH : okHs H) (h : cRel s D H T) (ht : rng t) (hr : rng row) (hk : rng k) (k1 : ¬ (hasLf D t k ∧ inRow D t row) → Q (rT 2) (zbump s)) (k2 : hasLf D t k → inRow D t row → ∀ u, frm clsC s u → cRel u (wrD D t row k.toNat v) (pushH H D) T → Q (rL (valD D t row k.toNat)) u) : wp S 130 0 [(0, rf 2), (1, iv t), (2, iv row), (3, iv k), (4, .long v)] [] s Q := by
  refine v_RL_set_0 ⟨ht, hr, hk, (c_live hA h t).2, fun hc => ?_, fun hc => k1 fun hh => hc ((c_place hA h t row k).mpr hh)⟩
  obtain ⟨h1, h2⟩ := (c_place hA h t row k).mp hc
  have hT := isLv_ok hA h1.1
  refine X_save hA hH h fun w hfw hcw => zkU_U (X_openView hA h1.1 hcw.1 hcw.2.1 fun u hfu hou => zkU_U ?_)
  have hkn : k = (k.toNat : Int) := by have := h1.2.1; omega
  have hkl : k.toNat < (gV (tG D t)).length := by have := h1.2.2; omega
  rw [hkn]
  refine X_read hA h1.1 hou hkl h2 (zkL_L (X_write (v := v) hA h1.1 hou hkl h2 fun x hfx hox => zkU_U ?_))
  have hz := wrD_okA (v := v) hA hT hkl h2
  have hcu := cPre_fr hcw hA.1 (okHs_H (okHs_push hH hA)) hfu fun a ha => by unfold cK at ha; omega
  exact k2 h1 h2 x (frm_trans hfw (frm_trans (frm_mono hfu fun a ha => by unfold clsC; omega) (frm_mono hfx fun a ha => by unfold clsC; omega))) (cPre_Rel (cPre_mem hcu hA.1 (okHs_H (okHs_push hH hA)) hfx hz.1 hox.2.2.2))
theorem M_set {t row k : Int} {v : Int64} (hA : okA D) (h : mRel s D H T) (ht : rng t) (hr : rng row) (hk : rng k) (k1 : ¬ (hasLf D t k ∧ inRow D t row) → ∀ u, frm modC s u → zI u 252 3 = 1 → mRel u D H T → Q (rL 0) u) (k2 : hasLf D t k → inRow D t row → ∀ u, frm modC s u → zI u 252 3 = 0 → mRel u (wrD D t row k.toNat v) (pushH H D) T → Q (rL (valD D t row k.toNat)) u) : wp S 251 0 [(0, rf 252), (1, iv t), (2, iv row), (3, iv k), (4, .long v)] [] s Q := by
  refine v_Model_set_0 (M_hasLeaf hA h ht hk fun u hfu hlu => zkI_I (bi_rng _) ⟨fun h0 => ?_, fun h0 => ?_⟩)
  · have hn := bi_0.mp h0
    exact k1 (fun hh => hn hh.1) _ (frm_I (cLy_mod hfu) (by unfold modC; omega)) zI_eq (mRel_252 (mRel_ly h hfu) ⟨by omega, by omega⟩)
  · have hl : hasLf D t k := Classical.byContradiction fun hn => h0 (bi_0.mpr hn)
    obtain ⟨e1, e2, e3, e4, e5, e6, e7, e8, e9⟩ := M_lfrow (row := row) hA h hfu hlu hl
    rw [e1]
    refine ⟨e2, hr, e3, fun hn => ?_, fun hy => ?_⟩
    · exact k1 (fun hh => hn (row_iff.mpr hh.2)) _ (frm_I e7 (by unfold modC; omega)) zI_eq (mRel_252 e5 ⟨by omega, by omega⟩)
    · have hm := mRel_252 (k := 3) (v := 0) e5 ⟨by omega, by omega⟩
      have hly := mLay_252 (k := 3) (v := 0) e6
      rw [e8]
      refine C_msaves hm.1 hm.2.1 fun w hfw h252 hpw => zkU_U ?_
      have hmw : mRel w D (pushH H D) T := ⟨fun j q0 q1 => (fI hfw (by omega)).trans (hm.1 j q0 q1), hpw, (h252 5 (by omega)).trans hm.2.2.1, fun i hi => (fI hfw (by omega)).trans (hm.2.2.2 i hi)⟩
      have hlw : mLay w D (D 0) := mLay_fr hly hfw fun a a0 a1 => by omega
      refine M_val hA hmw hlw hl.1 e9 (row_iff.mp hy) (zkL_L (M_writes hA hmw hlw hl.1 e9 (row_iff.mp hy) fun x hfx hmx _ => zkU_U ?_))
      refine k2 hl (row_iff.mp hy) x (frm_trans (frm_I e7 (by unfold modC; omega)) (frm_trans (frm_mono hfw fun a ha => by unfold modC; omega) (frm_mono hfx fun a ha => by unfold modC; omega))) ?_ hmx
      rw [fI hfx (by omega), h252 3 (by omega), zI_eq]
end OPS3

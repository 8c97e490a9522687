/-! ===== leaves that are read and written ===== -/
section LEAF
variable {S : Option (Nat × (Nat → Int32))} {Q : Option Value ⊕ Nat → zSt → Prop}
theorem C_read {s : zSt} {a rows lay base ord row : Int} {k : Nat} {G : ySh} {D : Int → Int} (ha : isO a 8) (hv : cVw s a G rows lay) (hb : zI s a 0 = base) (ho : zI s a 1 = ord) (hG : okG G) (hl : 0 ≤ lay ∧ lay ≤ 8) (hrw : 1 ≤ rows ∧ rows ≤ 12) (hk : k < (gV G).length) (h0 : 0 ≤ row ∧ row < rows) (hm : cMm s 6 D) (hB : okB D) (hbs : 0 ≤ base ∧ base + bFor G rows lay ≤ 1024)
    (h1 : Q (rL (valO (lT ((gV G).getD k dl)) (vBt G lay k) (rawV D (base + dist G rows lay row k) (wd (gV G) k) ord))) s) : wp S 126 0 [(0, rf a), (1, rf 6), (2, iv row), (3, iv k)] [] s Q := by
  obtain ⟨v2, v3, v4, v5, v6, v7⟩ := hv
  obtain ⟨w1, w2, w3, w4⟩ := v7 k hk
  have hV := hG.2.1
  have hbr := vBr_b hl hrw
  have hdi := dist_in hG hl hrw hk h0.1 h0.2
  have hw8 := zp8_b (wd_8 (gV G) k)
  have hok := hG.2.2 _ (getD_mem (d := dl) hk)
  have hvb := vBt_b (lay := lay) hG hk
  have hadr : base + row / vBr lay rows * vBb G lay rows + vSt G lay rows k + row % vBr lay rows * wd (gV G) k = base + dist G rows lay row k := by unfold dist; omega
  refine v_View_read_0 ha lf_6 ⟨⟨by omega, by omega⟩, fun _ => ⟨⟨by omega, by omega⟩, by omega, by omega, ⟨by omega, by omega⟩, h0.1, ?_⟩, fun hc => absurd ⟨by omega, by omega, by omega⟩ hc⟩
  rw [hb, v5, v6, w2, w3, hadr]
  refine C_rawAt ha ho hm ⟨by omega, by omega⟩ ⟨by omega, by omega⟩ (zkL_L ?_)
  rw [w1, w4]
  generalize hraw : rawV D (base + dist G rows lay row k) (wd (gV G) k) ord = raw at h1 ⊢
  generalize hty : lT ((gV G).getD k dl) = ty at h1 hok ⊢
  have hval : ∀ c : Int64, valO ty (vBt G lay k) raw = c → Q (rL c) s := fun c hc => by rw [← hc]; exact h1
  refine ⟨fun hnb => ⟨fun hc => hval _ ?_, fun hc => hval _ ?_, fun hc => hval _ ?_, fun hc => hval _ ?_, fun hc => hval _ ?_, fun hc => hval _ ?_, fun hc => hval _ ?_, fun hc => ⟨fun hz => hval _ ?_, fun hz => hval _ ?_⟩, fun hc => ?_⟩, fun hbt => hval _ ?_⟩
  · unfold valO; rw [if_neg (by omega), if_pos hc]
  · unfold valO; rw [if_neg (by omega), if_neg (by omega), if_neg (by omega), if_neg (by omega), if_neg (by omega)]
  · unfold valO; rw [if_neg (by omega), if_neg (by omega), if_pos hc]
  · unfold valO; rw [if_neg (by omega), if_neg (by omega), if_neg (by omega), if_neg (by omega), if_neg (by omega)]
  · unfold valO; rw [if_neg (by omega), if_neg (by omega), if_neg (by omega), if_pos hc]
  · unfold valO; rw [if_neg (by omega), if_neg (by omega), if_neg (by omega), if_neg (by omega), if_neg (by omega)]
  · unfold valO; rw [if_neg (by omega), if_neg (by omega), if_neg (by omega), if_neg (by omega), if_neg (by omega)]
  · unfold valO; rw [if_neg (by omega), if_neg (by omega), if_neg (by omega), if_neg (by omega), if_pos hc, if_neg (fun hq => hz (zcmp_0.mpr hq))]
  · unfold valO; rw [if_neg (by omega), if_neg (by omega), if_neg (by omega), if_neg (by omega), if_pos hc, if_pos (zcmp_0.mp hz)]
  · rcases hok.1 with hq | hq <;> omega
  · have hw2 : wd (gV G) k = 2 := by unfold wd; rw [hty]; exact zby_le ⟨by omega, hbt.2⟩
    rw [hw2] at hraw
    have hnn : 0 ≤ raw.toInt := by rw [← hraw]; exact rawV_2 hB ⟨by omega, by omega⟩
    rw [zushr_eq hnn ⟨by omega, by omega⟩]
    unfold valO
    rw [if_pos ⟨by omega, hbt.2⟩]
theorem C_write {s : zSt} {a rows lay base ord row : Int} {k : Nat} {G : ySh} {D : Int → Int} {v : Int64} (ha : isO a 8) (ha6 : 6 < a) (hv : cVw s a G rows lay) (hb : zI s a 0 = base) (ho : zI s a 1 = ord) (hG : okG G) (hl : 0 ≤ lay ∧ lay ≤ 8) (hrw : 1 ≤ rows ∧ rows ≤ 12) (hk : k < (gV G).length) (h0 : 0 ≤ row ∧ row < rows) (hm : cMm s 6 D) (hbs : 0 ≤ base ∧ base + bFor G rows lay ≤ 1024)
    (hQ : ∀ t, frm (fun x => x = 6) s t → cMm t 6 (putV D (base + dist G rows lay row k) (wd (gV G) k) ord (stoO (lT ((gV G).getD k dl)) (vBt G lay k) (rawV D (base + dist G rows lay row k) (wd (gV G) k) ord) v)) → Q rU t) : wp S 131 0 [(0, rf a), (1, rf 6), (2, iv row), (3, iv k), (4, .long v)] [] s Q := by
  obtain ⟨v2, v3, v4, v5, v6, v7⟩ := hv
  obtain ⟨w1, w2, w3, w4⟩ := v7 k hk
  have hV := hG.2.1
  have hbr := vBr_b hl hrw
  have hdi := dist_in hG hl hrw hk h0.1 h0.2
  have hw8 := zp8_b (wd_8 (gV G) k)
  have hok := hG.2.2 _ (getD_mem (d := dl) hk)
  have hadr : base + row / vBr lay rows * vBb G lay rows + vSt G lay rows k + row % vBr lay rows * wd (gV G) k = base + dist G rows lay row k := by unfold dist; omega
  refine v_View_write_0 ha lf_6 ⟨⟨by omega, by omega⟩, fun _ => ⟨⟨by omega, by omega⟩, by omega, by omega, ⟨by omega, by omega⟩, h0.1, ?_⟩, fun hc => absurd ⟨by omega, by omega, by omega⟩ hc⟩
  rw [hb, v5, v6, w2, w3, hadr, w1, w4]
  have hput : ∀ u : Int64, stoO (lT ((gV G).getD k dl)) (vBt G lay k) (rawV D (base + dist G rows lay row k) (wd (gV G) k) ord) v = u → wp S 132 0 [(0, rf a), (1, rf 6), (2, iv (base + dist G rows lay row k)), (3, iv (wd (gV G) k)), (4, .long u)] [] s (fun o s1 => zkU (Q rU s1) (fun e => False) o) := fun u hu =>
    C_putRaw ha (by omega) ho hm ⟨by omega, by omega⟩ ⟨by omega, by omega⟩ fun t hft hct => zkU_U (hQ t hft (by rw [hu]; exact hct))
  refine ⟨fun h7 => ⟨fun hnb => hput _ ?_, fun hbt => C_rawAt ha ho hm ⟨by omega, by omega⟩ ⟨by omega, by omega⟩ (zkL_L ?_)⟩, fun h7 => ⟨fun hz => hput _ ?_, fun hz => hput _ ?_⟩⟩
  · unfold stoO; rw [if_neg (by omega), if_neg h7]
  · rw [w3, w4]
    exact hput _ (by unfold stoO; rw [if_pos ⟨by omega, hbt.2⟩])
  · unfold stoO; rw [if_neg (by omega), if_pos h7, if_neg (fun hq => hz (zcmp_0.mpr hq))]
  · unfold stoO; rw [if_neg (by omega), if_pos h7, if_pos (zcmp_0.mp hz)]
theorem C_addressOf {D : Int → Int} {t row : Int} {k : Nat} {s : zSt} (ht : 0 ≤ t ∧ t < 3) (hD : okD D) (hT : okTab D t) (hm : mD s D) (hR : mRc s D (tRc D t)) (hk : k < (gV (tG D t)).length) (h0 : 0 ≤ row ∧ row < tNr D t) (h1 : Q (rI (adr D t row k)) s) : wp S 245 0 [(0, rf 252), (1, iv t), (2, iv row), (3, iv k)] [] s Q := by
  obtain ⟨q1, q2, q3, q4, q5, q6, q7, q8⟩ := hT
  have hG : okG (tG D t) := okG_shp hD q1.1 q1.2
  have hdi := dist_in hG q4 q3 hk h0.1 h0.2
  have e0 : zI s 253 (157 + 6 * t + 0) = tRc D t := by rw [Int.add_zero]; exact hm _ (by omega) (by omega)
  have e1 : zI s 253 (157 + 6 * t + 1) = tNr D t := hm _ (by omega) (by omega)
  have e2 : zI s 253 (157 + 6 * t + 2) = tLy D t := hm _ (by omega) (by omega)
  have e4 : zI s 253 (157 + 6 * t + 4) = tBs D t := hm _ (by omega) (by omega)
  have hD0 := hD.1
  have hw8 := zp8_b (wd_8 (gV (tG D t)) k)
  refine v_Model_addressOf_0 ⟨⟨by omega, by omega⟩, ⟨by omega, by omega⟩, ⟨by omega, by omega⟩, ⟨by omega, by omega⟩, ?_⟩
  rw [e0, e1, e2, e4]
  exact C_distance ⟨q1.1, by omega⟩ hG q4 q3 hk h0 hR (zkI_I ⟨by show -2147483648 ≤ dist (tG D t) _ _ _ _; omega, by show dist (tG D t) _ _ _ _ ≤ 2147483647; omega⟩ h1)
theorem C_value {D : Int → Int} {t row : Int} {k : Nat} {s : zSt} (ht : 0 ≤ t ∧ t < 3) (hD : okD D) (hT : okTab D t) (hm : mD s D) (hR : mRc s D (tRc D t)) (hk : k < (gV (tG D t)).length) (h0 : 0 ≤ row ∧ row < tNr D t) (h1 : Q (rL (valD D t row k)) s) : wp S 248 0 [(0, rf 252), (1, iv t), (2, iv row), (3, iv k)] [] s Q := by
  have hT2 := hT
  obtain ⟨q1, q2, q3, q4, q5, q6, q7, q8⟩ := hT
  have hG : okG (tG D t) := okG_shp hD q1.1 q1.2
  have hdi := dist_in hG q4 q3 hk h0.1 h0.2
  have hw8 := zp8_b (wd_8 (gV (tG D t)) k)
  have hV := hG.2.1
  have hD0 := hD.1
  have hok := hG.2.2 _ (getD_mem (d := dl) hk)
  have e0 : zI s 253 (157 + 6 * t + 0) = tRc D t := by rw [Int.add_zero]; exact hm _ (by omega) (by omega)
  have e2 : zI s 253 (157 + 6 * t + 2) = tLy D t := hm _ (by omega) (by omega)
  have e3 : zI s 253 (157 + 6 * t + 3) = tOr D t := hm _ (by omega) (by omega)
  have hslot := hR.2.2.2 k hk
  refine v_Model_value_0 ⟨⟨by omega, by omega⟩, ?_⟩
  rw [e0]
  have e9 : zI s 259 (40 * tRc D t + k) = lT ((gV (tG D t)).getD k dl) := hslot.1
  have e10 : zI s 261 (40 * tRc D t + k) = lB ((gV (tG D t)).getD k dl) := hslot.2.2.1
  rw [e9]
  have hadrb : 0 ≤ adr D t row k ∧ adr D t row k + wd (gV (tG D t)) k ≤ 1024 := by unfold adr; omega
  refine ⟨⟨by omega, by omega⟩, C_addressOf ht hD hT2 hm hR hk h0 (zkI_I ⟨by omega, by omega⟩ ⟨⟨by omega, by omega⟩, ?_⟩)⟩
  rw [e3]
  refine C_taken ⟨by omega, by omega⟩ hm hadrb ⟨by show 0 ≤ wd (gV (tG D t)) k; omega, by show wd (gV (tG D t)) k ≤ 8; omega⟩ (zkL_L ?_)
  have hlw : zlw (zI s 253 (157 + 6 * t + 2)) (zI s 261 (40 * zI s 253 (157 + 6 * t + 0) + k)) = vBt (tG D t) (tLy D t) k := by rw [e0, e2, e10]; rfl
  rw [hlw, e0]
  unfold valD at h1
  show _ ∧ _
  have hwz : zby (lT ((gV (tG D t)).getD k dl)) = wd (gV (tG D t)) k := rfl
  rw [hwz]
  generalize rawV D (adr D t row k) (wd (gV (tG D t)) k) (tOr D t) = raw at h1 ⊢
  generalize hty : lT ((gV (tG D t)).getD k dl) = ty at h1 hok ⊢
  have hval : ∀ c : Int64, valO ty (vBt (tG D t) (tLy D t) k) raw = c → Q (rL c) s := fun c hc => by rw [← hc]; exact h1
  refine ⟨fun hnb => ⟨fun hc => hval _ ?_, fun hc => hval _ ?_, fun hc => hval _ ?_, fun hc => hval _ ?_, fun hc => hval _ ?_, fun hc => hval _ ?_, fun hc => hval _ ?_, fun hc => ⟨fun hz => hval _ ?_, fun hz => hval _ ?_⟩, fun hc => ?_⟩, fun hbt => ⟨⟨by omega, by omega⟩, ⟨by omega, by omega⟩, ⟨by omega, by omega⟩, hval _ ?_⟩⟩
  · unfold valO; rw [if_neg (by omega), if_pos hc]
  · unfold valO; rw [if_neg (by omega), if_neg (by omega), if_neg (by omega), if_neg (by omega), if_neg (by omega)]
  · unfold valO; rw [if_neg (by omega), if_neg (by omega), if_pos hc]
  · unfold valO; rw [if_neg (by omega), if_neg (by omega), if_neg (by omega), if_neg (by omega), if_neg (by omega)]
  · unfold valO; rw [if_neg (by omega), if_neg (by omega), if_neg (by omega), if_pos hc]
  · unfold valO; rw [if_neg (by omega), if_neg (by omega), if_neg (by omega), if_neg (by omega), if_neg (by omega)]
  · unfold valO; rw [if_neg (by omega), if_neg (by omega), if_neg (by omega), if_neg (by omega), if_neg (by omega)]
  · unfold valO; rw [if_neg (by omega), if_neg (by omega), if_neg (by omega), if_neg (by omega), if_pos hc, if_neg (fun hq => hz (zcmp_0.mpr hq))]
  · unfold valO; rw [if_neg (by omega), if_neg (by omega), if_neg (by omega), if_neg (by omega), if_pos hc, if_pos (zcmp_0.mp hz)]
  · rcases hok.1 with hq | hq <;> omega
  · unfold valO; rw [if_pos hbt]
theorem C_writes {D : Int → Int} {t row : Int} {k : Nat} {v : Int64} {s : zSt} (ht : 0 ≤ t ∧ t < 3) (hD : okD D) (hT : okTab D t) (hm : mD s D) (hR : mRc s D (tRc D t)) (hk : k < (gV (tG D t)).length) (h0 : 0 ≤ row ∧ row < tNr D t) (hQ : ∀ u, frm (fun x => x = 253) s u → mD u (wrD D t row k v) → Q rU u) : wp S 252 0 [(0, rf 252), (1, iv t), (2, iv row), (3, iv k), (4, .long v)] [] s Q := by
  have hT2 := hT
  obtain ⟨q1, q2, q3, q4, q5, q6, q7, q8⟩ := hT
  have hG : okG (tG D t) := okG_shp hD q1.1 q1.2
  have hdi := dist_in hG q4 q3 hk h0.1 h0.2
  have hw8 := zp8_b (wd_8 (gV (tG D t)) k)
  have hV := hG.2.1
  have hD0 := hD.1
  have hok := hG.2.2 _ (getD_mem (d := dl) hk)
  have e0 : zI s 253 (157 + 6 * t + 0) = tRc D t := by rw [Int.add_zero]; exact hm _ (by omega) (by omega)
  have e2 : zI s 253 (157 + 6 * t + 2) = tLy D t := hm _ (by omega) (by omega)
  have e3 : zI s 253 (157 + 6 * t + 3) = tOr D t := hm _ (by omega) (by omega)
  have hslot := hR.2.2.2 k hk
  refine v_Model_writes_0 ⟨⟨by omega, by omega⟩, ?_⟩
  rw [e0]
  have e9 : zI s 259 (40 * tRc D t + k) = lT ((gV (tG D t)).getD k dl) := hslot.1
  have e10 : zI s 261 (40 * tRc D t + k) = lB ((gV (tG D t)).getD k dl) := hslot.2.2.1
  rw [e9]
  have hadrb : 0 ≤ adr D t row k ∧ adr D t row k + wd (gV (tG D t)) k ≤ 1024 := by unfold adr; omega
  have hwz : zby (lT ((gV (tG D t)).getD k dl)) = wd (gV (tG D t)) k := rfl
  have hlw : zlw (zI s 253 (157 + 6 * t + 2)) (zI s 261 (40 * zI s 253 (157 + 6 * t + 0) + k)) = vBt (tG D t) (tLy D t) k := by rw [e0, e2, e10]; rfl
  rw [hwz]
  refine ⟨⟨by omega, by omega⟩, C_addressOf ht hD hT2 hm hR hk h0 (zkI_I ⟨by omega, by omega⟩ ?_)⟩
  rw [e3, hlw, e0]
  unfold wrD at hQ
  have hput : ∀ c : Int64, stoO (lT ((gV (tG D t)).getD k dl)) (vBt (tG D t) (tLy D t) k) (rawV D (adr D t row k) (wd (gV (tG D t)) k) (tOr D t)) v = c → wp S 253 0 [(0, rf 252), (1, iv (adr D t row k)), (2, iv (wd (gV (tG D t)) k)), (3, iv (tOr D t)), (4, .long c)] [] s (fun o s1 => zkU (Q rU s1) (fun e => False) o) := fun c hc =>
    C_puts ⟨by omega, by omega⟩ hm hadrb ⟨by omega, by omega⟩ fun u hfu hcu => zkU_U (hQ u hfu (by rw [hc]; exact hcu))
  refine ⟨fun hnb => ⟨fun h7 => ⟨⟨by omega, by omega⟩, hput _ ?_⟩, fun h7 => ⟨fun hz => ⟨⟨by omega, by omega⟩, hput _ ?_⟩, fun hz => ⟨⟨by omega, by omega⟩, hput _ ?_⟩⟩⟩, fun hbt => ⟨⟨by omega, by omega⟩, ⟨by omega, by omega⟩, ⟨by omega, by omega⟩, ⟨by omega, by omega⟩, ?_⟩⟩
  · unfold stoO; rw [if_neg hnb, if_neg h7]
  · unfold stoO; rw [if_neg hnb, if_pos h7, if_neg (fun hq => hz (zcmp_0.mpr hq))]
  · unfold stoO; rw [if_neg hnb, if_pos h7, if_pos (zcmp_0.mp hz)]
  · have hw2 : wd (gV (tG D t)) k = 2 := zby_le hbt
    have hraw : rawV D (adr D t row k) 2 (tOr D t) = rawV D (adr D t row k) (wd (gV (tG D t)) k) (tOr D t) := by rw [hw2]
    refine C_taken ⟨by omega, by omega⟩ hm (by rw [hw2] at hadrb; exact hadrb) ⟨by omega, by omega⟩ (zkL_L ?_)
    rw [hlw, e0, e3, hraw]
    exact ⟨⟨by omega, by omega⟩, hput _ (by unfold stoO; rw [if_pos hbt])⟩
theorem C_openView {D : Int → Int} {t : Int} {s : zSt} (ht : 0 ≤ t ∧ t < 3) (hD : okD D) (hT : okTab D t) (hs : cSt s 3 D) (hsh : cSh s D (D 0)) (hQ : ∀ u, frm (fun x => 48 ≤ x ∧ x ≤ 52) s u → zI u 48 0 = tBs D t → zI u 48 1 = tOr D t → cVw u 48 (tG D t) (tNr D t) (tLy D t) → Q rU u) : wp S 120 0 [(0, rf 2), (1, iv t)] [] s Q := by
  obtain ⟨q1, q2, q3, q4, q5, q6, q7, q8⟩ := hT
  have hG : okG (tG D t) := okG_shp hD q1.1 q1.2
  have hD0 := hD.1
  rcases hs.2.2.1 t ht.1 ht.2 with ⟨h1, -⟩ | ⟨-, h2, h3⟩
  · omega
  have hb : (3 : Int) + 28 + t = 31 + t := by omega
  rw [hb] at h2 h3
  have e1 : zI s (31 + t) 1 = tRc D t := by have := h3 0 (by omega) (by omega); rw [Int.add_zero] at this; exact this
  have e2 : zI s (31 + t) 2 = tNr D t := h3 1 (by omega) (by omega)
  have e3 : zI s (31 + t) 3 = tLy D t := h3 2 (by omega) (by omega)
  have e4 : zI s (31 + t) 4 = tOr D t := h3 3 (by omega) (by omega)
  have e5 : zI s (31 + t) 5 = tBs D t := h3 4 (by omega) (by omega)
  refine v_RL_openView_0 ⟨ht, ?_⟩
  rw [e1, e2, e3]
  refine ⟨⟨q1.1, by omega⟩, C_layOut lf_48 ⟨q1.1, by omega⟩ (by omega) hG q4 q3 (hsh _ q1.1 q1.2) fun u hfu _ _ hcu => zkU_U ?_⟩
  rw [fI hfu (by omega), fI hfu (by omega), e4, e5]
  refine hQ _ (frm_I (frm_I (frm_mono hfu fun x hx => ⟨by omega, by omega⟩) ⟨by omega, by omega⟩) ⟨by omega, by omega⟩) (by rw [zI_nj (by omega), zI_eq]) zI_eq ?_
  obtain ⟨v2, v3, v4, v5, v6, v7⟩ := hcu
  refine ⟨?_, ?_, ?_, ?_, ?_, fun k hk => ?_⟩
  · rw [zI_nj (by omega), zI_nj (by omega)]; exact v2
  · rw [zI_nj (by omega), zI_nj (by omega)]; exact v3
  · rw [zI_nj (by omega), zI_nj (by omega)]; exact v4
  · rw [zI_nj (by omega), zI_nj (by omega)]; exact v5
  · rw [zI_nj (by omega), zI_nj (by omega)]; exact v6
  · obtain ⟨w1, w2, w3, w4⟩ := v7 k hk
    refine ⟨?_, ?_, ?_, ?_⟩
    · rw [zI_ne (by omega), zI_ne (by omega)]; exact w1
    · rw [zI_ne (by omega), zI_ne (by omega)]; exact w2
    · rw [zI_ne (by omega), zI_ne (by omega)]; exact w3
    · rw [zI_ne (by omega), zI_ne (by omega)]; exact w4
end LEAF

/-! ===== a view of a table, and leaves that are read and written ===== -/
/-- a view (at a) of a table with the shape G -/
def cVw (s : zSt) (a : Int) (G : ySh) (rows lay : Int) : Prop := zI s a 2 = rows ∧ zI s a 3 = ((gV G).length : Int) ∧ zI s a 4 = bFor G rows lay ∧ zI s a 5 = vBr lay rows ∧ zI s a 6 = vBb G lay rows ∧ ∀ k : Nat, k < (gV G).length → zI s (a + 1) k = lT ((gV G).getD k dl) ∧ zI s (a + 2) k = vSt G lay rows k ∧ zI s (a + 3) k = wd (gV G) k ∧ zI s (a + 4) k = vBt G lay k
theorem cVw_fr {P : Int → Prop} {s t : zSt} {a rows lay : Int} {G : ySh} (h : cVw s a G rows lay) (hf : frm P s t) (hn : ∀ x, a ≤ x → x ≤ a + 4 → ¬ P x) : cVw t a G rows lay := by
  obtain ⟨h1, h2, h3, h4, h5, h6⟩ := h
  exact ⟨(fI hf (hn _ (by omega) (by omega))).trans h1, (fI hf (hn _ (by omega) (by omega))).trans h2, (fI hf (hn _ (by omega) (by omega))).trans h3, (fI hf (hn _ (by omega) (by omega))).trans h4, (fI hf (hn _ (by omega) (by omega))).trans h5, fun k hk => ⟨(fI hf (hn _ (by omega) (by omega))).trans (h6 k hk).1, (fI hf (hn _ (by omega) (by omega))).trans (h6 k hk).2.1, (fI hf (hn _ (by omega) (by omega))).trans (h6 k hk).2.2.1, (fI hf (hn _ (by omega) (by omega))).trans (h6 k hk).2.2.2⟩⟩
section CVW
variable {S : Option (Nat × (Nat → Int32))} {Q : Option Value ⊕ Nat → zSt → Prop}
/-- end of the columns so far, as the class counts it -/
def vEd (G : ySh) (lay rows : Int) : Nat → Int
  | 0 => 0
  | k + 1 => vSt G lay rows k + vBr lay rows * wd (gV G) k
theorem vEd_cl {G : ySh} {lay rows : Int} (h : lay ≠ 0) : ∀ k : Nat, vEd G lay rows k = clE (gV G) (vBr lay rows) k := by
  intro k
  cases k with
  | zero => rfl
  | succ k =>
    show vSt G lay rows k + _ = zup _ _ + _
    unfold vSt clS
    rw [if_neg h]
theorem C_layOut_40 {a r rows lay : Int} {G : ySh} (ha : isO a 8) (hr : 0 ≤ r ∧ r < 6) (had : a + 4 < 62) (hG : okG G) (hl : 0 ≤ lay ∧ lay ≤ 8) (hrw : 1 ≤ rows ∧ rows ≤ 12) (m : Nat) : ∀ (k : Nat) (s : zSt), k + m = (gV G).length → cShp s (62 + 11 * r) G → zI s a 2 = rows → zI s a 3 = ((gV G).length : Int) → zI s a 5 = vBr lay rows →
    (∀ j : Nat, j < k → zI s (a + 1) j = lT ((gV G).getD j dl) ∧ zI s (a + 2) j = vSt G lay rows j ∧ zI s (a + 3) j = wd (gV G) j ∧ zI s (a + 4) j = vBt G lay j) →
    (∀ t, frm (fun x => a ≤ x ∧ x ≤ a + 4) s t → zI t a 0 = zI s a 0 → zI t a 1 = zI s a 1 → cVw t a G rows lay → Q rU t) →
    wp S 107 40 [(0, rf a), (1, rf (62 + 11 * r)), (3, iv lay), (4, iv (vEd G lay rows k)), (5, iv k)] [] s Q := by
  have hb1 := vBr_b hl hrw
  have hg := gS_b hG
  have hV40 := hG.2.1
  have hw1 := hG.1.2.1
  have hfb := bFor_b hG hl hrw
  have hfe := bFor_eq hG hl hrw
  have hf8 := zup8_b ((rows + vBr lay rows - 1) / vBr lay rows * vBb G lay rows)
  rw [hfe] at hf8
  induction m with
  | zero =>
    intro k s hk hs h2 h3 h5 hj hQ
    have hkl : k = (gV G).length := by omega
    refine v_View_layOut_40 ha (isO_shape hr) ⟨⟨by omega, by omega⟩, fun _ => ⟨⟨by omega, by omega⟩, fun hc => ?_, fun hc => ?_⟩, fun hc => by omega⟩
    · have hed : zup (vEd G lay rows k) 8 = vBb G lay rows := by
        rw [vEd_cl hc, hkl]
        unfold vBb blk
        rw [if_neg hc]
      have hcb := clE_b (gV G) (m := vBr lay rows) ⟨by omega, by omega⟩ k
      rw [← vEd_cl hc] at hcb
      have hV := hG.2.1
      have hbb := vBb_b hG hl hrw
      rw [h2, h5, hed, hfe]
      refine ⟨.inr (.inr (.inr (.inl rfl))), hcb.1, by omega, ⟨by omega, by omega⟩, ⟨by omega, by omega⟩, by omega, by omega, hfb.1, by omega, ⟨by omega, by omega⟩, ?_⟩
      refine hQ _ (frm_I (frm_I frm_refl ⟨by omega, by omega⟩) ⟨by omega, by omega⟩) (by rw [zI_nj (by omega), zI_nj (by omega)]) (by rw [zI_nj (by omega), zI_nj (by omega)]) ⟨?_, ?_, ?_, ?_, ?_, fun j hjl => ?_⟩
      · rw [zI_nj (by omega), zI_nj (by omega)]; exact h2
      · rw [zI_nj (by omega), zI_nj (by omega)]; exact h3
      · rw [zI_eq]
      · rw [zI_nj (by omega), zI_nj (by omega)]; exact h5
      · rw [zI_nj (by omega), zI_eq]
      · obtain ⟨w1, w2, w3, w4⟩ := hj j (by omega)
        refine ⟨?_, ?_, ?_, ?_⟩
        · rw [zI_ne (by omega), zI_ne (by omega)]; exact w1
        · rw [zI_ne (by omega), zI_ne (by omega)]; exact w2
        · rw [zI_ne (by omega), zI_ne (by omega)]; exact w3
        · rw [zI_ne (by omega), zI_ne (by omega)]; exact w4
    · have hbb : zup (gE G) (gW G) = vBb G lay rows := by unfold vBb gS; rw [if_pos hc]
      have hbg := vBb_b hG hl hrw
      have hge := hG.1.1
      have hV := hG.2.1
      rw [hs.1, hs.2.2.1, h2, h5, hbb, hfe]
      refine ⟨zp8_zp2 hw1, hge.1, by omega, ⟨by omega, by omega⟩, ⟨by omega, by omega⟩, by omega, by omega, .inr (.inr (.inr (.inl rfl))), hfb.1, by omega, ⟨by omega, by omega⟩, ?_⟩
      refine hQ _ (frm_I (frm_I frm_refl ⟨by omega, by omega⟩) ⟨by omega, by omega⟩) (by rw [zI_nj (by omega), zI_nj (by omega)]) (by rw [zI_nj (by omega), zI_nj (by omega)]) ⟨?_, ?_, ?_, ?_, ?_, fun j hjl => ?_⟩
      · rw [zI_nj (by omega), zI_nj (by omega)]; exact h2
      · rw [zI_nj (by omega), zI_nj (by omega)]; exact h3
      · rw [zI_eq]
      · rw [zI_nj (by omega), zI_nj (by omega)]; exact h5
      · rw [zI_nj (by omega), zI_eq]
      · obtain ⟨w1, w2, w3, w4⟩ := hj j (by omega)
        refine ⟨?_, ?_, ?_, ?_⟩
        · rw [zI_ne (by omega), zI_ne (by omega)]; exact w1
        · rw [zI_ne (by omega), zI_ne (by omega)]; exact w2
        · rw [zI_ne (by omega), zI_ne (by omega)]; exact w3
        · rw [zI_ne (by omega), zI_ne (by omega)]; exact w4
  | succ m ihm =>
    intro k s hk hs h2 h3 h5 hj hQ
    have hkl : k < (gV G).length := by omega
    have hV := hG.2.1
    obtain ⟨-, hlv⟩ := hs.2.2.2.2.2
    obtain ⟨l1, l2, l3, -, -⟩ := hlv k hkl
    rw [show 62 + 11 * r + 5 + 1 = 62 + 11 * r + 6 by omega] at l1
    rw [show 62 + 11 * r + 5 + 2 = 62 + 11 * r + 7 by omega] at l2
    rw [show 62 + 11 * r + 5 + 3 = 62 + 11 * r + 8 by omega] at l3
    have hw8 := zp8_b (wd_8 (gV G) k)
    have hwk : zby (lT ((gV G).getD k dl)) = wd (gV G) k := rfl
    have hsb := vSt_b hG hl hrw hkl
    have hmb : 0 ≤ vBr lay rows * wd (gV G) k ∧ vBr lay rows * wd (gV G) k ≤ 12 * 8 := ⟨Int.mul_nonneg (by omega) (by omega), Int.mul_le_mul hb1.2 hw8.2 (by omega) (by omega)⟩
    have hstep : ∀ st bt : Int, st = vSt G lay rows k → bt = vBt G lay k → wp S 107 40 [(0, rf a), (1, rf (62 + 11 * r)), (3, iv lay), (4, iv (vSt G lay rows k + vBr lay rows * wd (gV G) k)), (5, iv ((k : Int) + 1))] [] (zwI (zwI (zwI (zwI s (a + 1) k (lT ((gV G).getD k dl))) (a + 3) k (wd (gV G) k)) (a + 2) k st) (a + 4) k bt) Q := by
      intro st bt hst hbt
      have hfr : frm (fun x => a ≤ x ∧ x ≤ a + 4) s (zwI (zwI (zwI (zwI s (a + 1) k (lT ((gV G).getD k dl))) (a + 3) k (wd (gV G) k)) (a + 2) k st) (a + 4) k bt) := frm_I (frm_I (frm_I (frm_I frm_refl ⟨by omega, by omega⟩) ⟨by omega, by omega⟩) ⟨by omega, by omega⟩) ⟨by omega, by omega⟩
      have h0s : ∀ i, zI (zwI (zwI (zwI (zwI s (a + 1) k (lT ((gV G).getD k dl))) (a + 3) k (wd (gV G) k)) (a + 2) k st) (a + 4) k bt) a i = zI s a i := fun i => by rw [zI_ne (by omega), zI_ne (by omega), zI_ne (by omega), zI_ne (by omega)]
      refine ihm (k + 1) _ (by omega) (cShp_fr hs hfr fun x x0 x1 => by omega) ((h0s 2).trans h2) ((h0s 3).trans h3) ((h0s 5).trans h5) (fun j hjk => ?_) fun t hft q0 q1 hct => hQ t (frm_trans hfr hft) (q0.trans (h0s 0)) (q1.trans (h0s 1)) hct
      by_cases hjk2 : j = k
      · subst hjk2
        refine ⟨?_, ?_, ?_, ?_⟩
        · rw [zI_ne (by omega), zI_ne (by omega), zI_ne (by omega), zI_eq]
        · rw [zI_ne (by omega), zI_eq]; exact hst
        · rw [zI_ne (by omega), zI_ne (by omega), zI_eq]
        · rw [zI_eq]; exact hbt
      · obtain ⟨w1, w2, w3, w4⟩ := hj j (by omega)
        refine ⟨?_, ?_, ?_, ?_⟩
        · rw [zI_ne (by omega), zI_ne (by omega), zI_ne (by omega), zI_nj (by omega)]; exact w1
        · rw [zI_ne (by omega), zI_nj (by omega), zI_ne (by omega), zI_ne (by omega)]; exact w2
        · rw [zI_ne (by omega), zI_ne (by omega), zI_nj (by omega), zI_ne (by omega)]; exact w3
        · rw [zI_nj (by omega), zI_ne (by omega), zI_ne (by omega), zI_ne (by omega)]; exact w4
    refine v_View_layOut_40 ha (isO_shape hr) ⟨⟨by omega, by omega⟩, fun hc => by omega, fun _ => ⟨⟨by omega, by omega⟩, ?_⟩⟩
    rw [l1, h5, hwk]
    refine ⟨⟨by omega, by omega⟩, ⟨by omega, by omega⟩, fun hc => ?_, fun hc => ⟨fun hc2 => absurd hc hc2, fun _ => ?_⟩⟩
    · have hcb := clE_b (gV G) (m := vBr lay rows) ⟨by omega, by omega⟩ k
      rw [← vEd_cl hc] at hcb
      have hst : zup (vEd G lay rows k) (wd (gV G) k) = vSt G lay rows k := by unfold vSt clS; rw [if_neg hc, vEd_cl hc]
      refine ⟨zp8_zp2 (wd_8 _ _), hcb.1, by omega, ?_, fun _ => ?_, fun hc2 => absurd hc2 hc⟩
      · rw [hst]; exact ⟨by omega, by omega⟩
      · rw [hst]
        exact hstep _ _ rfl (by unfold vBt; rw [if_neg hc])
    · have e7 : zI (zwI (zwI s (a + 1) k (lT ((gV G).getD k dl))) (a + 3) k (wd (gV G) k)) (62 + 11 * r + 7) k = vSt G lay rows k := by
        rw [zI_ne (by omega), zI_ne (by omega), l2]; unfold vSt; rw [if_pos hc]
      rw [e7]
      have e8 : zI (zwI (zwI (zwI s (a + 1) k (lT ((gV G).getD k dl))) (a + 3) k (wd (gV G) k)) (a + 2) k (vSt G lay rows k)) (62 + 11 * r + 8) k = vBt G lay k := by
        rw [zI_ne (by omega), zI_ne (by omega), zI_ne (by omega), l3]; unfold vBt; rw [if_pos hc]
      rw [e8]
      exact hstep _ _ rfl rfl
theorem C_layOut {a r rows lay : Int} {G : ySh} {s : zSt} (ha : isO a 8) (hr : 0 ≤ r ∧ r < 6) (had : a + 4 < 62) (hG : okG G) (hl : 0 ≤ lay ∧ lay ≤ 8) (hrw : 1 ≤ rows ∧ rows ≤ 12) (hs : cShp s (62 + 11 * r) G)
    (hQ : ∀ t, frm (fun x => a ≤ x ∧ x ≤ a + 4) s t → zI t a 0 = zI s a 0 → zI t a 1 = zI s a 1 → cVw t a G rows lay → Q rU t) :
    wp S 107 0 [(0, rf a), (1, rf (62 + 11 * r)), (2, iv rows), (3, iv lay)] [] s Q := by
  have hlv := hs.2.2.2.2.2.1
  have e5 : zI (zwI s a 2 rows) (62 + 11 * r + 5) 0 = ((gV G).length : Int) := by rw [zI_ne (by omega)]; exact hlv
  have hgo : ∀ b : Int, b = vBr lay rows → wp S 107 40 [(0, rf a), (1, rf (62 + 11 * r)), (3, iv lay), (4, iv 0), (5, iv 0)] [] (zwI (zwI (zwI s a 2 rows) a 3 ((gV G).length : Int)) a 5 b) Q := by
    intro b hb
    have hfr : frm (fun x => a ≤ x ∧ x ≤ a + 4) s (zwI (zwI (zwI s a 2 rows) a 3 ((gV G).length : Int)) a 5 b) := frm_I (frm_I (frm_I frm_refl ⟨by omega, by omega⟩) ⟨by omega, by omega⟩) ⟨by omega, by omega⟩
    refine C_layOut_40 (lay := lay) ha hr had hG hl hrw (gV G).length 0 _ (Nat.zero_add _) (cShp_fr hs hfr fun x x0 x1 => by omega) ?_ ?_ ?_ (fun j hj => absurd hj (Nat.not_lt_zero j)) fun t hft q0 q1 hct => hQ t (frm_trans hfr hft) (q0.trans ?_) (q1.trans ?_) hct
    · rw [zI_nj (by omega), zI_nj (by omega), zI_eq]
    · rw [zI_nj (by omega), zI_eq]
    · rw [zI_eq]; exact hb
    · rw [zI_nj (by omega), zI_nj (by omega), zI_nj (by omega)]
    · rw [zI_nj (by omega), zI_nj (by omega), zI_nj (by omega)]
  refine v_View_layOut_0 ha (isO_shape hr) ?_
  rw [e5]
  refine ⟨⟨by omega, by omega⟩, ⟨by omega, by omega⟩, fun hc2 => ⟨⟨by omega, by omega⟩, hgo _ ?_⟩, fun hc2 => ⟨⟨by omega, by omega⟩, hgo _ ?_⟩⟩
  · unfold vBr
    by_cases hc : lay = 0
    · rw [if_pos hc]; omega
    · rw [if_neg hc, if_neg hc2]; omega
  · have hc : ¬ lay = 0 := by omega
    unfold vBr; rw [if_neg hc, if_pos hc2]; omega
end CVW

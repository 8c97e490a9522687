/-! ===== lines, runs, the best layout: the reference ===== -/
section OPS22M
variable {S : Option (Nat × (Nat → Int32))} {Q : Option Value ⊕ Nat → zSt → Prop} {s : zSt} {D : Int → Int} {H : List (Int → Int)} {T : List Int}
theorem mRel_274 {u : zSt} (h : mRel s D H T) (hf : frm (fun a => a = 274) s u) : mRel u D H T := mRel_fr h hf fun a a0 a1 => by omega
theorem M_scan_t {t fr to_ : Int} {u : Int64} (hA : okA D) (hv : isLv D t) (hr : inRow D t fr ∧ inRow D t to_ ∧ fr ≤ to_) (h : mRel s D H T) (hly : mLay s D (D 0)) (k1 : ∀ v, frm (fun a => a = 274) s v → mMk v (tcB (tG D t) (tNr D t) (tLy D t) (tBs D t) u fr to_) → Q (rI 8192) v) :
    wp S 270 0 [(0, rf 252), (1, iv (zI s 253 ((157 + (6 * t)) + 0))), (2, iv (zI s 253 ((157 + (6 * t)) + 1))), (3, iv (zI s 253 ((157 + (6 * t)) + 2))), (4, iv (zI s 253 ((157 + (6 * t)) + 4))), (5, .long u), (7, iv fr), (8, iv to_)] [] s Q := by
  obtain ⟨q1, q2, q3, q4, q5, q6, q7, q8⟩ := isLv_ok hA hv
  have hG : okG (tG D t) := okG_shp hA.1 q1.1 q1.2
  have hy := tBy_pos hA hv
  have hv0 := hv.1
  have hv1 := hv.2.1
  have hD0 := hA.1.1
  have e0 : zI s 253 (157 + 6 * t + 0) = tRc D t := by rw [Int.add_zero]; exact h.1 _ (by omega) (by omega)
  have e1 : zI s 253 (157 + 6 * t + 1) = tNr D t := h.1 _ (by omega) (by omega)
  have e2 : zI s 253 (157 + 6 * t + 2) = tLy D t := h.1 _ (by omega) (by omega)
  have e4 : zI s 253 (157 + 6 * t + 4) = tBs D t := h.1 _ (by omega) (by omega)
  rw [e0, e1, e2, e4]
  exact M_scan ⟨by omega, by omega⟩ hG q4 q3 ⟨q6.1, by show tBs D t + bFor (tG D t) _ _ ≤ 8192; omega⟩ ⟨hr.1.1, hr.2.2, hr.2.1.2⟩ (hly _ q1.1 q1.2) k1
theorem M_lines {t fr to_ p : Int} {u : Int64} (hA : okA D) (h : mRel s D H T) (ht : rng t) (hf : rng fr) (hto : rng to_) (hp : rng p) (k1 : ¬ inRs D t fr to_ → ∀ u, frm modC s u → zI u 252 3 = 1 → mRel u D H T → Q (rI 0) u) (k2 : inRs D t fr to_ → ¬ (fr ≤ to_ ∧ isLn p) → ∀ u, frm modC s u → zI u 252 3 = 2 → mRel u D H T → Q (rI 0) u)
    (k3 : inRs D t fr to_ → fr ≤ to_ ∧ isLn p → ∀ v, frm modC s v → zI v 252 3 = 0 → mRel v D H T → Q (rI (linN D t u fr to_ p)) v) : wp S 268 0 [(0, rf 252), (1, iv t), (2, .long u), (4, iv fr), (5, iv to_), (6, iv p)] [] s Q := by
  have h33 : ¬ inRs D t fr to_ → wp S 268 33 [(0, rf 252), (1, iv t), (2, .long u), (4, iv fr), (5, iv to_), (6, iv p)] [iv 0] s Q := fun hn => v_Model_lines_33 ⟨⟨by omega, by omega⟩, fun hc => absurd rfl hc, fun _ => k1 hn _ (frm_I frm_refl (by unfold modC; omega)) zI_eq (mRel_252 h ⟨by omega, by omega⟩)⟩
  refine v_Model_lines_0 ⟨ht, fun hc => h33 (fun hh => hc ((m_live h).mpr hh.1)), fun hc => ?_⟩
  have hv := (m_live h).mp hc
  have hT := isLv_ok hA hv
  have h12 := hT.2.2.1
  have hv0 := hv.1
  have hv1 := hv.2.1
  have e1 : zI s 253 (157 + 6 * t + 1) = tNr D t := h.1 _ (by omega) (by omega)
  rw [e1]
  refine ⟨⟨by omega, by omega⟩, hf, ⟨by omega, by omega⟩, fun hn => h33 (fun hh => hn (row_iff.mpr hh.2.1)), fun hy => ⟨hto, fun hn => h33 (fun hh => hn (row_iff.mpr hh.2.2)), fun hy2 => ?_⟩⟩
  have hrs : inRs D t fr to_ := ⟨hv, row_iff.mp hy, row_iff.mp hy2⟩
  refine v_Model_lines_33 ⟨⟨by omega, by omega⟩, fun _ => ⟨hf, hto, fun hlt => k2 hrs (fun hq => by omega) _ (frm_I frm_refl (by unfold modC; omega)) zI_eq (mRel_252 h ⟨by omega, by omega⟩), fun hle => ⟨hp, fun hl => ?_, fun hl => k2 hrs (fun hq => hl hq.2) _ (frm_I frm_refl (by unfold modC; omega)) zI_eq (mRel_252 h ⟨by omega, by omega⟩)⟩⟩, fun hc => absurd hc (by decide)⟩
  have hm0 : mRel (zwI s 252 3 0) D H T := mRel_252 h ⟨by omega, by omega⟩
  refine C_lays hA.1 hm0.1 fun w hfw hlw => zkU_U ⟨⟨by omega, by omega⟩, ⟨by omega, by omega⟩, ⟨by omega, by omega⟩, ⟨by omega, by omega⟩, ?_⟩
  have hmw := mRel_ly hm0 hfw
  refine M_scan_t hA hv ⟨hrs.2.1, hrs.2.2, hle⟩ hmw hlw fun v hfv hmv => zkI_I ⟨by omega, by omega⟩ (M_marked hmv hl (zkI_I ?_ ?_))
  · have := ctN_le (pcB (inPc (tcB (tG D t) (tNr D t) (tLy D t) (tBs D t) u fr to_) p)) 1024
    exact ⟨by omega, by omega⟩
  · obtain ⟨q1, q2, q3, q4, q5, q6, q7, q8⟩ := hT
    have hG : okG (tG D t) := okG_shp hA.1 q1.1 q1.2
    have hz := k3 hrs ⟨hle, hl⟩ v (frm_trans (frm_I frm_refl (by unfold modC; omega)) (frm_trans (cLy_mod hfw) (frm_mono hfv fun a ha => by unfold modC; omega))) (by rw [fI hfv (by omega), fI hfw (by unfold cLy; omega), zI_eq]) (mRel_274 hmw hfv)
    unfold linN at hz
    rw [ctN_cong 1024 fun x _ => pcB_iff (inPc_iff (x := (x : Int)) hG q4 q3 ⟨hrs.2.1.1, hrs.2.2.2⟩ ⟨q6.1, by omega⟩ (isLn_b hl).1)]
    exact hz
theorem M_runs {t fr to_ : Int} {u : Int64} (hA : okA D) (h : mRel s D H T) (ht : rng t) (hf : rng fr) (hto : rng to_) (k1 : ¬ inRs D t fr to_ → ∀ u, frm modC s u → zI u 252 3 = 1 → mRel u D H T → Q (rI 0) u) (k2 : inRs D t fr to_ → ¬ fr ≤ to_ → ∀ u, frm modC s u → zI u 252 3 = 2 → mRel u D H T → Q (rI 0) u)
    (k3 : inRs D t fr to_ → fr ≤ to_ → ∀ v, frm modC s v → zI v 252 3 = 0 → mRel v D H T → Q (rI (runN D t u fr to_)) v) : wp S 272 0 [(0, rf 252), (1, iv t), (2, .long u), (4, iv fr), (5, iv to_)] [] s Q := by
  have h33 : ¬ inRs D t fr to_ → wp S 272 33 [(0, rf 252), (1, iv t), (2, .long u), (4, iv fr), (5, iv to_)] [iv 0] s Q := fun hn => v_Model_runs_33 ⟨⟨by omega, by omega⟩, fun hc => absurd rfl hc, fun _ => k1 hn _ (frm_I frm_refl (by unfold modC; omega)) zI_eq (mRel_252 h ⟨by omega, by omega⟩)⟩
  refine v_Model_runs_0 ⟨ht, fun hc => h33 (fun hh => hc ((m_live h).mpr hh.1)), fun hc => ?_⟩
  have hv := (m_live h).mp hc
  have hT := isLv_ok hA hv
  have h12 := hT.2.2.1
  have hv0 := hv.1
  have hv1 := hv.2.1
  have e1 : zI s 253 (157 + 6 * t + 1) = tNr D t := h.1 _ (by omega) (by omega)
  rw [e1]
  refine ⟨⟨by omega, by omega⟩, hf, ⟨by omega, by omega⟩, fun hn => h33 (fun hh => hn (row_iff.mpr hh.2.1)), fun hy => ⟨hto, fun hn => h33 (fun hh => hn (row_iff.mpr hh.2.2)), fun hy2 => ?_⟩⟩
  have hrs : inRs D t fr to_ := ⟨hv, row_iff.mp hy, row_iff.mp hy2⟩
  refine v_Model_runs_33 ⟨⟨by omega, by omega⟩, fun _ => ⟨hf, hto, fun hle => ?_, fun hlt => k2 hrs (fun hq => by omega) _ (frm_I frm_refl (by unfold modC; omega)) zI_eq (mRel_252 h ⟨by omega, by omega⟩)⟩, fun hc => absurd hc (by decide)⟩
  have hm0 : mRel (zwI s 252 3 0) D H T := mRel_252 h ⟨by omega, by omega⟩
  refine C_lays hA.1 hm0.1 fun w hfw hlw => zkU_U ⟨⟨by omega, by omega⟩, ⟨by omega, by omega⟩, ⟨by omega, by omega⟩, ⟨by omega, by omega⟩, ?_⟩
  have hmw := mRel_ly hm0 hfw
  refine M_scan_t hA hv ⟨hrs.2.1, hrs.2.2, hle⟩ hmw hlw fun v hfv hmv => zkI_I ⟨by omega, by omega⟩ ?_
  refine M_ru_110 hmv ?_ 8192 0 (by omega)
  obtain ⟨q1, q2, q3, q4, q5, q6, q7, q8⟩ := hT
  have hG : okG (tG D t) := okG_shp hA.1 q1.1 q1.2
  have hz := k3 hrs hle v (frm_trans (frm_I frm_refl (by unfold modC; omega)) (frm_trans (cLy_mod hfw) (frm_mono hfv fun a ha => by unfold modC; omega))) (by rw [fI hfv (by omega), fI hfw (by unfold cLy; omega), zI_eq]) (mRel_274 hmw hfv)
  unfold runN at hz
  have hiff : ∀ x : Nat, pcB (tcB (tG D t) (tNr D t) (tLy D t) (tBs D t) u fr to_) x = pcB (scP (tG D t) (tNr D t) (tLy D t) (tBs D t) u fr to_ 1) x := fun x => by
    refine pcB_iff ?_
    rw [scP_iff (by omega)]
    constructor
    · intro hb; exact ⟨x, hb, Int.ediv_one _⟩
    · intro ⟨b, hb, he⟩
      rw [Int.ediv_one] at he
      rw [← he]; exact hb
  rw [ctN_ext (p := sqB (tcB (tG D t) (tNr D t) (tLy D t) (tBs D t) u fr to_)) (n := 1024) (by decide) fun x x0 x1 => ?_, ctN_cong 1024 fun x _ => ?_]
  · exact hz
  · unfold sqB
    rw [hiff x, hiff (x - 1)]
  · unfold sqB
    rw [pcB_F (fun hb => by have := tcB_in hG q4 q3 ⟨hrs.2.1.1, hrs.2.2.2⟩ hb; omega), Bool.false_and]
theorem M_bl_47 {t p : Int} {u : Int64} (hA : okA D) (hv : isLv D t) (hp : isLn p) {s0 : zSt} (k1 : ∀ v, frm modC s0 v → zI v 252 3 = 0 → mRel v D H T → Q (rI (blS (layN D t u p) 8).1) v) (n : Nat) : ∀ (i : Nat) (x6 x5 : Int) (s : zSt), i + n = 9 → mRel s D H T → mLay s D (D 0) → zI s 252 3 = 0 → frm modC s0 s → (i = 0 ∧ x6 = -1 ∧ x5 = -1 ∨ ∃ j, i = j + 1 ∧ blS (layN D t u p) j = (x6, x5)) →
    wp S 273 47 [(0, rf 252), (1, iv t), (2, .long u), (4, iv p), (5, iv x5), (6, iv x6), (7, iv i)] [] s Q := by
  obtain ⟨q1, q2, q3, q4, q5, q6, q7, q8⟩ := isLv_ok hA hv
  have hG : okG (tG D t) := okG_shp hA.1 q1.1 q1.2
  have hv0 := hv.1
  have hv1 := hv.2.1
  have hD0 := hA.1.1
  induction n with
  | zero =>
    intro i x6 x5 s hi h hly h3 hfs hx
    refine v_Model_bestLayout_47 ⟨⟨by omega, by omega⟩, fun _ => ?_, fun hc => by omega⟩
    rcases hx with hx | ⟨j, hj, hx⟩
    · omega
    · have hz := k1 s hfs h3 h
      rw [show (8 : Nat) = j by omega, hx] at hz
      exact hz
  | succ n ihn =>
    intro i x6 x5 s hi h hly h3 hfs hx
    have e0 : zI s 253 (157 + 6 * t + 0) = tRc D t := by rw [Int.add_zero]; exact h.1 _ (by omega) (by omega)
    have e1 : zI s 253 (157 + 6 * t + 1) = tNr D t := h.1 _ (by omega) (by omega)
    have hbt := bFor_t (lay := (i : Int)) hG ⟨by omega, by omega⟩ q3
    have hbl := layN_b (u := u) (lay := i) hA hv (by omega) hp
    refine v_Model_bestLayout_47 ⟨⟨by omega, by omega⟩, fun hc => by omega, fun _ => ?_⟩
    rw [e0, e1]
    refine ⟨⟨by omega, by omega⟩, ⟨by omega, by omega⟩, M_scan ⟨by omega, by omega⟩ hG ⟨by omega, by omega⟩ q3 ⟨by omega, by show 0 + bFor (tG D t) _ _ ≤ 8192; omega⟩ ⟨by omega, by omega, by omega⟩ (hly _ q1.1 q1.2) fun v hfv hmv => zkI_I ⟨by omega, by omega⟩ ?_⟩
    have hmv' := mRel_274 h hfv
    have hlv : mLay v D (D 0) := mLay_fr hly hfv fun a a0 a1 => by omega
    have h3v : zI v 252 3 = 0 := (fI hfv (by omega)).trans h3
    have hfa : frm modC s0 v := frm_trans hfs (frm_mono hfv fun a ha => by unfold modC; omega)
    have hval : ((ctN (pcB (inPc (tcB (tG D t) (tNr D t) i 0 u 0 (tNr D t - 1)) p)) 1024 : Nat) : Int) = layN D t u p i := by
      unfold layN
      rw [ctN_cong 1024 fun x _ => pcB_iff (inPc_iff (x := (x : Int)) hG ⟨by omega, by omega⟩ q3 ⟨by omega, by omega⟩ ⟨by omega, by omega⟩ (isLn_b hp).1)]
    have hrl : rng (layN D t u p i) := ⟨by omega, by omega⟩
    refine M_marked hmv hp ?_
    rw [show ((ctN (pcB (inPc (tcB (shp D (tRc D t)) (tNr D t) i 0 u 0 (tNr D t - 1)) p)) 1024 : Nat) : Int) = layN D t u p i from hval]
    have hx6 : rng x6 ∧ rng x5 ∧ (x6 = -1 ↔ i = 0) := by
      rcases hx with hx | ⟨j, hj, hx⟩
      · exact ⟨⟨by omega, by omega⟩, ⟨by omega, by omega⟩, by omega⟩
      · obtain ⟨b1, b2, k, hk⟩ := blS_b (layN D t u p) j
        rw [hx] at hk b1 b2
        have hk : x5 = layN D t u p k := hk
        have b1 : 0 ≤ x6 := b1
        have b2 : x6 ≤ j := b2
        have hle := ctN_le (pcB (scP (tG D t) (tNr D t) k 0 u 0 (tNr D t - 1) p)) 1024
        unfold layN at hk
        exact ⟨⟨by omega, by omega⟩, ⟨by omega, by omega⟩, by omega⟩
    refine zkI_I hrl ⟨hx6.1, fun hc => ?_, fun hc => ⟨hx6.2.1, fun hge => ?_, fun hlt => ?_⟩⟩
    · refine ihn (i + 1) i (layN D t u p i) v (by omega) hmv' hlv h3v hfa (.inr ⟨i, rfl, ?_⟩)
      rw [hx6.2.2.mp hc]; rfl
    · refine ihn (i + 1) x6 x5 v (by omega) hmv' hlv h3v hfa (.inr ⟨i, rfl, ?_⟩)
      rcases hx with hx | ⟨j, hj, hx⟩
      · omega
      · subst hj
        show (if layN D t u p (j + 1) < (blS (layN D t u p) j).2 then _ else blS (layN D t u p) j) = _
        rw [hx, if_neg (show ¬ layN D t u p (j + 1) < x5 by omega)]
    · refine ihn (i + 1) i (layN D t u p i) v (by omega) hmv' hlv h3v hfa (.inr ⟨i, rfl, ?_⟩)
      rcases hx with hx | ⟨j, hj, hx⟩
      · omega
      · subst hj
        show (if layN D t u p (j + 1) < (blS (layN D t u p) j).2 then _ else blS (layN D t u p) j) = _
        rw [hx, if_pos (show layN D t u p (j + 1) < x5 by omega)]
theorem M_bestLayout {t p : Int} {u : Int64} (hA : okA D) (h : mRel s D H T) (ht : rng t) (hp : rng p) (k1 : ¬ isLv D t → ∀ u, frm modC s u → zI u 252 3 = 1 → mRel u D H T → Q (rI 0) u) (k2 : isLv D t → ¬ isLn p → ∀ u, frm modC s u → zI u 252 3 = 2 → mRel u D H T → Q (rI 0) u) (k3 : isLv D t → isLn p → ∀ v, frm modC s v → zI v 252 3 = 0 → mRel v D H T → Q (rI (blS (layN D t u p) 8).1) v) : wp S 273 0 [(0, rf 252), (1, iv t), (2, .long u), (4, iv p)] [] s Q := by
  refine v_Model_bestLayout_0 ⟨ht, fun hc => ⟨hp, fun hl => ?_, fun hl => k2 ((m_live h).mp hc) hl _ (frm_I frm_refl (by unfold modC; omega)) zI_eq (mRel_252 h ⟨by omega, by omega⟩)⟩, fun hc => k1 (fun hh => hc ((m_live h).mpr hh)) _ (frm_I frm_refl (by unfold modC; omega)) zI_eq (mRel_252 h ⟨by omega, by omega⟩)⟩
  have hm0 : mRel (zwI s 252 3 0) D H T := mRel_252 h ⟨by omega, by omega⟩
  refine C_lays hA.1 hm0.1 fun w hfw hlw => zkU_U ?_
  exact M_bl_47 hA ((m_live h).mp hc) hl (k3 ((m_live h).mp hc) hl) 9 0 (-1) (-1) w (by omega) (mRel_ly hm0 hfw) hlw (by rw [fI hfw (by unfold cLy; omega), zI_eq]) (frm_trans (frm_I frm_refl (by unfold modC; omega)) (cLy_mod hfw)) (.inl ⟨rfl, rfl, rfl⟩)
end OPS22M

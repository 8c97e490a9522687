/-! ===== lines, runs, the best layout ===== -/
def isLn (p : Int) : Prop := p = 16 ∨ p = 32 ∨ p = 64
theorem isLn_b {p : Int} (h : isLn p) : 1 ≤ p ∧ p ≤ 64 := by rcases h with h | h | h <;> omega
def inRs (D : Int → Int) (t fr to_ : Int) : Prop := isLv D t ∧ inRow D t fr ∧ inRow D t to_
noncomputable def linN (D : Int → Int) (t : Int) (u : Int64) (fr to_ p : Int) : Int := ((ctN (pcB (scP (tG D t) (tNr D t) (tLy D t) (tBs D t) u fr to_ p)) 1024 : Nat) : Int)
noncomputable def runN (D : Int → Int) (t : Int) (u : Int64) (fr to_ : Int) : Int := ((ctN (sqB (scP (tG D t) (tNr D t) (tLy D t) (tBs D t) u fr to_ 1)) 1024 : Nat) : Int)
noncomputable def layN (D : Int → Int) (t : Int) (u : Int64) (p : Int) (lay : Nat) : Int := ((ctN (pcB (scP (tG D t) (tNr D t) lay 0 u 0 (tNr D t - 1) p)) 1024 : Nat) : Int)
def blS (f : Nat → Int) : Nat → Int × Int
  | 0 => (0, f 0)
  | n + 1 => if f (n + 1) < (blS f n).2 then (((n + 1 : Nat) : Int), f (n + 1)) else blS f n
theorem blS_b (f : Nat → Int) : ∀ n : Nat, 0 ≤ (blS f n).1 ∧ (blS f n).1 ≤ n ∧ ∃ k : Nat, (blS f n).2 = f k := by
  intro n
  induction n with
  | zero => exact ⟨by show (0 : Int) ≤ 0; omega, by show (0 : Int) ≤ ((0 : Nat) : Int); omega, 0, rfl⟩
  | succ n ihn =>
    unfold blS
    split
    · exact ⟨by show (0 : Int) ≤ ((n + 1 : Nat) : Int); omega, by show ((n + 1 : Nat) : Int) ≤ ((n + 1 : Nat) : Int); omega, n + 1, rfl⟩
    · exact ⟨ihn.1, by have := ihn.2.1; omega, ihn.2.2⟩
theorem tcB_in {G : ySh} {rows lay base fr to_ b : Int} {u : Int64} (hG : okG G) (hl : 0 ≤ lay ∧ lay ≤ 8) (hrw : 1 ≤ rows ∧ rows ≤ 12) (hfr : 0 ≤ fr ∧ to_ < rows) (h : tcB G rows lay base u fr to_ b) : base ≤ b ∧ b < base + bFor G rows lay := by
  obtain ⟨row, k, h1, h2, h3, h4, h5⟩ := h
  have hdi := dist_in (row := row) hG hl hrw h2 (by omega) (by omega)
  omega
theorem inPc_iff {G : ySh} {rows lay base fr to_ p x : Int} {u : Int64} (hG : okG G) (hl : 0 ≤ lay ∧ lay ≤ 8) (hrw : 1 ≤ rows ∧ rows ≤ 12) (hfr : 0 ≤ fr ∧ to_ < rows) (hb : 0 ≤ base ∧ base + bFor G rows lay ≤ 8192) (hp : 1 ≤ p) : inPc (tcB G rows lay base u fr to_) p x ↔ scP G rows lay base u fr to_ p x := by
  rw [scP_iff hp]
  constructor
  · intro ⟨b, _, _, h3, h4⟩
    exact ⟨b, h3, h4⟩
  · intro ⟨b, h3, h4⟩
    have hz := tcB_in hG hl hrw hfr h3
    exact ⟨b, by omega, by omega, h3, h4⟩
theorem layN_b {D : Int → Int} {t p : Int} {u : Int64} {lay : Nat} (hA : okA D) (hv : isLv D t) (hl : lay ≤ 8) (hp : isLn p) : 0 ≤ layN D t u p lay ∧ layN D t u p lay ≤ 512 := by
  have hT := isLv_ok hA hv
  have hG : okG (tG D t) := okG_shp hA.1 hT.1.1 hT.1.2
  have h12 := hT.2.2.1
  have hbt := bFor_t (lay := (lay : Int)) hG ⟨by omega, by omega⟩ h12
  unfold layN
  have hp1 : 1 ≤ p := (isLn_b hp).1
  rw [ctN_ext (p := pcB (scP (tG D t) (tNr D t) lay 0 u 0 (tNr D t - 1) p)) (n := 512) (by decide) fun x x0 x1 => pcB_F fun hs => by
    obtain ⟨b, h3, h4⟩ := (scP_iff hp1).mp hs
    have hz := tcB_in hG ⟨by omega, by omega⟩ h12 ⟨by omega, by omega⟩ h3
    rcases hp with rfl | rfl | rfl <;> omega]
  have := ctN_le (pcB (scP (tG D t) (tNr D t) lay 0 u 0 (tNr D t - 1) p)) 512
  omega
def scrC (a : Int) : Prop := 48 ≤ a ∧ a ≤ 59
theorem cVw_mv {s : zSt} {a rows lay x y : Int} {G : ySh} (h : cVw s a G rows lay) : cVw (zwI (zwI s a 0 x) a 1 y) a G rows lay := by
  obtain ⟨h1, h2, h3, h4, h5, h6⟩ := h
  refine ⟨?_, ?_, ?_, ?_, ?_, fun k hk => ⟨?_, ?_, ?_, ?_⟩⟩
  · rw [zI_nj (by omega), zI_nj (by omega)]; exact h1
  · rw [zI_nj (by omega), zI_nj (by omega)]; exact h2
  · rw [zI_nj (by omega), zI_nj (by omega)]; exact h3
  · rw [zI_nj (by omega), zI_nj (by omega)]; exact h4
  · rw [zI_nj (by omega), zI_nj (by omega)]; exact h5
  · rw [zI_ne (by omega), zI_ne (by omega)]; exact (h6 k hk).1
  · rw [zI_ne (by omega), zI_ne (by omega)]; exact (h6 k hk).2.1
  · rw [zI_ne (by omega), zI_ne (by omega)]; exact (h6 k hk).2.2.1
  · rw [zI_ne (by omega), zI_ne (by omega)]; exact (h6 k hk).2.2.2
section OPS22
variable {S : Option (Nat × (Nat → Int32))} {Q : Option Value ⊕ Nat → zSt → Prop} {s : zSt} {D : Int → Int} {H : List (Int → Int)} {T : List Int}
theorem X_scan_t {t fr to_ p : Int} {u : Int64} (hA : okA D) (hv : isLv D t) (hr : inRow D t fr ∧ inRow D t to_ ∧ fr ≤ to_) (hp : 1 ≤ p ∧ p ≤ 64) (ho : vOpen s D t) (k1 : ∀ v, frm (fun a => a = 59) s v → cMk v (scP (tG D t) (tNr D t) (tLy D t) (tBs D t) u fr to_ p) → Q rU v) : wp S 163 0 [(0, rf 48), (1, rf 58), (2, .long u), (4, iv fr), (5, iv to_), (6, iv p)] [] s Q := by
  obtain ⟨q1, q2, q3, q4, q5, q6, q7, q8⟩ := isLv_ok hA hv
  have hG : okG (tG D t) := okG_shp hA.1 q1.1 q1.2
  have hy := tBy_pos hA hv
  exact C_scan lf_48 (by omega) hG q4 q3 ⟨q6.1, by omega⟩ ⟨hr.1.1, hr.2.2, hr.2.1.2⟩ hp ho.2.2.1 ho.1 k1
theorem X_lines {t fr to_ p : Int} {u : Int64} (hA : okA D) (h : cRel s D H T) (ht : rng t) (hf : rng fr) (hto : rng to_) (hp : rng p) (k1 : ¬ inRs D t fr to_ → Q (rT 2) (zbump s)) (k2 : inRs D t fr to_ → ¬ (fr ≤ to_ ∧ isLn p) → Q (rT 0) (zbump s)) (k3 : inRs D t fr to_ → fr ≤ to_ ∧ isLn p → ∀ v, frm scrC s v → Q (rI (linN D t u fr to_ p)) v) : wp S 160 0 [(0, rf 2), (1, iv t), (2, .long u), (4, iv fr), (5, iv to_), (6, iv p)] [] s Q := by
  have c1 := c_row hA h t fr
  have c2 := c_row hA h t to_
  refine v_RL_lines_0 (v_RL_checkRows_0 ⟨ht, hf, fun hc => ⟨hto, fun hc2 => ⟨fun hle => zkU_U ⟨hp, fun hl => ?_, fun hl => k2 ⟨(c1.mp hc).1, (c1.mp hc).2, (c2.mp hc2).2⟩ fun hq => hl hq.2⟩, fun hlt => zkU_T (k2 ⟨(c1.mp hc).1, (c1.mp hc).2, (c2.mp hc2).2⟩ fun hq => by omega)⟩, fun hc2 => zkU_T (k1 fun hh => hc2 (c2.mpr ⟨hh.1, hh.2.2⟩))⟩, fun hc => zkU_T (k1 fun hh => hc (c1.mpr ⟨hh.1, hh.2.1⟩))⟩)
  have hrs : inRs D t fr to_ := ⟨(c1.mp hc).1, (c1.mp hc).2, (c2.mp hc2).2⟩
  refine X_openView hA hrs.1 h.1 h.2.1 fun w hfw how => zkU_U (X_scan_t hA hrs.1 ⟨hrs.2.1, hrs.2.2, hle⟩ ⟨by omega, by omega⟩ how fun v hfv hmv => zkU_U (C_mtotal hmv (zkI_I ?_ ?_)))
  · have := ctN_le (pcB (scP (tG D t) (tNr D t) (tLy D t) (tBs D t) u fr to_ p)) 1024
    exact ⟨by omega, by omega⟩
  · exact k3 hrs ⟨hle, hl⟩ v (frm_trans (frm_mono hfw fun a ha => by unfold scrC; omega) (frm_mono hfv fun a ha => by unfold scrC; omega))
theorem X_runs {t fr to_ : Int} {u : Int64} (hA : okA D) (h : cRel s D H T) (ht : rng t) (hf : rng fr) (hto : rng to_) (k1 : ¬ inRs D t fr to_ → Q (rT 2) (zbump s)) (k2 : inRs D t fr to_ → ¬ fr ≤ to_ → Q (rT 0) (zbump s)) (k3 : inRs D t fr to_ → fr ≤ to_ → ∀ v, frm scrC s v → Q (rI (runN D t u fr to_)) v) : wp S 170 0 [(0, rf 2), (1, iv t), (2, .long u), (4, iv fr), (5, iv to_)] [] s Q := by
  have c1 := c_row hA h t fr
  have c2 := c_row hA h t to_
  refine v_RL_runs_0 (v_RL_checkRows_0 ⟨ht, hf, fun hc => ⟨hto, fun hc2 => ⟨fun hle => zkU_U ?_, fun hlt => zkU_T (k2 ⟨(c1.mp hc).1, (c1.mp hc).2, (c2.mp hc2).2⟩ fun hq => by omega)⟩, fun hc2 => zkU_T (k1 fun hh => hc2 (c2.mpr ⟨hh.1, hh.2.2⟩))⟩, fun hc => zkU_T (k1 fun hh => hc (c1.mpr ⟨hh.1, hh.2.1⟩))⟩)
  have hrs : inRs D t fr to_ := ⟨(c1.mp hc).1, (c1.mp hc).2, (c2.mp hc2).2⟩
  refine X_openView hA hrs.1 h.1 h.2.1 fun w hfw how => zkU_U (X_scan_t hA hrs.1 ⟨hrs.2.1, hrs.2.2, hle⟩ ⟨by omega, by omega⟩ how fun v hfv hmv => zkU_U (C_mseq hmv (zkI_I ?_ ?_)))
  · have := ctN_le (sqB (scP (tG D t) (tNr D t) (tLy D t) (tBs D t) u fr to_ 1)) 1024
    exact ⟨by omega, by omega⟩
  · exact k3 hrs hle v (frm_trans (frm_mono hfw fun a ha => by unfold scrC; omega) (frm_mono hfv fun a ha => by unfold scrC; omega))
theorem X_bl_32 {t p : Int} {u : Int64} (hA : okA D) (hHk : okH H) (hv : isLv D t) (hp : isLn p) {s0 : zSt} (k1 : ∀ v, frm scrC s0 v → Q (rI (blS (layN D t u p) 8).1) v) (n : Nat) : ∀ (i : Nat) (x6 x7 : Int) (s : zSt), i + n = 9 → cRel s D H T → frm scrC s0 s → (i = 0 ∧ x6 = 0 ∧ x7 = 1024 ∨ ∃ j, i = j + 1 ∧ blS (layN D t u p) j = (x6, x7)) →
    wp S 173 32 [(0, rf 2), (2, .long u), (4, iv p), (5, rf (31 + t)), (6, iv x6), (7, iv x7), (8, iv i)] [] s Q := by
  have ha : isO (31 + t) 6 := by
    have hz := isO_tab (c := 3) lf_3 (t := t) ⟨hv.1, hv.2.1⟩
    rw [show (3 : Int) + 28 + t = 31 + t by omega] at hz
    exact hz
  have hT := isLv_ok hA hv
  have hG : okG (tG D t) := okG_shp hA.1 hT.1.1 hT.1.2
  have h12 := hT.2.2.1
  have hD0 := hA.1.1
  have hr1 := hT.1
  induction n with
  | zero =>
    intro i x6 x7 s hi h hfs hx
    refine v_RL_bestLayout_32 ha ⟨⟨by omega, by omega⟩, fun _ => ?_, fun hc => by omega⟩
    rcases hx with hx | ⟨j, hj, hx⟩
    · omega
    · have hz := k1 s hfs
      rw [show (8 : Nat) = j by omega, hx] at hz
      exact hz
  | succ n ihn =>
    intro i x6 x7 s hi h hfs hx
    have e1 := (cTb_live h.1 hv.1 hv.2.1).2 hv.2.2 0 (by omega) (by omega)
    have e1' : zI s (31 + t) 1 = tRc D t := by rw [Int.add_zero] at e1; exact e1
    have e2 : zI s (31 + t) 2 = tNr D t := (cTb_live h.1 hv.1 hv.2.1).2 hv.2.2 1 (by omega) (by omega)
    refine v_RL_bestLayout_32 ha ⟨⟨by omega, by omega⟩, fun hc => by omega, fun _ => ?_⟩
    rw [e1', e2]
    refine ⟨⟨by omega, by omega⟩, C_layOut lf_53 ⟨by omega, by omega⟩ (by omega) hG ⟨by omega, by omega⟩ h12 (h.2.1 _ hr1.1 hr1.2) fun w hfw _ _ hvw => zkU_U ?_⟩
    have hw2 : zI (zwI (zwI w 53 0 0) 53 1 (zI w (31 + t) 4)) (31 + t) 2 = tNr D t := by
      rw [zI_ne (by have := hv.2.1; omega), zI_ne (by have := hv.2.1; omega), fI hfw (by have := hv.2.1; omega)]; exact e2
    rw [hw2]
    have hb0 : zI (zwI (zwI w 53 0 0) 53 1 (zI w (31 + t) 4)) 53 0 = 0 := by rw [zI_nj (by omega), zI_eq]
    have hbl := layN_b (u := u) (lay := i) hA hv (by omega) hp
    have hp64 := isLn_b hp
    have hx7 : 0 ≤ x7 ∧ x7 ≤ 1024 := by
      rcases hx with hx | ⟨j, hj, hx⟩
      · omega
      · obtain ⟨_, _, k, hk⟩ := blS_b (layN D t u p) j
        rw [hx] at hk
        have hk : x7 = layN D t u p k := hk
        have := ctN_le (pcB (scP (tG D t) (tNr D t) k 0 u 0 (tNr D t - 1) p)) 1024
        unfold layN at hk
        omega
    refine C_scan lf_53 (by omega) hG ⟨by omega, by omega⟩ h12 ⟨by omega, by omega⟩ ⟨by omega, by omega, by omega⟩ hp64 (cVw_mv hvw) hb0 fun v hfv hmv => zkU_U ?_
    have hfa : frm scrC s v := frm_trans (frm_mono hfw fun a ha => by unfold scrC; omega) (frm_trans (frm_I (frm_I frm_refl (by unfold scrC; omega)) (by unfold scrC; omega)) (frm_mono hfv fun a ha => by unfold scrC; omega))
    have hsv : cRel v D H T := cRel_fr h hA.1 hHk hfa fun a ha => by unfold cK at ha; unfold scrC; omega
    have hrl : rng (layN D t u p i) := ⟨by omega, by omega⟩
    refine C_mtotal hmv (zkI_I hrl ⟨⟨by omega, by omega⟩, fun hge => ?_, fun hlt => C_mtotal hmv (zkI_I hrl ?_)⟩)
    · have hge : x7 ≤ layN D t u p i := hge
      refine ihn (i + 1) x6 x7 v (by omega) hsv (frm_trans hfs hfa) (.inr ⟨i, rfl, ?_⟩)
      rcases hx with hx | ⟨j, hj, hx⟩
      · omega
      · subst hj
        show (if layN D t u p (j + 1) < (blS (layN D t u p) j).2 then _ else blS (layN D t u p) j) = _
        rw [hx, if_neg (show ¬ layN D t u p (j + 1) < x7 by omega)]
    · have hlt : layN D t u p i < x7 := hlt
      refine ihn (i + 1) i (layN D t u p i) v (by omega) hsv (frm_trans hfs hfa) (.inr ⟨i, rfl, ?_⟩)
      rcases hx with hx | ⟨j, hj, hx⟩
      · rw [hx.1]; rfl
      · subst hj
        show (if layN D t u p (j + 1) < (blS (layN D t u p) j).2 then _ else blS (layN D t u p) j) = _
        rw [hx, if_pos (show layN D t u p (j + 1) < x7 by omega)]
theorem X_bestLayout {t p : Int} {u : Int64} (hA : okA D) (hH : okHs H) (h : cRel s D H T) (ht : rng t) (hp : rng p) (k1 : ¬ isLv D t → Q (rT 2) (zbump s)) (k2 : isLv D t → ¬ isLn p → Q (rT 0) (zbump s)) (k3 : isLv D t → isLn p → ∀ v, frm scrC s v → Q (rI (blS (layN D t u p) 8).1) v) : wp S 173 0 [(0, rf 2), (1, iv t), (2, .long u), (4, iv p)] [] s Q := by
  have c1 := (c_live hA h t).1
  refine v_RL_bestLayout_0 ⟨ht, fun hc => ⟨hp, fun hl => ⟨⟨hc.1, hc.2.1⟩, ?_⟩, fun hl => k2 (c1.mp hc) hl⟩, fun hc => k1 fun hh => hc (c1.mpr hh)⟩
  exact X_bl_32 (H := H) (T := T) hA (okHs_H hH) (c1.mp hc) hl (k3 (c1.mp hc) hl) 9 0 0 1024 s (by omega) h frm_refl (.inl ⟨rfl, rfl, rfl⟩)
end OPS22

/-! ===== define of the class ===== -/
section DFX
variable {S : Option (Nat × (Nat → Int32))} {Q : Option Value ⊕ Nat → zSt → Prop} {s : zSt} {D : Int → Int} {H : List (Int → Int)} {T : List Int}
theorem C_rdef_20 (hA : okA D) (hT : okTx T) (m : Nat) : ∀ (i : Nat) (s : zSt) (F : List (Int × Int × Int)) (n : Int) (k : Nat), i + m = 9 → cSh s D (D 0) → cTx s T → zI s 36 3 = (k : Int) → k ≤ 80 → zI s 36 4 = n → fsI D F n → cFld s 37 1 F.length (fD F) →
    ((rdP D T m F n k).1 = -1 → ∀ u, fTx s u → cFld u 37 1 (rdP D T m F n k).2.length (fD (rdP D T m F n k).2) → Q (rI (-1)) u) → ((rdP D T m F n k).1 ≠ -1 → ∀ u, fTx s u → Q (rI (rdP D T m F n k).1) u) → wp S 92 20 [(0, rf 36), (1, rf 34), (2, iv (D 0)), (3, iv i)] [] s Q := by
  have hT8 := hT.1
  induction m with
  | zero =>
    intro i s F n k hi hsh ht ha hk hn hI hf kd kn
    refine v_Text_readDefinition_20 ⟨⟨by omega, by omega⟩, fun _ => ?_, fun hc => by omega⟩
    rw [ha]
    exact kn (by show (k : Int) ≠ -1; omega) s fTx_refl
  | succ m ihm =>
    intro i s F n k hi hsh ht ha hk hn hI hf kd kn
    refine v_Text_readDefinition_20 ⟨⟨by omega, by omega⟩, fun hc => by omega, fun _ => ?_⟩
    unfold rdP at kd kn
    refine C_rfield hA hsh hT ht ha hk hn hI hf (fun hz u hfu h3u h4u hcu => zkI_I ⟨by omega, by omega⟩ ⟨fun _ => ?_, fun hc => by omega⟩) fun hz u hfu h3u => zkI_I ⟨by omega, by omega⟩ ⟨fun hc => absurd rfl hc, fun _ => ?_⟩
    · rw [if_pos hz] at kd kn
      have htu := cTx_tx ht hfu
      have hlu := htu.1
      rw [h3u, hlu]
      refine ⟨fun hlt => ?_, fun hge => ?_⟩
      · rw [if_pos (by omega)] at kd kn
        exact ihm (i + 1) u _ _ _ (by omega) (cSh_fr hsh hfu.1 fun x x0 x1 => by unfold txC; omega) htu h3u (by omega) h4u (rfP_ok hA.1 hI hz).1 hcu (fun h1 v hfv hcv => kd h1 v (fTx_trans hfu hfv) hcv) fun h1 v hfv => kn h1 v (fTx_trans hfu hfv)
      · rw [if_neg (by omega)] at kd
        exact kd rfl u hfu hcu
    · rw [if_neg hz] at kn
      rw [h3u]
      exact kn hz u hfu
/-- the answer of a text -/
noncomputable def dfZ (D : Int → Int) (T : List Int) : Int × List (Int × Int × Int) := rdP D T 9 [] 0 0
theorem rfP_b {F : List (Int × Int × Int)} {n : Int} {k : Nat} : -1 ≤ (rfP D T F n k).1 ∧ (rfP D T F n k).1 ≤ k + 20 ∧ (rfP D T F n k).2.2.2 ≤ max k T.length + 1 := by
  unfold rfP
  by_cases hn : nmP F (ltr T k)
  · rw [if_pos hn]
    by_cases h58 : ltr T (k + 1) = 58
    · rw [if_pos h58]
      have hrt := (rtP_ok (D := D) (T := T) (k := k + 2)).1
      have hk1 := ltr_in (T := T) (k := k + 1) (by omega)
      generalize rtP D T (k + 2) = z at hrt ⊢
      unfold rf3
      by_cases hz : z.1 = -1
      · rw [if_pos hz]
        have hrc := (rcP_ok (T := T) (ty := z.2.1) (k := z.2.2)).1
        generalize rcP T z.2.1 z.2.2 = w at hrc ⊢
        unfold rf4
        have hz2 : z.2.2 ≤ k + 5 ∧ z.2.2 ≤ max (k + 2) T.length := by rcases hrt with h | h <;> omega
        by_cases hw : w.1 = -1
        · rw [if_pos hw]
          have hw2 : w.2.2 ≤ k + 8 ∧ w.2.2 ≤ max z.2.2 T.length := by rcases hrc with h | h <;> omega
          by_cases hf : ltr T w.2.2 = 59 ∧ n + w.2.1 * (tyL (shp D) z.2.1 : Int) ≤ 40
          · rw [if_pos hf]
            have := ltr_in (T := T) (k := w.2.2) (by omega)
            exact ⟨by show (-1 : Int) ≤ -1; omega, by show (-1 : Int) ≤ (k : Int) + 20; omega, by show w.2.2 + 1 ≤ max k T.length + 1; omega⟩
          · rw [if_neg hf]
            exact ⟨by show (-1 : Int) ≤ (w.2.2 : Int); omega, by show (w.2.2 : Int) ≤ (k : Int) + 20; omega, by show 0 ≤ max k T.length + 1; omega⟩
        · rw [if_neg hw]
          have hw2 : 0 ≤ w.1 ∧ w.1 ≤ k + 20 := by rcases hrc with h | h <;> omega
          exact ⟨by show -1 ≤ w.1; omega, hw2.2, Nat.zero_le _⟩
      · rw [if_neg hz]
        have hz2 : 0 ≤ z.1 ∧ z.1 ≤ k + 20 := by rcases hrt with h | h <;> omega
        exact ⟨by show -1 ≤ z.1; omega, hz2.2, Nat.zero_le _⟩
    · rw [if_neg h58]
      exact ⟨by show (-1 : Int) ≤ (k : Int) + 1; omega, by show (k : Int) + 1 ≤ (k : Int) + 20; omega, Nat.zero_le _⟩
  · rw [if_neg hn]
    exact ⟨by show (-1 : Int) ≤ (k : Int); omega, by show (k : Int) ≤ (k : Int) + 20; omega, Nat.zero_le _⟩
theorem rdP_b (hT : okTx T) : ∀ (m : Nat) (F : List (Int × Int × Int)) (n : Int) (k : Nat), k ≤ 81 → -1 ≤ (rdP D T m F n k).1 ∧ (rdP D T m F n k).1 ≤ 200 := by
  have hT8 := hT.1
  intro m
  induction m with
  | zero => intro F n k hk; exact ⟨by show (-1 : Int) ≤ (k : Int); omega, by show (k : Int) ≤ 200; omega⟩
  | succ m ihm =>
    intro F n k hk
    have hb := rfP_b (D := D) (T := T) (F := F) (n := n) (k := k)
    unfold rdP
    split
    · split
      · exact ihm _ _ _ (by omega)
      · exact ⟨by show (-1 : Int) ≤ -1; omega, by show (-1 : Int) ≤ 200; omega⟩
    · exact ⟨by show -1 ≤ (rfP D T F n k).1; omega, by show (rfP D T F n k).1 ≤ 200; omega⟩
theorem X_define {p : Int} (hA : okA D) (hH : okHs H) (hT : okTx T) (h : cRel s D H T) (hp : rng p) (k1 : ¬ isPk p → Q (rT 0) (zbump s)) (k2 : isPk p → D 0 = 6 → Q (rT 1) (zbump s)) (k3 : isPk p → D 0 < 6 → (dfZ D T).1 ≠ -1 → ∀ u, frm clsC s u → cRel u D H T → Q (rI (-10 - (dfZ D T).1)) u) (k4 : isPk p → D 0 < 6 → (dfZ D T).1 = -1 → ∀ u, frm clsC s u → cRel u (dfN D p (dfZ D T).2 (dfZ D T).2.length) (pushH H D) T → Q (rI (D 0)) u) : wp S 91 0 [(0, rf 2), (1, iv p)] [] s Q := by
  have hn := h.1.1
  have hD0 := hA.1.1
  refine v_RL_define_0 ?_
  rw [hn]
  refine ⟨hp, fun hc => ⟨fun h6 => ?_, fun h6 => k2 hc (by omega)⟩, fun hc => k1 hc⟩
  have hfx : fTx s (zwI (zwI (zwI (zwI s 36 3 0) 36 4 0) 37 0 1) 37 1 0) := ⟨frm_I (frm_I (frm_I (frm_I frm_refl (by unfold txC; omega)) (by unfold txC; omega)) (by unfold txC; omega)) (by unfold txC; omega), by rw [zI_ne (by omega), zI_ne (by omega), zI_nj (by omega), zI_nj (by omega)]⟩
  have hb := rdP_b (D := D) hT 9 [] 0 0 (by omega)
  have hfx2 : ∀ {u}, fTx s u → frm clsC s u := fun hu => frm_mono hu.1 fun a ha => by unfold txC at ha; unfold clsC; omega
  refine v_Text_readDefinition_0 (C_rdef_20 hA hT 9 0 _ [] 0 0 (by omega) (cSh_fr h.2.1 hfx.1 fun x x0 x1 => by unfold txC; omega) (cTx_tx h.2.2.2.1 hfx) (by rw [zI_ne (by omega), zI_ne (by omega), zI_nj (by omega), zI_eq]; rfl) (by omega) (by rw [zI_ne (by omega), zI_ne (by omega), zI_eq]) (fsI_0 D) ⟨by rw [zI_nj (by omega), zI_eq], by rw [zI_eq]; rfl, fun f hf => by have hf : (f : Int) < ((0 : Nat) : Int) := hf; omega⟩ (fun hz u hfu hcu => zkI_I ⟨by omega, by omega⟩ ⟨fun _ => ?_, fun hcc => absurd rfl hcc⟩) fun hz u hfu => zkI_I ⟨by omega, by omega⟩ ⟨fun hcc => absurd hcc hz, fun _ => k3 hc h6 hz u (hfx2 (fTx_trans hfx hfu)) (cRel_tx h hA.1 (okHs_H hH) (fTx_trans hfx hfu))⟩)
  have hru := cRel_tx h hA.1 (okHs_H hH) (fTx_trans hfx hfu)
  have hfsu := hfx2 (fTx_trans hfx hfu)
  change cFld u 37 1 (dfZ D T).2.length (fD (dfZ D T).2) at hcu
  have hz1 : (dfZ D T).1 = -1 := hz
  obtain ⟨n', hI⟩ := rdP_ok (T := T) hA.1 9 [] 0 0 (fsI_0 D) hz
  change fsI D (dfZ D T).2 n' at hI
  have hk4 := k4 hc h6 hz1
  generalize (dfZ D T).2 = F at hcu hI hk4
  obtain ⟨a, b, c, d, e⟩ := hru
  have hF8 := hI.1
  obtain ⟨d1, d2, d3, d4, d5, d6, d7, d8, d9⟩ := dfN_ok hA h6 hc hI F.length (Nat.le_refl _)
  generalize dfN D p F F.length = E at hk4 d1 d2 d3 d4 d5 d6 d7 d8
  refine C_save (okD_Ns hA.1) (okHs_H hH) a c fun w hfw hrw h7w _ => zkU_U ?_
  have hHp := okHs_H (okHs_push hH hA)
  have aw := cSt_fr a hD0.2 hfw fun x x0 x1 => by omega
  have hw3 : zI w 3 0 = D 0 := aw.1
  rw [hw3]
  refine ⟨⟨by omega, by omega⟩, C_Fcopy (isO_fields ⟨by omega, by omega⟩) lf_37 (by omega) ⟨by omega, by omega⟩ (cFld_fr hcu hfw fun x x0 x1 => by omega) fun v hfv hcv => zkU_U ?_⟩
  have hv3 : zI (zwI v (7 + 4 * D 0) 0 p) 3 0 = D 0 := by rw [zI_ne (by omega), fI hfv (by omega)]; exact hw3
  rw [hv3]
  have hf : frm (fun x => (7 + 4 * D 0 ≤ x ∧ x ≤ 7 + 4 * D 0 + 3) ∨ x = 3) w (zwI (zwI v (7 + 4 * D 0) 0 p) 3 0 (D 0 + 1)) := frm_I (frm_I (frm_mono hfv fun x hx => .inl hx) (.inl ⟨by omega, by omega⟩)) (.inr rfl)
  have hnew : cFld (zwI (zwI v (7 + 4 * D 0) 0 p) 3 0 (D 0 + 1)) (7 + 4 * D 0) (dP E (D 0)) (dN E (D 0)) (dFd E (D 0)) := by
    rw [d3, d4]
    refine ⟨by rw [zI_ne (by omega), zI_eq], by rw [zI_ne (by omega), zI_nj (by omega)]; exact hcv.2.1, fun f hfl => ?_⟩
    rw [d5 f (by omega)]
    obtain ⟨w1, w2, w3⟩ := hcv.2.2 f hfl
    exact ⟨by rw [zI_ne (by omega), zI_ne (by omega)]; exact w1, by rw [zI_ne (by omega), zI_ne (by omega)]; exact w2, by rw [zI_ne (by omega), zI_ne (by omega)]; exact w3⟩
  have hold : ∀ r, 0 ≤ r → r < D 0 → cFld (zwI (zwI v (7 + 4 * D 0) 0 p) 3 0 (D 0 + 1)) (7 + 4 * r) (dP E r) (dN E r) (dFd E r) := fun r q0 q1 => by
    have hy := agN_shp hA.1 (Int.le_refl _) d7 q0 q1
    have hn8 := (hA.1.2 r q0 q1).2.1
    have hw := aw.2.1 r q0 q1
    rw [show (3 : Int) + 4 + 4 * r = 7 + 4 * r by omega] at hw
    have hw2 := cFld_fr hw hf fun x x0 x1 => by omega
    rw [hy.2.1, hy.2.2.1]
    refine ⟨hw2.1, hw2.2.1, fun f hfl => ?_⟩
    have hx := hy.2.2.2 f (by omega) (by omega)
    unfold dFd
    rw [hx.1, hx.2.1, hx.2.2]
    exact hw2.2.2 f hfl
  have bw : cSh w D (D 0) := cSh_fr b hfw fun x x0 x1 => by omega
  have hsho : cSh (zwI (zwI v (7 + 4 * D 0) 0 p) 3 0 (D 0 + 1)) E (D 0) := fun r q0 q1 => by
    rw [(agN_shp hA.1 (Int.le_refl _) d7 q0 q1).1]
    exact cShp_fr (bw r q0 q1) hf fun x x0 x1 => by omega
  refine ⟨⟨by omega, by omega⟩, C_buildShape d1.1 hD0.1 (by rw [d2]; omega) (by rw [zI_eq, d2]) hnew hsho fun x hfx3 hcx => zkU_U ?_⟩
  refine hk4 x (frm_trans hfsu (frm_trans (frm_mono hfw fun x hx => by unfold clsC; omega) (frm_trans (frm_mono hf fun x hx => by unfold clsC; omega) (frm_mono hfx3 fun x hx => by unfold clsC; omega)))) ⟨⟨?_, fun r q0 q1 => ?_, fun t t0 t1 => ?_, fun j q0 q1 => ?_⟩, fun r q0 q1 => ?_, ⟨?_, ⟨?_, hrw.2.1.2⟩, fun i hi => ?_⟩, cTx_fr (cTx_fr (cTx_fr d hfw ⟨by omega, by omega⟩) hf ⟨by omega, by omega⟩) hfx3 ⟨by omega, by omega⟩, .inl ?_⟩
  · rw [fI hfx3 (by omega), zI_eq, d2]
  · rw [d2] at q1
    rw [show (3 : Int) + 4 + 4 * r = 7 + 4 * r by omega]
    by_cases hrn : r < D 0
    · exact cFld_fr (hold r q0 hrn) hfx3 fun x x0 x1 => by omega
    · rw [show r = D 0 by omega]; exact cFld_fr hnew hfx3 fun x x0 x1 => by omega
  · have hq := cTb_fr (cTb_fr (aw.2.2.1 t t0 t1) hf (by omega)) hfx3 (by omega)
    unfold cTb tRc at hq ⊢
    rw [d8 _ (by omega)]
    rcases hq with hq | ⟨z1, z2, z3⟩
    · exact .inl hq
    · exact .inr ⟨z1, z2, fun k k0 k1 => by rw [d8 _ (by omega)]; exact z3 k k0 k1⟩
  · rw [d8 _ (by omega), fI hfx3 (by omega), fI hf (by omega)]; exact aw.2.2.2 j q0 q1
  · rw [d2] at q1
    by_cases hrn : r < D 0
    · exact cShp_fr (hsho r q0 hrn) hfx3 fun x x0 x1 => by omega
    · rw [show r = D 0 by omega]; exact hcx
  · rw [fI hfx3 (by omega), fI hf (by omega)]; exact hrw.1
  · rw [fI hfx3 (by omega), fI hf (by omega)]; exact hrw.2.1.1
  · rw [fI hfx3 (by omega), fI hf (by omega)]; exact cSt_fr (cSt_fr (hrw.2.2 i hi) (hHp i hi).1.2 hf fun x x0 x1 => by omega) (hHp i hi).1.2 hfx3 fun x x0 x1 => by omega
  · rw [fI hfx3 (by omega), fI hf (by omega)]; exact h7w
end DFX

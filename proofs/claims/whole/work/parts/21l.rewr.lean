/-! ===== a table that is written anew: the class ===== -/
def mgT (D : Int → Int) (t o ly od : Int) : Int → Int := newTD D t o (tNr D t) ly od (bseT D o (tNr D t) ly)
def mgD (D : Int → Int) (t o ly od : Int) : Int → Int := seqW (mgT D t o ly od) t (mgT D t o ly od) (mgL D t o (gV (shp D o)).length)
theorem newTD_at {D : Int → Int} {t r nr ly od bs : Int} (ht : 0 ≤ t ∧ t < 3) (h4 : 0 ≤ bs) : tRc (newTD D t r nr ly od bs) t = r ∧ tNr (newTD D t r nr ly od bs) t = nr ∧ tLy (newTD D t r nr ly od bs) t = ly ∧ tOr (newTD D t r nr ly od bs) t = od ∧ tBs (newTD D t r nr ly od bs) t = bs ∧ tBy (newTD D t r nr ly od bs) t = bFor (shp D r) nr ly := by
  obtain ⟨p1, p2, p3, p4, p5, p6⟩ := putT_at (D := D) (t := t) (r := r) (nr := nr) (ly := ly) (od := od) (bs := bs) (by_ := bFor (shp D r) nr ly)
  have hout : ∀ j, j < 175 → newTD D t r nr ly od bs j = putT D t r nr ly od bs (bFor (shp D r) nr ly) j := fun j hj => clrD_out _ (.inl (by omega))
  exact ⟨(hout _ (by omega)).trans p1, (hout _ (by omega)).trans p2, (hout _ (by omega)).trans p3, (hout _ (by omega)).trans p4, (hout _ (by omega)).trans p5, (hout _ (by omega)).trans p6⟩
theorem newTD_ag {D : Int → Int} {t r nr ly od bs : Int} (ht : 0 ≤ t ∧ t < 3) (h4 : 0 ≤ bs) : agR D (newTD D t r nr ly od bs) ∧ (∀ v, 0 ≤ v → v < 3 → v ≠ t → ∀ k, 0 ≤ k → k < 6 → newTD D t r nr ly od bs (157 + 6 * v + k) = D (157 + 6 * v + k)) ∧ ∀ j, 0 ≤ j → (j < bs ∨ bs + (bFor (shp D r) nr ly).toNat ≤ j) → newTD D t r nr ly od bs (175 + j) = D (175 + j) := by
  have hout : ∀ j, j < 175 → newTD D t r nr ly od bs j = putT D t r nr ly od bs (bFor (shp D r) nr ly) j := fun j hj => clrD_out _ (.inl (by omega))
  refine ⟨fun j q0 q1 => by rw [hout j (by omega)]; exact putT_ne (.inl (by omega)), fun v v0 v1 hv k k0 k1 => by rw [hout _ (by omega)]; exact putT_ne (by omega), fun j q0 q1 => ?_⟩
  unfold newTD
  rw [clrD_out _ (by omega)]
  exact putT_ne (by omega)
/-- the room of a table that is written anew -/
theorem mg_in {D : Int → Int} {r nr ly : Int} (hA : okA D) (hr : hasRc D r) (hd : 0 < dN D r) (h1 : 1 ≤ nr ∧ nr ≤ 12) (h2 : 0 ≤ ly ∧ ly ≤ 8) (hs : bseT D r nr ly ≠ -1) : 1 ≤ bFor (shp D r) nr ly ∧ (0 ≤ bseT D r nr ly ∧ bseT D r nr ly % 16 = 0) ∧ bseT D r nr ly ≤ 1024 ∧ bseT D r nr ly + bFor (shp D r) nr ly ≤ endC D (bseT D r nr ly) 3 ∧ endC D (bseT D r nr ly) 3 ≤ 1024 := by
  have hp := bFor_pos hA hr hd h1 h2
  rcases roomD_in (D := D) (need := bFor (shp D r) nr ly) 64 0 (by omega) (by omega) (by omega) with hq | hq
  · exact absurd hq hs
  · have he := endC_b (D := D) (b := bseT D r nr ly) (by unfold bseT; omega) 3
    unfold bseT at he ⊢
    exact ⟨hp, ⟨hq.1, hq.2.1⟩, by omega, hq.2.2.2, he.2⟩
theorem mgT_P {D : Int → Int} {t o ly od : Int} (hA : okA D) (hv : isLv D t) (ho : hasRc D o) (hd : 0 < dN D o) (h2 : 0 ≤ ly ∧ ly ≤ 8) (h3 : 0 ≤ od ∧ od ≤ 1) (hs : bseT D o (tNr D t) ly ≠ -1) : newP D (mgT D t o ly od) t o := by
  have h1 := (isLv_ok hA hv).2.2.1
  obtain ⟨z1, z2, z3, z4, z5⟩ := mg_in hA ho hd h1 h2 hs
  have ht : 0 ≤ t ∧ t < 3 := ⟨hv.1, hv.2.1⟩
  obtain ⟨a1, a2, a3, a4, a5, a6⟩ := newTD_at (D := D) (t := t) (r := o) (nr := tNr D t) (ly := ly) (od := od) (bs := bseT D o (tNr D t) ly) ht z2.1
  obtain ⟨b1, b2, b3⟩ := newTD_ag (D := D) (t := t) (r := o) (nr := tNr D t) (ly := ly) (od := od) (bs := bseT D o (tNr D t) ly) ht z2.1
  have hok := newTD_okA (od := od) hA ht ho hd h1 h2 h3 z2 z3 z1 z4
  have hap := room_apart hA z3 z1 z4 hv
  unfold mgT
  refine ⟨hok, ⟨ht.1, ht.2, ?_⟩, a1, a2, b1, ?_, fun j j0 j1 => b3 j j0 ?_⟩
  · rw [a1]; have := ho.1; omega
  · rw [a5, a6]; exact hap
  · rw [a5, a6] at j1; omega
theorem mgL_ok {D : Int → Int} {t o ly od : Int} (hA : okA D) (hv : isLv D t) (ho : hasRc D o) (hd : 0 < dN D o) (h2 : 0 ≤ ly ∧ ly ≤ 8) (h3 : 0 ≤ od ∧ od ≤ 1) (hs : bseT D o (tNr D t) ly ≠ -1) : agT (mgT D t o ly od) (mgD D t o ly od) ∧ okA (mgD D t o ly od) := by
  have hP := mgT_P (od := od) hA hv ho hd h2 h3 hs
  exact seq_okA hP.1 hP.2.1 (mgL_in hA hP ho (Nat.le_refl _))
/-- tables and bytes are other, the records the same -/
theorem cPre_tab {w U : zSt} {D F : Int → Int} {H : List (Int → Int)} {T : List Int} (h : cPre w D H T) (hA : okA D) (hH : okHs H) (hf : frm (fun x => x = 6 ∨ (31 ≤ x ∧ x ≤ 33) ∨ (48 ≤ x ∧ x ≤ 57)) w U) (hag : agR D F) (htb : ∀ v, 0 ≤ v → v < 3 → cTb U (31 + v) F v) (hm : cMm U 6 F) : cRel U F H T := by
  have hD0 := hA.1.1
  have hHp := okHs_H hH
  have e0 : F 0 = D 0 := hag 0 (by omega) (by omega)
  obtain ⟨⟨b1, b2, b3, b4⟩, b, c, d, e⟩ := h
  refine ⟨⟨?_, ?_, fun v v0 v1 => ?_, hm⟩, ?_, ?_, cTx_fr d hf ⟨by omega, by omega⟩, .inl ?_⟩
  · rw [fI hf (by omega), e0]; exact b1
  · exact agR_cFl hA.1 hag (cFl_fr b2 hf fun x x0 x1 => by omega)
  · rw [show (3 : Int) + 28 + v = 31 + v by omega]; exact htb v v0 v1
  · exact agR_cSh hA.1 hag (cSh_fr b hf fun x x0 x1 => by omega)
  · exact ⟨by rw [fI hf (by omega)]; exact c.1, ⟨by rw [fI hf (by omega)]; exact c.2.1.1, c.2.1.2⟩, fun i hi => by rw [fI hf (by omega)]; exact cSt_fr (c.2.2 i hi) (hHp i hi).1.2 hf fun x x0 x1 => by omega⟩
  · rw [fI hf (by omega)]; exact e
section OPS27
variable {S : Option (Nat × (Nat → Int32))} {Q : Option Value ⊕ Nat → zSt → Prop} {s : zSt} {D : Int → Int} {H : List (Int → Int)} {T : List Int}
/-- the stores into the row of the table -/
theorem X_rewStores {t o ly od : Int} (hA : okA D) (hH : okHs H) {w u : zSt} (h : cPre w D H T) (hv : isLv D t) (ho : hasRc D o) (hd : 0 < dN D o) (h2 : 0 ≤ ly ∧ ly ≤ 8) (h3 : 0 ≤ od ∧ od ≤ 1) (hs : bseT D o (tNr D t) ly ≠ -1) (hf : frm (fun x => x = 6 ∨ (48 ≤ x ∧ x ≤ 57)) w u) (hm : cMm u 6 (mgD D t o ly od)) : cRel (zwI (zwI (zwI (zwI (zwI u (31 + t) 1 o) (31 + t) 3 ly) (31 + t) 4 od) (31 + t) 5 (bseT D o (tNr D t) ly)) (31 + t) 6 (bFor (shp D o) (tNr D t) ly)) (mgD D t o ly od) H T := by
  have h1 := (isLv_ok hA hv).2.2.1
  obtain ⟨z1, z2, z3, z4, z5⟩ := mg_in hA ho hd h1 h2 hs
  have ht : 0 ≤ t ∧ t < 3 := ⟨hv.1, hv.2.1⟩
  have hP := mgT_P (od := od) hA hv ho hd h2 h3 hs
  have hag := (mgL_ok (od := od) hA hv ho hd h2 h3 hs).1
  obtain ⟨b1, b2, b3⟩ := newTD_ag (D := D) (t := t) (r := o) (nr := tNr D t) (ly := ly) (od := od) (bs := bseT D o (tNr D t) ly) ht z2.1
  obtain ⟨a1, a2, a3, a4, a5, a6⟩ := newTD_at (D := D) (t := t) (r := o) (nr := tNr D t) (ly := ly) (od := od) (bs := bseT D o (tNr D t) ly) ht z2.1
  generalize hU : zwI (zwI (zwI (zwI (zwI u (31 + t) 1 o) (31 + t) 3 ly) (31 + t) 4 od) (31 + t) 5 (bseT D o (tNr D t) ly)) (31 + t) 6 (bFor (shp D o) (tNr D t) ly) = U
  have hfU : frm (fun x => x = 31 + t) u U := by
    rw [← hU]
    exact frm_I (frm_I (frm_I (frm_I (frm_I frm_refl rfl) rfl) rfl) rfl) rfl
  have hall : frm (fun x => x = 6 ∨ (31 ≤ x ∧ x ≤ 33) ∨ (48 ≤ x ∧ x ≤ 57)) w U := frm_trans (frm_mono hf fun x hx => by omega) (frm_mono hfU fun x hx => by omega)
  have hagF : ∀ j, 0 ≤ j → j < 175 → mgD D t o ly od j = mgT D t o ly od j := hag
  refine cPre_tab h hA hH hall (fun j q0 q1 => (hagF j q0 (by omega)).trans (b1 j q0 q1)) (fun v v0 v1 => ?_) (cMm_fr hm hfU (by omega))
  by_cases hvt : v = t
  · subst hvt
    right
    have hb3 := h.1.2.2.1 v v0 v1
    rw [show (3 : Int) + 28 + v = 31 + v by omega] at hb3
    rcases hb3 with ⟨q1, -⟩ | ⟨q1, q2, q3⟩
    · exact absurd q1 hv.2.2
    · have hw0 : zI u (31 + v) 0 = 1 := (fI hf (by omega)).trans q2
      have hw2 : zI u (31 + v) 2 = tNr D v := (fI hf (by omega)).trans (q3 1 (by omega) (by omega))
      have hF : ∀ k, 0 ≤ k → k < 6 → mgD D v o ly od (157 + 6 * v + k) = mgT D v o ly od (157 + 6 * v + k) := fun k k0 k1 => hagF _ (by omega) (by omega)
      refine ⟨?_, ?_, fun k k0 k1 => ?_⟩
      · have hz := hF 0 (by omega) (by omega)
        rw [Int.add_zero] at hz
        unfold tRc
        rw [hz]
        show tRc (mgT D v o ly od) v ≠ -1
        unfold mgT
        rw [a1]
        have := ho.1
        omega
      · rw [← hU, zI_nj (by omega), zI_nj (by omega), zI_nj (by omega), zI_nj (by omega), zI_nj (by omega)]; exact hw0
      · rw [hF k k0 k1]
        have hk : k = 0 ∨ k = 1 ∨ k = 2 ∨ k = 3 ∨ k = 4 ∨ k = 5 := by omega
        rcases hk with q | q | q | q | q | q <;> subst q
        · rw [Int.add_zero, ← hU, zI_nj (by omega), zI_nj (by omega), zI_nj (by omega), zI_nj (by omega)]
          exact zI_eq.trans a1.symm
        · rw [← hU, zI_nj (by omega), zI_nj (by omega), zI_nj (by omega), zI_nj (by omega), zI_nj (by omega)]
          exact hw2.trans a2.symm
        · rw [← hU, zI_nj (by omega), zI_nj (by omega), zI_nj (by omega)]
          exact zI_eq.trans a3.symm
        · rw [← hU, zI_nj (by omega), zI_nj (by omega)]
          exact zI_eq.trans a4.symm
        · rw [← hU, zI_nj (by omega)]
          exact zI_eq.trans a5.symm
        · rw [← hU]
          exact zI_eq.trans a6.symm
  · have hq := h.1.2.2.1 v v0 v1
    rw [show (3 : Int) + 28 + v = 31 + v by omega] at hq
    have hq := cTb_fr (cTb_fr hq hf (by omega)) hfU (by omega)
    have hk : ∀ k, 0 ≤ k → k < 6 → mgD D t o ly od (157 + 6 * v + k) = D (157 + 6 * v + k) := fun k k0 k1 => (hagF _ (by omega) (by omega)).trans (b2 v v0 v1 hvt k k0 k1)
    have hk0 := hk 0 (by omega) (by omega)
    rw [Int.add_zero] at hk0
    unfold cTb tRc at hq ⊢
    rw [hk0]
    rcases hq with hq | ⟨q1, q2, q3⟩
    · exact .inl hq
    · exact .inr ⟨q1, q2, fun k k0 k1 => by rw [hk k k0 k1]; exact q3 k k0 k1⟩
theorem X_rewrite {t o ly od : Int} (hA : okA D) (hH : okHs H) (h : cRel s D H T) (hv : isLv D t) (ho : hasRc D o) (hd : 0 < dN D o) (h2 : 0 ≤ ly ∧ ly ≤ 8) (h3 : 0 ≤ od ∧ od ≤ 1) (k3 : bseT D o (tNr D t) ly = -1 → ∀ u, frm clsC s u → cRel u D H T → Q (rT 1) (zbump u)) (k4 : bseT D o (tNr D t) ly ≠ -1 → ∀ u, frm clsC s u → cRel u (mgD D t o ly od) (pushH H D) T → Q (rI (mgN D t o (gV (shp D o)).length)) u) : wp S 140 0 [(0, rf 2), (1, iv t), (2, iv o), (3, iv ly), (4, iv od)] [] s Q := by
  have hD0 := hA.1.1
  have hT := isLv_ok hA hv
  have h1 := hT.2.2.1
  have hG := okG_shp hA.1 ho.1 ho.2
  have ho0 := ho.1
  have ho1 := ho.2
  have t0 := hv.1
  have t1 := hv.2.1
  refine v_RL_rewrite_0 ⟨⟨t0, t1⟩, X_openView hA hv h.1 h.2.1 fun u hfu hou => zkU_U ⟨⟨ho0, by omega⟩, ?_⟩⟩
  have hcu := cRel_fr h hA.1 (okHs_H hH) hfu fun x hx => by unfold cK at hx; omega
  have hrow : zI u (31 + t) 2 = tNr D t := by
    have hz := (cTb_live hcu.1 t0 t1).2 hv.2.2 1 (by omega) (by omega)
    exact hz
  rw [hrow]
  refine C_layOut lf_53 ⟨ho0, by omega⟩ (by omega) hG h2 h1 (hcu.2.1 o ho0 ho1) fun x hfx hx0 hx1 hvx => zkU_U ?_
  have hbr := bFor_r hA ho h1 h2
  have hcx := cRel_fr hcu hA.1 (okHs_H hH) hfx fun x hx => by unfold cK at hx; omega
  have hx4 := hvx.2.2.1
  rw [hx4]
  have hyr : rng (bseT D o (tNr D t) ly) := by
    rcases roomD_in (D := D) (need := bFor (shp D o) (tNr D t) ly) 64 0 (by omega) (by omega) (by omega) with hq | hq <;> unfold bseT <;> exact ⟨by omega, by omega⟩
  refine X_findRoom hA hcx.1 ⟨by omega, by omega⟩ (zkI_I hyr ⟨fun hb1 => ?_, fun hb1 => k3 hb1 x (frm_trans (frm_mono hfu fun a ha => by unfold clsC; omega) (frm_mono hfx fun a ha => by unfold clsC; omega)) hcx⟩)
  rw [show roomD D (bFor (shp D o) (tNr D t) ly) 64 0 = bseT D o (tNr D t) ly from rfl]
  obtain ⟨z1, z2, z3, z4, z5⟩ := mg_in hA ho hd h1 h2 hb1
  have hP := mgT_P (od := od) hA hv ho hd h2 h3 hb1
  obtain ⟨a1, a2, a3, a4, a5, a6⟩ := newTD_at (D := D) (t := t) (r := o) (nr := tNr D t) (ly := ly) (od := od) (bs := bseT D o (tNr D t) ly) ⟨t0, t1⟩ z2.1
  obtain ⟨ca, cb, cc, cd, ce⟩ := hcx
  refine C_save (okD_Ns hA.1) (okHs_H hH) ca cc fun w hfw hrt h7 _ => zkU_U ⟨⟨by omega, by omega⟩, ?_⟩
  have hpw : cPre w D (pushH H D) T := ⟨cSt_fr ca hA.1.1.2 hfw fun x x0 x1 => by omega, cSh_fr cb hfw fun x x0 x1 => by omega, hrt, cTx_fr cd hfw ⟨by omega, by omega⟩, h7⟩
  have hw4 : zI w 53 4 = bFor (shp D o) (tNr D t) ly := (fI hfw (by omega)).trans hx4
  generalize hV : zwI (zwI w 53 0 (bseT D o (tNr D t) ly)) 53 1 od = V
  have hfV : frm (fun x => x = 53) w V := by rw [← hV]; exact frm_I (frm_I frm_refl rfl) rfl
  have hmn : ((bFor (shp D o) (tNr D t) ly).toNat : Int) = bFor (shp D o) (tNr D t) ly := Int.toNat_of_nonneg hbr.1
  have hcm : cMm V 6 (putT D t o (tNr D t) ly od (bseT D o (tNr D t) ly) (bFor (shp D o) (tNr D t) ly)) := fun j q0 q1 => by
    have hz := hpw.1.2.2.2 j q0 q1
    rw [show (3 : Int) + 3 = 6 by omega] at hz
    rw [putT_ne (by omega), fI hfV (by omega)]
    exact hz
  have hvV : vTwo V D (mgT D t o ly od) t := by
    have hG' := newP_G hA hP ho
    refine ⟨⟨?_, ?_, ?_⟩, ?_, ?_, ?_⟩
    · rw [fI hfV (by omega), fI hfw (by omega), fI hfx (by omega)]; exact hou.1
    · rw [fI hfV (by omega), fI hfw (by omega), fI hfx (by omega)]; exact hou.2.1
    · exact cVw_fr (cVw_fr (cVw_fr hou.2.2.1 hfx fun x x0 x1 => by omega) hfw fun x x0 x1 => by omega) hfV fun x x0 x1 => by omega
    · unfold mgT; rw [a5, ← hV, zI_nj (by omega), zI_eq]
    · unfold mgT; rw [a4, ← hV, zI_eq]
    · rw [hG']
      unfold mgT
      rw [a2, a3]
      have hvw := cVw_fr hvx hfw fun x x0 x1 => by omega
      obtain ⟨v1, v2, v3, v4, v5, v6⟩ := hvw
      rw [← hV]
      refine ⟨?_, ?_, ?_, ?_, ?_, fun k hk => ⟨?_, ?_, ?_, ?_⟩⟩
      · rw [zI_nj (by omega), zI_nj (by omega)]; exact v1
      · rw [zI_nj (by omega), zI_nj (by omega)]; exact v2
      · rw [zI_nj (by omega), zI_nj (by omega)]; exact v3
      · rw [zI_nj (by omega), zI_nj (by omega)]; exact v4
      · rw [zI_nj (by omega), zI_nj (by omega)]; exact v5
      · rw [zI_ne (by omega), zI_ne (by omega)]; exact (v6 k hk).1
      · rw [zI_ne (by omega), zI_ne (by omega)]; exact (v6 k hk).2.1
      · rw [zI_ne (by omega), zI_ne (by omega)]; exact (v6 k hk).2.2.1
      · rw [zI_ne (by omega), zI_ne (by omega)]; exact (v6 k hk).2.2.2
  rw [hw4, ← hmn]
  refine C_clear z2.1 (by omega) hcm fun y hfy hmy => zkU_U ?_
  have hmy' : cMm y 6 (seqW (mgT D t o ly od) t (mgT D t o ly od) (mgL D t o 0)) := hmy
  have hfwy : frm (fun x => x = 6 ∨ (48 ≤ x ∧ x ≤ 57)) w y := frm_trans (frm_mono hfV fun x hx => by omega) (frm_mono hfy fun x hx => by omega)
  have hrc : zI y (31 + t) 1 = tRc D t := by
    have hz := (cTb_live (cPre_Rel hpw).1 t0 t1).2 hv.2.2 0 (by omega) (by omega)
    rw [Int.add_zero] at hz
    exact (fI hfwy (by omega)).trans hz
  rw [hrc]
  refine ⟨⟨hT.1.1, by have := hT.1.2; omega⟩, ?_⟩
  have hO1 := isO_leaves (r := tRc D t) ⟨hT.1.1, by have := hT.1.2; omega⟩
  have hO2 := isO_leaves (r := o) ⟨ho0, by omega⟩
  refine v_RL_copyLeaves_0 hO1 hO2 ?_
  have hmb := mgN_b (D := D) (t := t) (o := o) (gV (shp D o)).length
  have h40 := hG.2.1
  refine X_copy_5 hA hv hP ho (gV (shp D o)).length 0 y (by omega) (cSh_fr hpw.2.1 hfwy fun x x0 x1 => by omega) (vTwo_fr hvV hfy fun x x0 x1 => by omega) hmy' fun q hfq hoq hmq => zkI_I ⟨by omega, by omega⟩ ⟨⟨by omega, by omega⟩, ⟨by omega, by omega⟩, ?_⟩
  have hfwq : frm (fun x => x = 6 ∨ (48 ≤ x ∧ x ≤ 57)) w q := frm_trans hfwy (frm_mono hfq fun x hx => by omega)
  have hq4 : ∀ x1 x2 x3 x4 : Int, zI (zwI (zwI (zwI (zwI q (31 + t) 1 x1) (31 + t) 3 x2) (31 + t) 4 x3) (31 + t) 5 x4) 53 4 = bFor (shp D o) (tNr D t) ly := fun x1 x2 x3 x4 => by
    rw [zI_ne (by omega), zI_ne (by omega), zI_ne (by omega), zI_ne (by omega)]
    have hz := hoq.2.2.2.2.2.1
    rw [newP_G hA hP ho] at hz
    unfold mgT at hz
    rw [a2, a3] at hz
    exact hz
  rw [hq4]
  have hfin := X_rewStores (od := od) hA (okHs_push hH hA) hpw hv ho hd h2 h3 hb1 hfwq hmq
  refine k4 hb1 _ ?_ hfin
  refine frm_trans (frm_mono hfu fun a ha => by unfold clsC; omega) (frm_trans (frm_mono hfx fun a ha => by unfold clsC; omega) (frm_trans (frm_mono hfw fun a ha => by unfold clsC; omega) (frm_trans (frm_mono hfwq fun a ha => by unfold clsC; omega) ?_)))
  exact frm_I (frm_I (frm_I (frm_I (frm_I frm_refl (by unfold clsC; omega)) (by unfold clsC; omega)) (by unfold clsC; omega)) (by unfold clsC; omega)) (by unfold clsC; omega)
end OPS27

/-! ===== the class reads a type and a count ===== -/
def fAt (s t : zSt) : Prop := frm (fun a => a = 36) s t ∧ ∀ j, j ≠ 3 → zI t 36 j = zI s 36 j
theorem fAt_refl {s : zSt} : fAt s s := ⟨frm_refl, fun _ _ => rfl⟩
theorem fAt_w {s t : zSt} {v : Int} (h : fAt s t) : fAt s (zwI t 36 3 v) := ⟨frm_I h.1 rfl, fun j hj => by rw [zI_nj hj]; exact h.2 j hj⟩
theorem fAt_trans {s t u : zSt} (h : fAt s t) (k : fAt t u) : fAt s u := ⟨frm_trans h.1 k.1, fun j hj => (k.2 j hj).trans (h.2 j hj)⟩
theorem cTx_at {s t : zSt} {T : List Int} (h : cTx s T) (hf : fAt s t) : cTx t T := ⟨(hf.2 0 (by omega)).trans h.1, fun i hi => (fI hf.1 (by omega)).trans (h.2 i hi)⟩
theorem c_sg {s : zSt} {T : List Int} (h : cTx s T) (k : Nat) : zsg (k : Int) (zI s 36 0) (zI s 41 k) = ltr T k := by
  unfold zsg ltr
  rw [h.1]
  by_cases hk : k < T.length
  · rw [if_pos ⟨by omega, by omega⟩, if_pos hk, h.2 k hk]
  · rw [if_neg (by omega), if_neg hk]
theorem c_sg1 {s : zSt} {T : List Int} (h : cTx s T) (k : Nat) : zsg ((k : Int) + 1) (zI s 36 0) (zI s 41 ((k : Int) + 1)) = ltr T (k + 1) := c_sg h (k + 1)
theorem c_sg2 {s : zSt} {T : List Int} (h : cTx s T) (k : Nat) : zsg ((k : Int) + 1 + 1) (zI s 36 0) (zI s 41 ((k : Int) + 1 + 1)) = ltr T (k + 2) := c_sg h (k + 2)
/-- what a reader gives back: a value, and where it stands then -/
def kT (z : Int × Int × Nat) (s : zSt) (Q : Option Value ⊕ Nat → zSt → Prop) : Prop := (z.1 = -1 → ∀ t, fAt s t → zI t 36 3 = (z.2.2 : Int) → Q (rI z.2.1) t) ∧ (z.1 ≠ -1 → ∀ t, fAt s t → zI t 36 3 = z.1 → Q (rI (-1)) t)
theorem kT_ok {z : Int × Int × Nat} {s : zSt} {Q : Option Value ⊕ Nat → zSt → Prop} (h : kT z s Q) {ty : Int} {to_ : Nat} (hz : z = (-1, ty, to_)) {t : zSt} (hf : fAt s t) (ha : zI t 36 3 = (to_ : Int)) : Q (rI ty) t := by
  subst hz
  exact h.1 rfl t hf ha
theorem kT_no {z : Int × Int × Nat} {s : zSt} {Q : Option Value ⊕ Nat → zSt → Prop} (h : kT z s Q) {y : Int} (hz : z = (y, 0, 0)) (hy : 0 ≤ y) {t : zSt} (hf : fAt s t) (ha : zI t 36 3 = y) : Q (rI (-1)) t := by
  subst hz
  exact h.2 (show y ≠ -1 by omega) t hf ha
theorem zdg_y {c : Int} (h : 48 ≤ c ∧ c ≤ 57) : zdg c = c - 48 := by unfold zdg; rw [if_pos h]
theorem zdg_n {c : Int} (h : ¬ (48 ≤ c ∧ c ≤ 57)) : zdg c = -1 := by unfold zdg; rw [if_neg h]
section RDX
variable {S : Option (Nat × (Nat → Int32))} {Q : Option Value ⊕ Nat → zSt → Prop} {s : zSt} {D : Int → Int} {T : List Int}
theorem C_rsize_9 {k : Nat} {u x1 : Int} (hT : okTx T) (ht : cTx s T) (ha : zI s 36 3 = (k : Int) + 1) (hk : k ≤ 200) (hu : (u = 0 ∧ x1 = 1) ∨ (u = 1 ∧ x1 = 0)) (h : kT (rsP T k u) s Q) : wp S 96 9 [(0, rf 36), (1, iv x1)] [iv u] s Q := by
  have hl := ht.1
  have hT8 := hT.1
  have e1 := c_sg1 ht k
  have e2 := c_sg2 ht k
  refine v_Text_readSize_9 ?_
  rw [ha, e1, e2]
  refine ⟨fun _ _ => by omega, ⟨by omega, by omega⟩, fun c1 => ?_, fun c1 => ⟨fun c2 => ⟨fun _ _ => by omega, ⟨by omega, by omega⟩, fun c3 => ?_, fun c3 => ?_⟩, fun c2 => ⟨fun c3 => ⟨fun _ _ => by omega, ⟨by omega, by omega⟩, fun c4 => ?_, fun c4 => ?_⟩, fun c3 => ⟨⟨by omega, by omega⟩, fun c4 => ?_, fun c4 => ⟨fun c5 => ⟨fun _ _ => by omega, ⟨by omega, by omega⟩, fun c6 => ?_, fun c6 => ?_⟩, fun c5 => ?_⟩⟩⟩⟩⟩
  · rw [Int.zero_add]
    exact kT_ok h (to_ := k + 2) (by unfold rsP; rw [if_pos c1]) (fAt_w fAt_refl) (by rw [zI_eq]; omega)
  · exact kT_ok h (to_ := k + 3) (by unfold rsP; rw [if_neg c1, if_pos c2, if_pos c3]) (fAt_w (fAt_w fAt_refl)) (by rw [zI_eq]; omega)
  · exact kT_no h (y := (k : Int) + 2) (by unfold rsP; rw [if_neg c1, if_pos c2, if_neg c3]) (by omega) (fAt_w fAt_refl) (by rw [zI_eq]; omega)
  · exact kT_ok h (to_ := k + 3) (by unfold rsP; rw [if_neg c1, if_neg c2, if_pos c3, if_pos c4]) (fAt_w (fAt_w fAt_refl)) (by rw [zI_eq]; omega)
  · exact kT_no h (y := (k : Int) + 2) (by unfold rsP; rw [if_neg c1, if_neg c2, if_pos c3, if_neg c4]) (by omega) (fAt_w fAt_refl) (by rw [zI_eq]; omega)
  · exact kT_no h (y := (k : Int) + 1) (by unfold rsP; rw [if_neg c1, if_neg c2, if_neg c3, if_neg (by omega)]) (by omega) fAt_refl ha
  · exact kT_ok h (to_ := k + 3) (by unfold rsP; rw [if_neg c1, if_neg c2, if_neg c3, if_pos (show ltr T (k + 1) = 54 ∧ u = 0 by omega), if_pos c6]) (fAt_w (fAt_w fAt_refl)) (by rw [zI_eq]; omega)
  · exact kT_no h (y := (k : Int) + 2) (by unfold rsP; rw [if_neg c1, if_neg c2, if_neg c3, if_pos (show ltr T (k + 1) = 54 ∧ u = 0 by omega), if_neg c6]) (by omega) (fAt_w fAt_refl) (by rw [zI_eq]; omega)
  · exact kT_no h (y := (k : Int) + 1) (by unfold rsP; rw [if_neg c1, if_neg c2, if_neg c3, if_neg (show ¬ (ltr T (k + 1) = 54 ∧ u = 0) by omega)]) (by omega) fAt_refl ha
theorem C_rrec {k : Nat} (hA : okA D) (hsh : cSh s D (D 0)) (hT : okTx T) (ht : cTx s T) (ha : zI s 36 3 = (k : Int) + 1) (hk : k ≤ 200) (h : kT (rrP D T k) s Q) : wp S 97 0 [(0, rf 36), (1, rf 34), (2, iv (D 0))] [] s Q := by
  have hl := ht.1
  have hT8 := hT.1
  have hD0 := hA.1.1
  have e1 := c_sg1 ht k
  have hb := ltr_b hT (k + 1)
  refine v_Text_readRecord_0 ?_
  rw [ha, e1]
  have hno : ¬ ((48 ≤ ltr T (k + 1) ∧ ltr T (k + 1) ≤ 57) ∧ ltr T (k + 1) - 48 < D 0 ∧ 0 < dN D (ltr T (k + 1) - 48)) → Q (rI (-1)) s := fun hn => kT_no h (y := (k : Int) + 1) (by unfold rrP; rw [if_neg hn]) (by omega) fAt_refl ha
  by_cases hd : 48 ≤ ltr T (k + 1) ∧ ltr T (k + 1) ≤ 57
  · rw [zdg_y hd]
    refine ⟨fun _ _ => by omega, ⟨by omega, by omega⟩, fun c1 => by omega, fun _ => ⟨⟨by omega, by omega⟩, fun c2 => hno fun hh => by omega, fun c2 => ⟨⟨by omega, by omega⟩, ?_⟩⟩⟩
    have hcs := (hsh (ltr T (k + 1) - 48) (by omega) c2).2.2.2.2.2.1
    rw [show 62 + 11 * (ltr T (k + 1) - 48) + 5 = 67 + 11 * (ltr T (k + 1) - 48) by omega] at hcs
    rw [hcs]
    have hso := shp_OK hA.1 (r := ltr T (k + 1) - 48) (by omega) c2
    refine ⟨fun c3 => ⟨⟨by omega, by omega⟩, ?_⟩, fun c3 => hno fun hh => by have := hso.2.1 hh.2.2; omega⟩
    refine kT_ok h (to_ := k + 2) ?_ (fAt_w fAt_refl) (by rw [zI_eq]; omega)
    unfold rrP
    rw [if_pos]
    refine ⟨hd, c2, ?_⟩
    refine Classical.byContradiction fun hn => ?_
    have hn8 := (hA.1.2 (ltr T (k + 1) - 48) (by omega) c2).2.1
    have h00 : dN D (ltr T (k + 1) - 48) = 0 := by omega
    have hg : shp D (ltr T (k + 1) - 48) = g00 := by
      rw [shp_eq (by omega) fun f q0 q1 => by omega, h00]
      rfl
    rw [hg] at c3
    have c3 : (1 : Int) ≤ ((0 : Nat) : Int) := c3
    omega
  · rw [zdg_n hd]
    exact ⟨fun _ _ => by omega, ⟨by omega, by omega⟩, fun _ => hno fun hh => hd hh.1, fun c1 => absurd rfl c1⟩
/-- a width that is too large: the class reads one digit and finds the other behind it -/
def spW (T : List Int) (k : Nat) : Prop := (49 ≤ ltr T (k + 1) ∧ ltr T (k + 1) ≤ 57) ∧ (48 ≤ ltr T (k + 2) ∧ ltr T (k + 2) ≤ 57) ∧ 16 < 10 * (ltr T (k + 1) - 48) + (ltr T (k + 2) - 48)
theorem spW_P {T : List Int} {k : Nat} (h : spW T k) : rwP T k = ((k : Int) + 2, 0, 0) := by
  unfold rwP
  rw [if_pos h.1, if_pos h.2.1, if_neg (by have := h.2.2; omega)]
theorem C_rwidth {k : Nat} (hT : okTx T) (ht : cTx s T) (ha : zI s 36 3 = (k : Int) + 1) (hk : k ≤ 200) (h : kT (rwP T k) s Q) (hsp : spW T k → ∀ t, fAt s t → zI t 36 3 = (k : Int) + 2 → Q (rI (20 + (ltr T (k + 1) - 48))) t) : wp S 99 0 [(0, rf 36)] [] s Q := by
  have hl := ht.1
  have hT8 := hT.1
  have e1 := c_sg1 ht k
  have e2 := c_sg2 ht k
  have hb := ltr_b hT (k + 1)
  have hb2 := ltr_b hT (k + 2)
  refine v_Text_readWidth_0 ?_
  rw [ha, e1, e2]
  by_cases hd : 49 ≤ ltr T (k + 1) ∧ ltr T (k + 1) ≤ 57
  · rw [zdg_y (c := ltr T (k + 1)) ⟨by omega, by omega⟩]
    by_cases he : 48 ≤ ltr T (k + 2) ∧ ltr T (k + 2) ≤ 57
    · rw [zdg_y (c := ltr T (k + 2)) he]
      refine ⟨fun _ _ => by omega, ⟨by omega, by omega⟩, fun _ => ⟨⟨by omega, by omega⟩, fun _ _ => by omega, ⟨by omega, by omega⟩, fun c1 => by omega, fun _ => ⟨⟨by omega, by omega⟩, fun c2 => ?_, fun c2 => ⟨⟨by omega, by omega⟩, ?_⟩⟩⟩, fun c1 => by omega⟩
      · exact hsp ⟨hd, he, by omega⟩ _ (fAt_w fAt_refl) (by rw [zI_eq]; omega)
      · refine kT_ok h (to_ := k + 3) ?_ (fAt_w (fAt_w fAt_refl)) (by rw [zI_eq]; omega)
        unfold rwP
        rw [if_pos hd, if_pos he, if_pos (by omega), show (ltr T (k + 1) - 48) * 10 = 10 * (ltr T (k + 1) - 48) by omega]
    · rw [zdg_n (c := ltr T (k + 2)) he]
      refine ⟨fun _ _ => by omega, ⟨by omega, by omega⟩, fun _ => ⟨⟨by omega, by omega⟩, fun _ _ => by omega, ⟨by omega, by omega⟩, fun _ => ?_, fun c1 => absurd rfl c1⟩, fun c1 => by omega⟩
      exact kT_ok h (to_ := k + 2) (by unfold rwP; rw [if_pos hd, if_neg he]) (fAt_w fAt_refl) (by rw [zI_eq]; omega)
  · have hno : Q (rI (-1)) s := kT_no h (y := (k : Int) + 1) (by unfold rwP; rw [if_neg hd]) (by omega) fAt_refl ha
    by_cases hd2 : 48 ≤ ltr T (k + 1) ∧ ltr T (k + 1) ≤ 57
    · rw [zdg_y (c := ltr T (k + 1)) hd2]
      exact ⟨fun _ _ => by omega, ⟨by omega, by omega⟩, fun c1 => by omega, fun _ => hno⟩
    · rw [zdg_n (c := ltr T (k + 1)) hd2]
      exact ⟨fun _ _ => by omega, ⟨by omega, by omega⟩, fun c1 => by omega, fun _ => hno⟩
theorem kT_at {z : Int × Int × Nat} {t : zSt} (h : kT z s Q) (hf : fAt s t) : kT z t (fun o u => zkI (fun y => Q (rI y) u) (fun _ => False) o) ∨ ¬ (rng z.2.1) := by
  by_cases hr : rng z.2.1
  · exact .inl ⟨fun h1 u hu ha => zkI_I hr (h.1 h1 u (fAt_trans hf hu) ha), fun h1 u hu ha => zkI_I ⟨by omega, by omega⟩ (h.2 h1 u (fAt_trans hf hu) ha)⟩
  · exact .inr hr
theorem C_rtype {k : Nat} (hA : okA D) (hsh : cSh s D (D 0)) (hT : okTx T) (ht : cTx s T) (ha : zI s 36 3 = (k : Int)) (hk : k ≤ 200) (h : kT (rtP D T k) s Q) (hsp : ltr T k = 37 → spW T k → ∀ t, fAt s t → zI t 36 3 = (k : Int) + 2 → Q (rI (20 + (ltr T (k + 1) - 48))) t) : wp S 95 0 [(0, rf 36), (1, rf 34), (2, iv (D 0))] [] s Q := by
  have hl := ht.1
  have hT8 := hT.1
  have e0 := c_sg ht k
  have hb := ltr_b hT (k + 1)
  have hf := fAt_w (v := (k : Int) + 1) (fAt_refl (s := s))
  have ht1 := cTx_at ht hf
  have hsh1 : cSh (zwI s 36 3 ((k : Int) + 1)) D (D 0) := cSh_fr hsh hf.1 fun x x0 x1 => by omega
  have hrng : rng (rtP D T k).2.1 := by
    by_cases h1 : (rtP D T k).1 = -1
    · have hz := (rtP_ok (D := D) (T := T) (k := k)).2 h1
      have hD0 := hA.1.1
      rcases hz with hz | hz | hz <;> exact ⟨by omega, by omega⟩
    · have hz : (rtP D T k).2.1 = 0 := by
        unfold rtP rsP rrP rwP at h1 ⊢
        repeat' split
        all_goals first | rfl | (exfalso; apply h1; simp_all)
      rw [hz]; exact ⟨by omega, by omega⟩
  have hkT : kT (rtP D T k) (zwI s 36 3 ((k : Int) + 1)) (fun o u => zkI (fun y => Q (rI y) u) (fun _ => False) o) := by
    rcases kT_at h hf with hq | hq
    · exact hq
    · exact absurd hrng hq
  refine v_Text_readType_0 ?_
  rw [ha, e0]
  refine ⟨fun _ _ => by omega, ⟨by omega, by omega⟩, fun c1 => ?_, fun c1 => ⟨fun c2 => ?_, fun c2 => ⟨fun c3 => ?_, fun c3 => ⟨fun c4 => ?_, fun c4 => ⟨fun c5 => ?_, fun c5 => ?_⟩⟩⟩⟩⟩
  · exact kT_ok h (to_ := k + 1) (by unfold rtP; rw [if_pos c1]) hf (by rw [zI_eq]; omega)
  · have e : rtP D T k = rsP T k 0 := by unfold rtP; rw [if_neg c1, if_pos c2]
    rw [e] at hkT
    exact v_Text_readSize_0 ⟨⟨by omega, by omega⟩, fun hc => by omega, fun _ => C_rsize_9 hT ht1 zI_eq hk (.inl ⟨rfl, rfl⟩) hkT⟩
  · have e : rtP D T k = rsP T k 1 := by unfold rtP; rw [if_neg c1, if_neg c2, if_pos c3]
    rw [e] at hkT
    exact v_Text_readSize_0 ⟨⟨by omega, by omega⟩, fun _ => C_rsize_9 hT ht1 zI_eq hk (.inr ⟨rfl, rfl⟩) hkT, fun hc => absurd rfl hc⟩
  · have e : rtP D T k = rrP D T k := by unfold rtP; rw [if_neg c1, if_neg c2, if_neg c3, if_pos c4]
    rw [e] at hkT
    exact C_rrec hA hsh1 hT ht1 zI_eq hk hkT
  · have e : rtP D T k = rwP T k := by unfold rtP; rw [if_neg c1, if_neg c2, if_neg c3, if_neg c4, if_pos c5]
    rw [e] at hkT
    exact C_rwidth hT ht1 zI_eq hk hkT fun hs t hft hat => zkI_I ⟨by omega, by omega⟩ (hsp c5 hs t (fAt_trans hf hft) hat)
  · exact kT_no h (y := (k : Int)) (by unfold rtP; rw [if_neg c1, if_neg c2, if_neg c3, if_neg c4, if_neg c5]) (by omega) fAt_refl ha
theorem C_rcount {k : Nat} {ty : Int} (hT : okTx T) (ht : cTx s T) (ha : zI s 36 3 = (k : Int)) (hk : k ≤ 200) (hty : rng ty) (h : kT (rcP T ty k) s Q) : wp S 100 0 [(0, rf 36), (1, iv ty)] [] s Q := by
  have hl := ht.1
  have hT8 := hT.1
  have e0 := c_sg ht k
  have e1 := c_sg1 ht k
  have e2 := c_sg2 ht k
  have hb := ltr_b hT (k + 1)
  refine v_Text_readCount_0 ?_
  rw [ha, e0, e1, e2]
  have hne : ∀ {v : Int}, ¬ (ltr T k = 91 ∧ ¬ (21 ≤ ty ∧ ty ≤ 36)) → Q (rI 1) s := fun {v} hn => kT_ok h (to_ := k) (by unfold rcP; rw [if_neg hn]) fAt_refl ha
  refine ⟨hty, fun c1 => hne (v := 0) fun hh => hh.2 ⟨by omega, by omega⟩, fun c1 => ⟨fun _ _ => by omega, ⟨by omega, by omega⟩, fun c2 => ⟨fun _ _ => by omega, ?_⟩, fun c2 => hne (v := 0) fun hh => c2 hh.1⟩⟩
  have hcond : ltr T k = 91 ∧ ¬ (21 ≤ ty ∧ ty ≤ 36) := ⟨c2, fun hh => c1 ⟨by omega, hh.2⟩⟩
  have hno : ¬ (49 ≤ ltr T (k + 1) ∧ ltr T (k + 1) ≤ 52) → Q (rI (-1)) (zwI s 36 3 ((k : Int) + 1)) := fun hn => kT_no h (y := (k : Int) + 1) (by unfold rcP; rw [if_pos hcond, if_neg hn]) (by omega) (fAt_w fAt_refl) zI_eq
  by_cases hd : 48 ≤ ltr T (k + 1) ∧ ltr T (k + 1) ≤ 57
  · rw [zdg_y hd]
    refine ⟨⟨by omega, by omega⟩, fun c3 => hno fun hh => by omega, fun c3 => ⟨fun c4 => ⟨⟨by omega, by omega⟩, fun _ _ => by omega, ⟨by omega, by omega⟩, fun c5 => ?_, fun c5 => ?_⟩, fun c4 => hno fun hh => by omega⟩⟩
    · exact kT_ok h (to_ := k + 3) (by unfold rcP; rw [if_pos hcond, if_pos (show 49 ≤ ltr T (k + 1) ∧ ltr T (k + 1) ≤ 52 by omega), if_pos c5]) (fAt_w (fAt_w (fAt_w fAt_refl))) (by rw [zI_eq]; omega)
    · exact kT_no h (y := (k : Int) + 2) (by unfold rcP; rw [if_pos hcond, if_pos (show 49 ≤ ltr T (k + 1) ∧ ltr T (k + 1) ≤ 52 by omega), if_neg c5]) (by omega) (fAt_w (fAt_w fAt_refl)) (by rw [zI_eq]; omega)
  · rw [zdg_n hd]
    exact ⟨⟨by omega, by omega⟩, fun _ => hno fun hh => hd ⟨by omega, by omega⟩, fun c3 => by omega⟩
end RDX

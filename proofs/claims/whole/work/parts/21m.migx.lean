/-! ===== convert and migrate of the class ===== -/
def argC (ly od : Int) : Prop := (0 ≤ ly ∧ ly ≤ 8) ∧ 0 ≤ od ∧ od ≤ 1
theorem mgD_at {D : Int → Int} {t o ly od : Int} (hA : okA D) (hv : isLv D t) (ho : hasRc D o) (hd : 0 < dN D o) (h2 : 0 ≤ ly ∧ ly ≤ 8) (h3 : 0 ≤ od ∧ od ≤ 1) (hs : bseT D o (tNr D t) ly ≠ -1) : isLv (mgD D t o ly od) t ∧ tBs (mgD D t o ly od) t = bseT D o (tNr D t) ly := by
  have h1 := (isLv_ok hA hv).2.2.1
  obtain ⟨z1, z2, z3, z4, z5⟩ := mg_in hA ho hd h1 h2 hs
  have hP := mgT_P (od := od) hA hv ho hd h2 h3 hs
  have hag := (mgL_ok (od := od) hA hv ho hd h2 h3 hs).1
  obtain ⟨a1, a2, a3, a4, a5, a6⟩ := newTD_at (D := D) (t := t) (r := o) (nr := tNr D t) (ly := ly) (od := od) (bs := bseT D o (tNr D t) ly) ⟨hv.1, hv.2.1⟩ z2.1
  have hz := agT_tab hag hv.1 hv.2.1
  refine ⟨(tG_ag hP.1 hag hP.2.1).1, hz.2.2.2.2.1.trans ?_⟩
  unfold mgT
  exact a5
section OPS28
variable {S : Option (Nat × (Nat → Int32))} {Q : Option Value ⊕ Nat → zSt → Prop} {s : zSt} {D : Int → Int} {H : List (Int → Int)} {T : List Int}
theorem X_convert {t ly od : Int} (hA : okA D) (hH : okHs H) (h : cRel s D H T) (ht : rng t) (h2 : rng ly) (h3 : rng od) (k1 : ¬ isLv D t → Q (rT 2) (zbump s)) (k2 : isLv D t → ¬ argC ly od → Q (rT 0) (zbump s)) (k3 : isLv D t → argC ly od → bseT D (tRc D t) (tNr D t) ly = -1 → ∀ u, frm clsC s u → cRel u D H T → Q (rT 1) (zbump u)) (k4 : isLv D t → argC ly od → bseT D (tRc D t) (tNr D t) ly ≠ -1 → ∀ u, frm clsC s u → cRel u (mgD D t (tRc D t) ly od) (pushH H D) T → Q (rI (bseT D (tRc D t) (tNr D t) ly)) u) : wp S 139 0 [(0, rf 2), (1, iv t), (2, iv ly), (3, iv od)] [] s Q := by
  refine v_RL_convert_0 ⟨ht, fun hc => ⟨h2, fun c2 => ⟨h3, fun c3 => ⟨⟨hc.1, hc.2.1⟩, ?_⟩, fun c3 => k2 ((c_live hA h t).1.mp hc) fun ha => c3 ha.2⟩, fun c2 => k2 ((c_live hA h t).1.mp hc) fun ha => c2 ha.1⟩, fun hc => k1 fun hv => hc ((c_live hA h t).1.mpr hv)⟩
  have hv := (c_live hA h t).1.mp hc
  have hT := isLv_ok hA hv
  have hrc : zI s (31 + t) 1 = tRc D t := by
    have hz := (cTb_live h.1 hv.1 hv.2.1).2 hv.2.2 0 (by omega) (by omega)
    rw [Int.add_zero] at hz
    exact hz
  rw [hrc]
  refine X_rewrite hA hH h hv ⟨hT.1.1, hT.1.2⟩ hT.2.1 c2 c3 (fun hb u hfu hcu => .inr ⟨_, rfl, k3 hv ⟨c2, c3⟩ hb u hfu hcu⟩) fun hb u hfu hcu => ?_
  have hmb := mgN_b (D := D) (t := t) (o := tRc D t) (gV (shp D (tRc D t))).length
  have h40 := (okG_shp hA.1 hT.1.1 hT.1.2).2.1
  refine zkI_I ⟨by omega, by omega⟩ ?_
  have hat := mgD_at (od := od) hA hv ⟨hT.1.1, hT.1.2⟩ hT.2.1 c2 c3 hb
  have hbs : zI u (31 + t) 5 = bseT D (tRc D t) (tNr D t) ly := ((cTb_live hcu.1 hv.1 hv.2.1).2 hat.1.2.2 4 (by omega) (by omega)).trans hat.2
  rw [hbs]
  exact k4 hv ⟨c2, c3⟩ hb u hfu hcu
def argM (ly : Int) : Prop := 0 ≤ ly ∧ ly ≤ 8
def staM (D : Int → Int) (t o ly : Int) : Prop := 0 < dN D o ∧ bseT D o (tNr D t) ly ≠ -1
theorem X_migrate {t o ly : Int} (hA : okA D) (hH : okHs H) (h : cRel s D H T) (ht : rng t) (hro : rng o) (h2 : rng ly) (k1 : ¬ (isLv D t ∧ hasRc D o) → Q (rT 2) (zbump s)) (k2 : isLv D t ∧ hasRc D o → ¬ argM ly → Q (rT 0) (zbump s)) (k3 : isLv D t ∧ hasRc D o → argM ly → ¬ staM D t o ly → ∀ u, frm clsC s u → cRel u D H T → Q (rT 1) (zbump u)) (k4 : isLv D t ∧ hasRc D o → argM ly → staM D t o ly → ∀ u, frm clsC s u → cRel u (mgD D t o ly (tOr D t)) (pushH H D) T → Q (rI (mgN D t o (gV (shp D o)).length)) u) : wp S 144 0 [(0, rf 2), (1, iv t), (2, iv o), (3, iv ly)] [] s Q := by
  have hD0 := hA.1.1
  have e0 : zI s 3 0 = D 0 := h.1.1
  refine v_RL_migrate_0 ⟨ht, fun hc => ⟨hro, fun c2 => ⟨h2, fun c3 => ⟨⟨c2.1, by omega⟩, ?_⟩, fun c3 => k2 ⟨(c_live hA h t).1.mp hc, c2.1, by omega⟩ c3⟩, fun c2 => k1 fun hh => c2 ⟨hh.2.1, by have := hh.2.2; omega⟩⟩, fun hc => k1 fun hh => hc ((c_live hA h t).1.mpr hh.1)⟩
  have hv := (c_live hA h t).1.mp hc
  have hh : hasRc D o := ⟨c2.1, by omega⟩
  have hT := isLv_ok hA hv
  have en : zI s (7 + 4 * o) 1 = dN D o := by
    have hz := (h.1.2.1 o hh.1 hh.2).2.1
    rw [show (3 : Int) + 4 + 4 * o = 7 + 4 * o by omega] at hz
    exact hz
  rw [en]
  refine ⟨fun hd => ⟨⟨hc.1, hc.2.1⟩, ?_⟩, fun hd => k3 ⟨hv, hh⟩ c3 (fun hs => by have := hs.1; omega) s frm_refl h⟩
  have hrc : zI s (31 + t) 4 = tOr D t := (cTb_live h.1 hv.1 hv.2.1).2 hv.2.2 3 (by omega) (by omega)
  rw [hrc]
  refine X_rewrite hA hH h hv hh (by omega) c3 hT.2.2.2.2.1 (fun hb u hfu hcu => .inr ⟨_, rfl, k3 ⟨hv, hh⟩ c3 (fun hs => hs.2 hb) u hfu hcu⟩) fun hb u hfu hcu => ?_
  have hmb := mgN_b (D := D) (t := t) (o := o) (gV (shp D o)).length
  have h40 := (okG_shp hA.1 hh.1 hh.2).2.1
  exact zkI_I ⟨by omega, by omega⟩ (k4 ⟨hv, hh⟩ c3 ⟨by omega, hb⟩ u hfu hcu)
end OPS28

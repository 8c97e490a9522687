/-! ===== digest ===== -/
def mxH (h : Int64) (v : Int) : Int64 := 31 * h + zi2l v
noncomputable def d6H (D : Int → Int) (r : Int) (h : Int64) : Nat → Int64
  | 0 => h
  | w + 1 => mxH (d6H D r h w) (recN D r w)
noncomputable def d5H (D : Int → Int) (r f : Int) (h : Int64) : Nat → Int64
  | 0 => h
  | w + 1 => mxH (d5H D r f h w) (fldN D r f w)
noncomputable def dFH (D : Int → Int) (r : Int) (h : Int64) : Nat → Int64
  | 0 => h
  | f + 1 => d5H D r f (dFH D r h f) 5
noncomputable def dRH (D : Int → Int) (h : Int64) : Nat → Int64
  | 0 => h
  | r + 1 => dFH D r (d6H D r (dRH D h r) 6) (dN D r).toNat
def dtH (D : Int → Int) (t : Int) (h : Int64) : Nat → Int64
  | 0 => h
  | w + 1 => mxH (dtH D t h w) (D (157 + 6 * t + w))
def dTH (D : Int → Int) (h : Int64) : Nat → Int64
  | 0 => h
  | t + 1 => if tRc D t = -1 then dTH D h t else dtH D t (dTH D h t) 6
def dBH (D : Int → Int) (h : Int64) : Nat → Int64
  | 0 => h
  | a + 1 => mxH (dBH D h a) (D (175 + a))
noncomputable def digH (D : Int → Int) (n m : Int) : Int64 := mxH (mxH (dBH D (dTH D (mxH (dRH D (mxH 1733 (D 0)) (D 0).toNat) (tabS D 3)) 3) 1024) n) m
section OPS33
variable {S : Option (Nat × (Nat → Int32))} {Q : Option Value ⊕ Nat → zSt → Prop} {s : zSt} {D : Int → Int} {H : List (Int → Int)} {T : List Int}
theorem M_fieldBy2 {r f w : Int} (hA : okA D) (hm : mD s D) (hly : mLay s D (D 0)) (hh : hasFd D r f) (hw : 0 ≤ w ∧ w ≤ 5) (k1 : ∀ t, frm cLy s t → mLay t D (D 0) → Q (rI (fldN D r f w)) t) : wp S 209 0 [(0, rf 252), (1, iv r), (2, iv f), (3, iv w)] [] s Q := by
  have hF := okD_Fs hA.1 hh.1.1 hh.1.2
  have hr := hF.1
  have hn8 := hF.2.2.1
  have hf0 := hh.2.1
  have hf1 := hh.2.2
  have hr1 := hh.1.2
  refine v_Model_fieldBy_0 ⟨⟨by omega, by omega⟩, fun h3 => ?_, fun h3 => ?_⟩
  · refine C_inOrder fun t1 hf1' ho1 => zkU_U ?_
    have hm1 : mD t1 D := fun j q0 q1 => (fI hf1' (by omega)).trans (hm j q0 q1)
    have hmty : mTy t1 (shp D) r := fun i q0 q1 => by
      have hz := hly i q0 (by omega)
      exact ⟨(fI hf1' (by omega)).trans hz.1, (fI hf1' (by omega)).trans hz.2.1⟩
    refine C_places hF (o := fun k => k) (fun k hk => ⟨by omega, hk⟩) hm1 hmty (fun j hj => ho1 j (by omega) (by omega)) fun t2 hf2 h258 h258r hpos => ?_
    have hsh := shp_eq (D := D) (r := r) (by omega) fun f q0 q1 => (hF.2.2.2 f q0 q1).1.2.1
    have hpl := plo_id (N := shp D) (pack := dP D r) (D := D) (r := r) (o := fun k => (k : Int)) (dN D r).toNat fun j hj => rfl
    rw [← hsh] at hpl
    rw [hpl] at h258r
    rw [hpl]
    dsimp only at h258r ⊢
    have hl1 : mLay t1 D (D 0) := mLay_fr hly hf1' fun a a0 a1 => by omega
    have hl2 : mLay t2 D (D 0) := fun i q0 q1 => by
      obtain ⟨z1, z2, z3, z4⟩ := hl1 i q0 q1
      refine ⟨(fI hf2 (by omega)).trans z1, ?_, (fI hf2 (by omega)).trans z3, fun x hx => ?_⟩
      · by_cases hir : i = r
        · subst hir; exact h258r
        · rw [h258 i hir]; exact z2
      · obtain ⟨y1, y2, y3, y4, y5, y6⟩ := z4 x hx
        exact ⟨(fI hf2 (by omega)).trans y1, (fI hf2 (by omega)).trans y2, (fI hf2 (by omega)).trans y3, (fI hf2 (by omega)).trans y4, (fI hf2 (by omega)).trans y5, fun k hk => (fI hf2 (by omega)).trans (y6 k hk)⟩
    have hO := (shp_OK hA.1 (r := r) (by omega) (by omega)).1
    have hub := zup_8 hO.2.1 hO.1.2
    have huc := zup_b (e := gE (shp D r)) hO.2.1
    have hol := (shp_OK hA.1 (r := r) (by omega) (by omega)).2.2
    have hoe := hO.1.1
    have hall : frm cLy s t2 := frm_trans (frm_mono hf1' fun a ha => by unfold cLy; omega) (frm_mono hf2 fun a ha => by unfold cLy; omega)
    have hk := k1 t2 hall hl2
    have hp := hpos (fun _ _ => rfl) f.toNat (by omega)
    rw [ploP_id fun j hj => rfl, Int.toNat_of_nonneg hf0] at hp
    have hq := fld_gQ (f := f.toNat) hA hh.1 (by omega)
    rw [Int.toNat_of_nonneg hf0] at hq
    unfold fldN at hk
    rw [if_neg (by omega), if_neg (by omega), if_neg (by omega), hq] at hk
    refine zkI_I ⟨by omega, by omega⟩ ⟨fun h4 => ⟨fun h5 => ?_, fun h5 => ?_⟩, fun h4 => ?_⟩
    · rw [if_neg h4, if_neg h5] at hk
      have ety : zI t2 253 (1 + 26 * r + 2 + 3 * f + 1) = dTy D r f := (fI hf2 (by omega)).trans (hm1 _ (by omega) (by omega))
      have ht := okT_106 (hF.2.2.2 f hf0 hf1).1.2.1 (by omega)
      refine ⟨⟨by omega, by omega⟩, ?_⟩
      rw [ety]
      refine ⟨ht.2, ?_⟩
      rw [zel_at (N := shp D) (g := gS) (fun h100 => ?_)]
      · exact hk
      · have hin := okT_in (hF.2.2.2 f hf0 hf1).1.2.1 h100
        exact (fI hf2 (by omega)).trans (hmty _ hin.1 hin.2.1).1
    · rw [if_neg h4, if_pos h5] at hk
      refine ⟨⟨by omega, by omega⟩, ?_⟩
      rw [hp.2]
      exact hk
    · rw [if_pos h4] at hk
      refine ⟨⟨by omega, by omega⟩, ?_⟩
      rw [hp.1]
      exact hk
  · have hk := k1 s frm_refl hly
    unfold fldN at hk
    refine ⟨⟨by omega, by omega⟩, ?_⟩
    rw [hm _ (by omega) (by omega)]
    rcases (by omega : w = 0 ∨ w = 1 ∨ w = 2) with e | e | e
    · subst e; rw [Int.add_zero]; exact hk
    · subst e; exact hk
    · subst e; exact hk

theorem X_hash_58 {r f : Int} {h0 : Int64} (hA : okA D) (h : cRel s D H T) (hh : hasFd D r f) (k1 : wp S 27 38 [(0, rf 2), (3, iv r), (4, .long (d5H D r f h0 5)), (6, iv (f + 1))] [] s Q) (n : Nat) : ∀ w : Nat, w + n = 5 → wp S 27 58 [(0, rf 2), (3, iv r), (4, .long (d5H D r f h0 w)), (6, iv f), (7, iv w)] [] s Q := by
  induction n with
  | zero => intro w hw; rw [show w = 5 by omega]; exact v_RL_hashRecord_58 ⟨⟨by omega, by omega⟩, fun _ => k1, fun hc => by omega⟩
  | succ n ihn =>
    intro w hw
    exact v_RL_hashRecord_58 ⟨⟨by omega, by omega⟩, fun hc => by omega, fun _ => X_fieldNumber hA h hh ⟨by omega, by omega⟩ (zkI_I (fldN_rng hA hh) (ihn (w + 1) (by omega)))⟩
theorem X_hash_38 {r : Int} {h0 : Int64} (hA : okA D) (h : cRel s D H T) (hr : hasRc D r) (k1 : Q (rL (dFH D r h0 (dN D r).toNat)) s) (n : Nat) : ∀ f : Nat, (f : Int) + n = dN D r → wp S 27 38 [(0, rf 2), (3, iv r), (4, .long (dFH D r h0 f)), (6, iv f)] [] s Q := by
  have hD0 := hA.1.1
  have hr0 := hr.1
  have hr1 := hr.2
  have hn8 := (hA.1.2 r hr.1 hr.2).2.1
  have en : zI s (7 + 4 * r) 1 = dN D r := by
    have hz := (h.1.2.1 r hr.1 hr.2).2.1
    rw [show (3 : Int) + 4 + 4 * r = 7 + 4 * r by omega] at hz
    exact hz
  induction n with
  | zero =>
    intro f hf
    rw [show (dN D r).toNat = f by omega] at k1
    refine v_RL_hashRecord_38 ⟨⟨by omega, by omega⟩, ⟨by omega, by omega⟩, fun _ => k1, fun hc => by omega⟩
  | succ n ihn =>
    intro f hf
    refine v_RL_hashRecord_38 ⟨⟨by omega, by omega⟩, ⟨by omega, by omega⟩, fun hc => by omega, fun _ => ?_⟩
    exact X_hash_58 (h0 := dFH D r h0 f) hA h ⟨hr, by omega, by omega⟩ (ihn (f + 1) (by omega)) 5 0 rfl
theorem X_hashRecord {r : Int} {h0 : Int64} (hA : okA D) (h : cRel s D H T) (hr : hasRc D r) (k1 : Q (rL (dFH D r (d6H D r h0 6) (dN D r).toNat)) s) : wp S 27 0 [(0, rf 2), (1, .long h0), (3, iv r)] [] s Q := by
  have hn8 := (hA.1.2 r hr.1 hr.2).2.1
  have hloop : ∀ n w : Nat, w + n = 6 → wp S 27 6 [(0, rf 2), (3, iv r), (4, .long (d6H D r h0 w)), (6, iv w)] [] s Q := by
    intro n
    induction n with
    | zero => intro w hw; rw [show w = 6 by omega]; exact v_RL_hashRecord_6 ⟨⟨by omega, by omega⟩, fun _ => X_hash_38 (h0 := d6H D r h0 6) hA h hr k1 (dN D r).toNat 0 (by omega), fun hc => by omega⟩
    | succ n ihn =>
      intro w hw
      exact v_RL_hashRecord_6 ⟨⟨by omega, by omega⟩, fun hc => by omega, fun _ => X_recordNumber hA h hr ⟨by omega, by omega⟩ (zkI_I (recN_rng hA hr) (ihn (w + 1) (by omega)))⟩
  exact v_RL_hashRecord_0 (hloop 6 0 rfl)
theorem X_digest (hA : okA D) (h : cRel s D H T) (k1 : Q (rL (digH D T.length H.length)) s) : wp S 26 0 [(0, rf 2)] [] s Q := by
  have hD0 := hA.1.1
  have e0 : zI s 3 0 = D 0 := h.1.1
  have hm := h.1.2.2.2
  rw [show (3 : Int) + 3 = 6 by omega] at hm
  have h111 : ∀ n a : Nat, a + n = 1024 → wp S 26 111 [(0, rf 2), (1, .long (dBH D (dTH D (mxH (dRH D (mxH 1733 (D 0)) (D 0).toNat) (tabS D 3)) 3) a)), (3, iv a)] [] s Q := by
    intro n
    induction n with
    | zero =>
      intro a ha
      refine v_RL_digest_111 ⟨⟨by omega, by omega⟩, fun _ => ?_, fun hc => by omega⟩
      rw [h.2.2.2.1.1, h.2.2.1.2.1.1, show a = 1024 by omega]
      exact k1
    | succ n ihn =>
      intro a ha
      refine v_RL_digest_111 ⟨⟨by omega, by omega⟩, fun hc => by omega, fun _ => ⟨⟨by omega, by omega⟩, ?_⟩⟩
      have hz := hm a (by omega) (by omega)
      rw [zand_255 hz.2, ← hz.1]
      exact ihn (a + 1) (by omega)
  have h61 : ∀ (t : Nat) (u : Int64), t < 3 → tRc D t ≠ -1 → wp S 26 53 [(0, rf 2), (1, .long (dtH D t u 6)), (3, iv (t + 1))] [] s Q → ∀ n w : Nat, w + n = 6 → wp S 26 61 [(0, rf 2), (1, .long (dtH D t u w)), (3, iv t), (4, iv w)] [] s Q := by
    intro t u ht hl hk n
    have hv : isLv D t := ⟨by omega, by omega, hl⟩
    induction n with
    | zero => intro w hw; rw [show w = 6 by omega]; exact v_RL_digest_61 ⟨⟨by omega, by omega⟩, fun _ => hk, fun hc => by omega⟩
    | succ n ihn =>
      intro w hw
      refine v_RL_digest_61 ⟨⟨by omega, by omega⟩, fun hc => by omega, fun _ => ⟨⟨by omega, by omega⟩, fun hz => absurd hl fun hq => ?_, fun _ => C_tableNumber hv h.1 ⟨by omega, by omega⟩ (zkI_I (tab_rng hA hv ⟨by omega, by omega⟩) (ihn (w + 1) (by omega)))⟩⟩
      exact absurd hz ((cTb_live h.1 (t := t) (by omega) (by omega)).1.mpr hl)
  have h53 : ∀ n t : Nat, t + n = 3 → wp S 26 53 [(0, rf 2), (1, .long (dTH D (mxH (dRH D (mxH 1733 (D 0)) (D 0).toNat) (tabS D 3)) t)), (3, iv t)] [] s Q := by
    intro n
    induction n with
    | zero => intro t ht; rw [show t = 3 by omega]; exact v_RL_digest_53 ⟨⟨by omega, by omega⟩, fun _ => h111 1024 0 rfl, fun hc => by omega⟩
    | succ n ihn =>
      intro t ht
      have hz := ihn (t + 1) (by omega)
      refine v_RL_digest_53 ⟨⟨by omega, by omega⟩, fun hc => by omega, fun _ => ?_⟩
      by_cases hl : tRc D t = -1
      · have e : dTH D (mxH (dRH D (mxH 1733 (D 0)) (D 0).toNat) (tabS D 3)) (t + 1) = dTH D (mxH (dRH D (mxH 1733 (D 0)) (D 0).toNat) (tabS D 3)) t := if_pos hl
        rw [e] at hz
        have hzero : zI s (31 + (t : Int)) 0 = 0 := Classical.byContradiction fun hq => (cTb_live h.1 (t := t) (by omega) (by omega)).1.mp hq hl
        exact v_RL_digest_61 ⟨⟨by omega, by omega⟩, fun hc => by omega, fun _ => ⟨⟨by omega, by omega⟩, fun _ => hz, fun hq => absurd hzero hq⟩⟩
      · have e : dTH D (mxH (dRH D (mxH 1733 (D 0)) (D 0).toNat) (tabS D 3)) (t + 1) = dtH D t (dTH D (mxH (dRH D (mxH 1733 (D 0)) (D 0).toNat) (tabS D 3)) t) 6 := if_neg hl
        rw [e] at hz
        exact h61 t _ (by omega) hl hz 6 0 rfl
  have h15 : ∀ n r : Nat, (r : Int) + n = D 0 → wp S 26 15 [(0, rf 2), (1, .long (dRH D (mxH 1733 (D 0)) r)), (3, iv r)] [] s Q := by
    intro n
    induction n with
    | zero =>
      intro r hr
      have hz := h53 3 0 rfl
      rw [show (D 0).toNat = r by omega] at hz
      refine v_RL_digest_15 ⟨⟨by omega, by omega⟩, fun _ => X_tables h (zkI_I (tabS_rng D 3) hz), fun hc => by omega⟩
    | succ n ihn =>
      intro r hr
      refine v_RL_digest_15 ⟨⟨by omega, by omega⟩, fun hc => by omega, fun _ => X_hashRecord hA h ⟨by omega, by omega⟩ (zkL_L (ihn (r + 1) (by omega)))⟩
  have hz := h15 (D 0).toNat 0 (by omega)
  have e : dRH D (mxH 1733 (D 0)) 0 = 53723 + zi2l (zI s 3 0) := by
    rw [e0]
    show 31 * 1733 + zi2l (D 0) = _
    rw [show (31 * 1733 : Int64) = 53723 by decide]
  rw [e] at hz
  exact v_RL_digest_0 hz
end OPS33

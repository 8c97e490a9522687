/-! ===== digest of the reference ===== -/
section OPS34
variable {S : Option (Nat × (Nat → Int32))} {Q : Option Value ⊕ Nat → zSt → Prop} {s : zSt} {D : Int → Int} {H : List (Int → Int)} {T : List Int}
/-- while a digest is mixed -/
def dgI (s0 : zSt) (D : Int → Int) (H : List (Int → Int)) (T : List Int) (s : zSt) (h : Int64) : Prop := mRel s D H T ∧ mLay s D (D 0) ∧ zL s 252 29 = h ∧ zI s 252 3 = 0 ∧ frm modC s0 s
theorem dg_w {s0 : zSt} {h v : Int64} (k : dgI s0 D H T s h) : dgI s0 D H T (zwL s 252 29 v) v := by
  obtain ⟨a, b, c, d, e⟩ := k
  have hz : ∀ x j, zI (zwL s 252 29 v) x j = zI s x j := fun x j => zI_wL ..
  refine ⟨⟨fun j q0 q1 => (hz _ _).trans (a.1 j q0 q1), ⟨⟨(hz _ _).trans a.2.1.1.1, a.2.1.1.2⟩, fun i hi j q0 q1 => (hz _ _).trans (a.2.1.2 i hi j q0 q1)⟩, (hz _ _).trans a.2.2.1, fun i hi => (hz _ _).trans (a.2.2.2 i hi)⟩, ?_, by rw [zL_wL, if_pos ⟨rfl, rfl⟩], (hz _ _).trans d, frm_L e (by unfold modC; omega)⟩
  exact mLay_fr b (frm_L (P := fun x => x = 252) frm_refl rfl) fun a a0 a1 => by omega
theorem dg_ly {s0 u : zSt} {h : Int64} (k : dgI s0 D H T s h) (hf : frm cLy s u) (hl : mLay u D (D 0)) : dgI s0 D H T u h := by
  obtain ⟨a, b, c, d, e⟩ := k
  exact ⟨mRel_ly a hf, hl, (fL hf (by unfold cLy; omega)).trans c, (fI hf (by unfold cLy; omega)).trans d, frm_trans e (cLy_mod hf)⟩
theorem M_dig_77 {s0 : zSt} {r f : Int} {h0 : Int64} (hA : okA D) (hh : hasFd D r f) (k1 : ∀ u, dgI s0 D H T u (d5H D r f h0 5) → wp S 274 66 [(0, rf 252), (1, iv r), (2, iv (f + 1))] [] u Q) (n : Nat) : ∀ (w : Nat) (s : zSt), w + n = 5 → dgI s0 D H T s (d5H D r f h0 w) → wp S 274 77 [(0, rf 252), (1, iv r), (2, iv f), (3, iv w)] [] s Q := by
  induction n with
  | zero => intro w s hw hd; rw [show w = 5 by omega] at hd ⊢; exact v_Model_digest_77 ⟨⟨by omega, by omega⟩, fun _ => k1 s hd, fun hc => by omega⟩
  | succ n ihn =>
    intro w s hw hd
    refine v_Model_digest_77 ⟨⟨by omega, by omega⟩, fun hc => by omega, fun _ => M_fieldBy2 hA hd.1.1 hd.2.1 hh ⟨by omega, by omega⟩ fun t hft hlt => zkI_I (fldN_rng hA hh) ?_⟩
    have hdt := dg_ly hd hft hlt
    have hc := hdt.2.2.1
    rw [hc]
    exact ihn (w + 1) _ (by omega) (dg_w hdt)
theorem M_dig_66 {s0 : zSt} {r : Int} {h0 : Int64} (hA : okA D) (hr : hasRc D r) (k1 : ∀ u, dgI s0 D H T u (dFH D r h0 (dN D r).toNat) → wp S 274 29 [(0, rf 252), (1, iv (r + 1))] [] u Q) (n : Nat) : ∀ (f : Nat) (s : zSt), (f : Int) + n = dN D r → dgI s0 D H T s (dFH D r h0 f) → wp S 274 66 [(0, rf 252), (1, iv r), (2, iv f)] [] s Q := by
  have hD0 := hA.1.1
  have hr0 := hr.1
  have hr1 := hr.2
  have hn8 := (hA.1.2 r hr.1 hr.2).2.1
  induction n with
  | zero =>
    intro f s hf hd
    have en : zI s 253 (1 + 26 * r + 1) = dN D r := hd.1.1 _ (by omega) (by omega)
    rw [show (dN D r).toNat = f by omega] at k1
    exact v_Model_digest_66 ⟨⟨by omega, by omega⟩, ⟨by omega, by omega⟩, fun _ => k1 s hd, fun hc => by omega⟩
  | succ n ihn =>
    intro f s hf hd
    have en : zI s 253 (1 + 26 * r + 1) = dN D r := hd.1.1 _ (by omega) (by omega)
    refine v_Model_digest_66 ⟨⟨by omega, by omega⟩, ⟨by omega, by omega⟩, fun hc => by omega, fun _ => ?_⟩
    exact M_dig_77 (h0 := dFH D r h0 f) hA ⟨hr, by omega, by omega⟩ (fun u hu => ihn (f + 1) u (by omega) hu) 5 0 s rfl hd
theorem M_dig_41 {s0 : zSt} {r : Int} {h0 : Int64} (hA : okA D) (hr : hasRc D r) (k1 : ∀ u, dgI s0 D H T u (dFH D r (d6H D r h0 6) (dN D r).toNat) → wp S 274 29 [(0, rf 252), (1, iv (r + 1))] [] u Q) (n : Nat) : ∀ (w : Nat) (s : zSt), w + n = 6 → dgI s0 D H T s (d6H D r h0 w) → wp S 274 41 [(0, rf 252), (1, iv r), (2, iv w)] [] s Q := by
  have hn8 := (hA.1.2 r hr.1 hr.2).2.1
  induction n with
  | zero =>
    intro w s hw hd
    rw [show w = 6 by omega] at hd ⊢
    exact v_Model_digest_41 ⟨⟨by omega, by omega⟩, fun _ => M_dig_66 (h0 := d6H D r h0 6) hA hr k1 (dN D r).toNat 0 s (by omega) hd, fun hc => by omega⟩
  | succ n ihn =>
    intro w s hw hd
    refine v_Model_digest_41 ⟨⟨by omega, by omega⟩, fun hc => by omega, fun _ => M_recordBy hA hd.1.1 hd.2.1 hr ⟨by omega, by omega⟩ (zkI_I (recN_rng hA hr) ?_)⟩
    rw [hd.2.2.1]
    exact ihn (w + 1) _ (by omega) (dg_w hd)
theorem M_digest (hA : okA D) (h : mRel s D H T) (k1 : ∀ u, frm modC s u → zI u 252 3 = 0 → mRel u D H T → Q (rL (digH D T.length H.length)) u) : wp S 274 0 [(0, rf 252)] [] s Q := by
  have hD0 := hA.1.1
  have h169 : ∀ (n a : Nat) (u : zSt), a + n = 1024 → dgI s D H T u (dBH D (dTH D (mxH (dRH D (mxH 1733 (D 0)) (D 0).toNat) (tabS D 3)) 3) a) → wp S 274 169 [(0, rf 252), (1, iv a)] [] u Q := by
    intro n
    induction n with
    | zero =>
      intro a u ha hd
      refine v_Model_digest_169 ⟨⟨by omega, by omega⟩, fun _ => ?_, fun hc => by omega⟩
      have hw1 := dg_w (v := 31 * zL u 252 29 + zi2l (zI u 252 5)) hd
      have hw2 := dg_w (v := 31 * (31 * zL u 252 29 + zi2l (zI u 252 5)) + zi2l (zI u 252 2)) hw1
      have hk := k1 _ hw2.2.2.2.2 hw2.2.2.2.1 hw2.1
      have e5 : zI u 252 5 = (T.length : Int) := hd.1.2.2.1
      have e2 : zI u 252 2 = (H.length : Int) := hd.1.2.1.1.1
      have eh := hd.2.2.1
      rw [show a = 1024 by omega] at eh
      rw [e5, e2, eh] at hk ⊢
      exact hk
    | succ n ihn =>
      intro a u ha hd
      refine v_Model_digest_169 ⟨⟨by omega, by omega⟩, fun hc => by omega, fun _ => ⟨⟨by omega, by omega⟩, ?_⟩⟩
      rw [hd.2.2.1, hd.1.1 _ (by omega) (by omega)]
      exact ihn (a + 1) _ (by omega) (dg_w hd)
  have h123 : ∀ (n t : Nat) (u : zSt), t + n = 3 → dgI s D H T u (dTH D (mxH (dRH D (mxH 1733 (D 0)) (D 0).toNat) (tabS D 3)) t) → wp S 274 123 [(0, rf 252), (1, iv t)] [] u Q := by
    intro n
    induction n with
    | zero => intro t u ht hd; rw [show t = 3 by omega] at hd ⊢; exact v_Model_digest_123 ⟨⟨by omega, by omega⟩, fun _ => h169 1024 0 u rfl hd, fun hc => by omega⟩
    | succ n ihn =>
      intro t u ht hd
      refine v_Model_digest_123 ⟨⟨by omega, by omega⟩, fun hc => by omega, fun _ => ?_⟩
      by_cases hl : tRc D t = -1
      · have e : dTH D (mxH (dRH D (mxH 1733 (D 0)) (D 0).toNat) (tabS D 3)) (t + 1) = dTH D (mxH (dRH D (mxH 1733 (D 0)) (D 0).toNat) (tabS D 3)) t := if_pos hl
        have hz := ihn (t + 1) u (by omega) (by rw [e]; exact hd)
        have er : zI u 253 (157 + 6 * (t : Int)) = tRc D t := hd.1.1 _ (by omega) (by omega)
        exact v_Model_digest_130 ⟨⟨by omega, by omega⟩, fun hc => by omega, fun _ => ⟨⟨by omega, by omega⟩, fun _ => hz, fun hq => absurd (er.trans hl) hq.2.2⟩⟩
      · have e : dTH D (mxH (dRH D (mxH 1733 (D 0)) (D 0).toNat) (tabS D 3)) (t + 1) = dtH D t (dTH D (mxH (dRH D (mxH 1733 (D 0)) (D 0).toNat) (tabS D 3)) t) 6 := if_neg hl
        have h130 : ∀ (n w : Nat) (x : zSt), w + n = 6 → dgI s D H T x (dtH D t (dTH D (mxH (dRH D (mxH 1733 (D 0)) (D 0).toNat) (tabS D 3)) t) w) → wp S 274 130 [(0, rf 252), (1, iv t), (2, iv w)] [] x Q := by
          intro n
          induction n with
          | zero => intro w x hw hx; rw [show w = 6 by omega] at hx ⊢; exact v_Model_digest_130 ⟨⟨by omega, by omega⟩, fun _ => ihn (t + 1) x (by omega) (by rw [e]; exact hx), fun hc => by omega⟩
          | succ n ihn2 =>
            intro w x hw hx
            have er : zI x 253 (157 + 6 * (t : Int)) = tRc D t := hx.1.1 _ (by omega) (by omega)
            refine v_Model_digest_130 ⟨⟨by omega, by omega⟩, fun hc => by omega, fun _ => ⟨⟨by omega, by omega⟩, fun hq => absurd ⟨by omega, by omega, by rw [er]; exact hl⟩ hq, fun _ => ⟨⟨by omega, by omega⟩, ?_⟩⟩⟩
            rw [hx.2.2.1, hx.1.1 _ (by omega) (by omega)]
            exact ihn2 (w + 1) _ (by omega) (dg_w hx)
        exact h130 6 0 u rfl hd
  have h29 : ∀ (n r : Nat) (u : zSt), (r : Int) + n = D 0 → dgI s D H T u (dRH D (mxH 1733 (D 0)) r) → wp S 274 29 [(0, rf 252), (1, iv r)] [] u Q := by
    intro n
    induction n with
    | zero =>
      intro r u hr hd
      have e0 : zI u 253 0 = D 0 := hd.1.1 0 (by omega) (by omega)
      refine v_Model_digest_29 ⟨⟨by omega, by omega⟩, fun _ => M_tableSet hd.1 (zkI_I (tabS_rng D 3) ?_), fun hc => by omega⟩
      have eh := hd.2.2.1
      rw [← show (D 0).toNat = r by omega] at eh
      rw [eh]
      exact h123 3 0 _ rfl (dg_w hd)
    | succ n ihn =>
      intro r u hr hd
      have e0 : zI u 253 0 = D 0 := hd.1.1 0 (by omega) (by omega)
      refine v_Model_digest_29 ⟨⟨by omega, by omega⟩, fun hc => by omega, fun _ => ?_⟩
      exact M_dig_41 (h0 := dRH D (mxH 1733 (D 0)) r) hA ⟨by omega, by omega⟩ (fun x hx => ihn (r + 1) x (by omega) hx) 6 0 u rfl hd
  refine v_Model_digest_0 (C_lays hA.1 (mRel_252 (k := 3) (v := 0) h ⟨by omega, by omega⟩).1 fun u hfu hlu => zkU_U ?_)
  have hm0 := mRel_252 (k := 3) (v := 0) h ⟨by omega, by omega⟩
  have hd : dgI s D H T u (zL u 252 29) := ⟨mRel_ly hm0 hfu, hlu, rfl, (fI hfu (by unfold cLy; omega)).trans zI_eq, frm_trans (frm_I frm_refl (by unfold modC; omega)) (cLy_mod hfu)⟩
  have hd1 := dg_w (v := 31 * 1733 + zi2l (zI u 253 0)) (dg_w (v := 1733) hd)
  have e0 : zI u 253 0 = D 0 := hd.1.1 0 (by omega) (by omega)
  rw [e0] at hd1 ⊢
  exact h29 (D 0).toNat 0 _ (by omega) hd1
end OPS34

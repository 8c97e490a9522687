/-! ===== records: new ones, what is known of them, undo ===== -/
/-- rows that agree on the records before n -/
theorem agN_shp {D D' : Int → Int} (hD : okD D) {n : Int} (hn : n ≤ D 0) (h : ∀ j, 1 ≤ j → j < 1 + 26 * n → D' j = D j) {r : Int} (h0 : 0 ≤ r) (h1 : r < n) : shp D' r = shp D r ∧ dP D' r = dP D r ∧ dN D' r = dN D r ∧ ∀ f, 0 ≤ f → f < 8 → dNm D' r f = dNm D r f ∧ dTy D' r f = dTy D r f ∧ dCt D' r f = dCt D r f := by
  have hrec : ∀ i, 0 ≤ i → i < n → dP D' i = dP D i ∧ dN D' i = dN D i ∧ ∀ f, 0 ≤ f → f < 8 → dNm D' i f = dNm D i f ∧ dTy D' i f = dTy D i f ∧ dCt D' i f = dCt D i f := fun i q0 q1 =>
    ⟨h _ (by omega) (by omega), h _ (by omega) (by omega), fun f f0 f1 => ⟨h _ (by omega) (by omega), h _ (by omega) (by omega), h _ (by omega) (by omega)⟩⟩
  refine ⟨shp_agree r.toNat (fun i q0 q1 => ?_) (fun i q0 q1 f f0 f1 => ((hD.2 i q0 (by omega)).2.2.1 f f0 f1).2.1) r h0 (by omega), hrec r h0 h1⟩
  have hz := hrec i q0 (by omega)
  have hn8 := (hD.2 i q0 (by omega)).2.1
  exact ⟨hz.1, hz.2.1, fun f f0 f1 => hz.2.2 f f0 (by omega)⟩
theorem agN_okR {D D' : Int → Int} (hD : okD D) {n : Int} (hn : n ≤ D 0) (h : ∀ j, 1 ≤ j → j < 1 + 26 * n → D' j = D j) {r : Int} (h0 : 0 ≤ r) (h1 : r < n) : okR D' r := by
  obtain ⟨o1, o2, o3, o4⟩ := hD.2 r h0 (by omega)
  have hz := agN_shp hD hn h h0 h1
  refine ⟨by rw [hz.2.1]; exact o1, by rw [hz.2.2.1]; exact o2, fun f f0 f1 => ?_, by rw [hz.1]; exact o4⟩
  rw [hz.2.2.1] at f1
  obtain ⟨g1, g2, g3, g4⟩ := o3 f f0 f1
  have hy := hz.2.2.2 f f0 (by omega)
  refine ⟨by rw [hy.1]; exact g1, ?_, by rw [hy.2.2]; exact g3, by rw [hy.2.1, hy.2.2]; exact g4⟩
  rw [hy.2.1]
  rcases g2 with g | g | g
  · exact .inl g
  · exact .inr (.inl g)
  · exact .inr (.inr ⟨g.1, g.2.1, by rw [(agN_shp hD hn h (r := dTy D r f - 100) (by omega) (by omega)).2.2.1]; exact g.2.2⟩)
def newD (D : Int → Int) (p : Int) : Int → Int := upD (upD (upD D (1 + 26 * D 0) p) (1 + 26 * D 0 + 1) 0) 0 (D 0 + 1)
theorem newD_0 {D : Int → Int} {p : Int} : newD D p 0 = D 0 + 1 := upD_eq
theorem newD_at {D : Int → Int} {p : Int} (h : 0 ≤ D 0) : dP (newD D p) (D 0) = p ∧ dN (newD D p) (D 0) = 0 := by
  unfold newD dP dN
  exact ⟨by rw [upD_ne (by omega), upD_ne (by omega), upD_eq], by rw [upD_ne (by omega), upD_eq]⟩
theorem newD_ne {D : Int → Int} {p j : Int} (h : j ≠ 0) (h1 : j ≠ 1 + 26 * D 0) (h2 : j ≠ 1 + 26 * D 0 + 1) : newD D p j = D j := by
  unfold newD
  rw [upD_ne h, upD_ne h2, upD_ne h1]
theorem new_ag {D : Int → Int} {p : Int} : ∀ j, 1 ≤ j → j < 1 + 26 * D 0 → newD D p j = D j := fun j q0 q1 => newD_ne (by omega) (by omega) (by omega)
theorem new_shp {D : Int → Int} {p : Int} (hD : okD D) : shp (newD D p) (D 0) = g00 := by
  have hz := newD_at (p := p) hD.1.1
  rw [shp_eq hD.1.1 fun f q0 q1 => by rw [hz.2] at q1; omega, hz.2]
  rfl
theorem new_okD {D : Int → Int} {p : Int} (hD : okD D) (h6 : D 0 < 6) (hp : zp8 p) : okD (newD D p) := by
  refine ⟨by rw [newD_0]; have := hD.1; omega, fun r q0 q1 => ?_⟩
  rw [newD_0] at q1
  by_cases hc : r < D 0
  · exact agN_okR hD (Int.le_refl _) new_ag q0 hc
  · have hr : r = D 0 := by omega
    subst hr
    have hz := newD_at (p := p) hD.1.1
    refine ⟨by rw [hz.1]; exact hp, by rw [hz.2]; omega, fun f f0 f1 => by rw [hz.2] at f1; omega, ?_⟩
    rw [new_shp hD]
    exact Nat.zero_le _
/-- tables of rows whose records agree where tables need them -/
theorem okA_tabs {D D' : Int → Int} (hA : okA D) (hD' : okD D') (h0 : D 0 ≤ D' 0) (hT : ∀ j, 157 ≤ j → j < 1199 → D' j = D j) (hS : ∀ t, 0 ≤ t → t < 3 → tRc D t ≠ -1 → shp D' (tRc D t) = shp D (tRc D t) ∧ 0 < dN D' (tRc D t)) : okA D' := by
  obtain ⟨h1, h2, h3, h4⟩ := hA
  have hacc : ∀ u, 0 ≤ u → u < 3 → tRc D' u = tRc D u ∧ tNr D' u = tNr D u ∧ tLy D' u = tLy D u ∧ tOr D' u = tOr D u ∧ tBs D' u = tBs D u ∧ tBy D' u = tBy D u := fun u u0 u1 =>
    ⟨hT _ (by omega) (by omega), hT _ (by omega) (by omega), hT _ (by omega) (by omega), hT _ (by omega) (by omega), hT _ (by omega) (by omega), hT _ (by omega) (by omega)⟩
  refine ⟨hD', fun j q0 q1 => by rw [hT _ (by omega) (by omega)]; exact h2 j q0 q1, fun u u0 u1 => ?_, fun u w u0 u1 w0 w1 huw hu hw => ?_⟩
  · obtain ⟨a1, a2, a3, a4, a5, a6⟩ := hacc u u0 u1
    rcases h3 u u0 u1 with hq | hq
    · exact .inl (a1.trans hq)
    · obtain ⟨k1, k2, k3, k4, k5, k6, k7, k8⟩ := hq
      obtain ⟨s1, s2⟩ := hS u u0 u1 (by omega)
      right
      unfold okTab tG
      rw [a1, a2, a3, a4, a5, a6, s1]
      exact ⟨⟨k1.1, by omega⟩, s2, k3, k4, k5, k6, k7, k8⟩
  · obtain ⟨a1, a2, a3, a4, a5, a6⟩ := hacc u u0 u1
    obtain ⟨b1, b2, b3, b4, b5, b6⟩ := hacc w w0 w1
    rw [a5, a6, b5, b6]
    exact h4 u w u0 u1 w0 w1 huw (by rw [← a1]; exact hu) (by rw [← b1]; exact hw)
theorem new_okA {D : Int → Int} {p : Int} (hA : okA D) (h6 : D 0 < 6) (hp : zp8 p) : okA (newD D p) := by
  have hD0 := hA.1.1
  refine okA_tabs hA (new_okD hA.1 h6 hp) (by rw [newD_0]; omega) (fun j q0 q1 => newD_ne (by omega) (by omega) (by omega)) fun t t0 t1 hl => ?_
  have hT := isLv_ok hA ⟨t0, t1, hl⟩
  have hz := agN_shp hA.1 (Int.le_refl _) (new_ag (p := p)) hT.1.1 hT.1.2
  exact ⟨hz.1, by rw [hz.2.2.1]; exact hT.2.1⟩
section OPS6
variable {S : Option (Nat × (Nat → Int32))} {Q : Option Value ⊕ Nat → zSt → Prop} {s : zSt} {D : Int → Int} {H : List (Int → Int)} {T : List Int}
def isPk (p : Int) : Prop := p = 1 ∨ p = 2 ∨ p = 4 ∨ p = 8
/-- a new record of the class: its fields stand, its shape doesn't yet -/
theorem X_newRecord {p : Int} (hA : okA D) (hH : okHs H) (h : cRel s D H T) (hp : rng p) (k1 : ¬ isPk p → Q (rT 0) (zbump s)) (k2 : isPk p → D 0 = 6 → Q (rT 1) (zbump s)) (k3 : isPk p → D 0 < 6 → ∀ u, frm clsC s u → cRel u (newD D p) (pushH H D) T → Q (rI (D 0)) u) : wp S 35 0 [(0, rf 2), (1, iv p)] [] s Q := by
  have hn := h.1.1
  have hD0 := hA.1.1
  refine v_RL_newRecord_0 ⟨hp, fun hc => ⟨fun hc2 => X_save hA hH h fun w hfw hcw => zkU_U ?_, fun hc2 => k2 hc (by omega)⟩, fun hc => k1 hc⟩
  have h6 : D 0 < 6 := by omega
  obtain ⟨⟨a1, a2, a3, a4⟩, b, c, d, e⟩ := hcw
  have e1 : zI (zwI (zwI w (7 + 4 * zI w 3 0) 0 p) (7 + 4 * zI w 3 0) 1 0) 3 0 = D 0 := by rw [a1, zI_ne (by omega), zI_ne (by omega)]; exact a1
  rw [e1, a1]
  have hDn := new_okD (p := p) hA.1 h6 hc
  have hz := newD_at (p := p) hD0.1
  have hf : frm (fun x => x = 7 + 4 * D 0 ∨ x = 3) w (zwI (zwI (zwI w (7 + 4 * D 0) 0 p) (7 + 4 * D 0) 1 0) 3 0 (D 0 + 1)) := frm_I (frm_I (frm_I frm_refl (.inl rfl)) (.inl rfl)) (.inr rfl)
  have hHp := okHs_H (okHs_push hH hA)
  have hnew : cFld (zwI (zwI (zwI w (7 + 4 * D 0) 0 p) (7 + 4 * D 0) 1 0) 3 0 (D 0 + 1)) (7 + 4 * D 0) (dP (newD D p) (D 0)) (dN (newD D p) (D 0)) (dFd (newD D p) (D 0)) := by
    rw [hz.1, hz.2]
    refine ⟨by rw [zI_ne (by omega), zI_nj (by omega), zI_eq], by rw [zI_ne (by omega), zI_eq], fun f hf => by omega⟩
  have hold : ∀ r, 0 ≤ r → r < D 0 → cFld (zwI (zwI (zwI w (7 + 4 * D 0) 0 p) (7 + 4 * D 0) 1 0) 3 0 (D 0 + 1)) (7 + 4 * r) (dP (newD D p) r) (dN (newD D p) r) (dFd (newD D p) r) := fun r q0 q1 => by
    have hy := agN_shp hA.1 (Int.le_refl _) (new_ag (p := p)) q0 q1
    have hn8 := (hA.1.2 r q0 q1).2.1
    have hw := a2 r q0 q1
    rw [show (3 : Int) + 4 + 4 * r = 7 + 4 * r by omega] at hw
    have hw2 := cFld_fr hw hf fun x x0 x1 => by omega
    rw [hy.2.1, hy.2.2.1]
    refine ⟨hw2.1, hw2.2.1, fun f hfl => ?_⟩
    have hx := hy.2.2.2 f (by omega) (by omega)
    unfold dFd
    rw [hx.1, hx.2.1, hx.2.2]
    exact hw2.2.2 f hfl
  have hsho : cSh (zwI (zwI (zwI w (7 + 4 * D 0) 0 p) (7 + 4 * D 0) 1 0) 3 0 (D 0 + 1)) (newD D p) (D 0) := fun r q0 q1 => by
    rw [(agN_shp hA.1 (Int.le_refl _) (new_ag (p := p)) q0 q1).1]
    exact cShp_fr (b r q0 q1) hf fun x x0 x1 => by omega
  refine ⟨⟨by omega, by omega⟩, ⟨by omega, by omega⟩, C_buildShape hDn hD0.1 (by rw [newD_0]; omega) (by rw [zI_eq, newD_0]) hnew hsho fun u hfu hcu => zkU_U ?_⟩
  refine k3 hc h6 u (frm_trans hfw (frm_trans (frm_mono hf fun x hx => by unfold clsC; omega) (frm_mono hfu fun x hx => by unfold clsC; omega))) ⟨⟨?_, fun r q0 q1 => ?_, fun t t0 t1 => ?_, fun j q0 q1 => ?_⟩, fun r q0 q1 => ?_, ⟨?_, ⟨?_, c.2.1.2⟩, fun i hi => ?_⟩, cTx_fr (cTx_fr d hf ⟨by omega, by omega⟩) hfu ⟨by omega, by omega⟩, .inl ?_⟩
  · rw [fI hfu (by omega), zI_eq, newD_0]
  · rw [newD_0] at q1
    rw [show (3 : Int) + 4 + 4 * r = 7 + 4 * r by omega]
    by_cases hrn : r < D 0
    · exact cFld_fr (hold r q0 hrn) hfu fun x x0 x1 => by omega
    · rw [show r = D 0 by omega]; exact cFld_fr hnew hfu fun x x0 x1 => by omega
  · have hq := cTb_fr (cTb_fr (a3 t t0 t1) hf (by omega)) hfu (by omega)
    unfold cTb tRc at hq ⊢
    rw [newD_ne (by omega) (by omega) (by omega)]
    rcases hq with hq | ⟨z1, z2, z3⟩
    · exact .inl hq
    · exact .inr ⟨z1, z2, fun k k0 k1 => by rw [newD_ne (by omega) (by omega) (by omega)]; exact z3 k k0 k1⟩
  · rw [newD_ne (by omega) (by omega) (by omega), fI hfu (by omega), fI hf (by omega)]; exact a4 j q0 q1
  · rw [newD_0] at q1
    by_cases hrn : r < D 0
    · exact cShp_fr (hsho r q0 hrn) hfu fun x x0 x1 => by omega
    · rw [show r = D 0 by omega]; exact hcu
  · rw [fI hfu (by omega), fI hf (by omega)]; exact c.1
  · rw [fI hfu (by omega), fI hf (by omega)]; exact c.2.1.1
  · rw [fI hfu (by omega), fI hf (by omega)]; exact cSt_fr (cSt_fr (c.2.2 i hi) (hHp i hi).1.2 hf fun x x0 x1 => by omega) (hHp i hi).1.2 hfu fun x x0 x1 => by omega
  · rw [fI hfu (by omega), fI hf (by omega)]; exact e
theorem M_creates {p : Int} (hD0 : 0 ≤ D 0 ∧ D 0 < 6) (h : mRel s D H T) (hp : rng p) (k1 : ∀ u, frm (fun x => x = 253) s u → mRel u (newD D p) H T → Q rU u) : wp S 183 0 [(0, rf 252), (1, iv p)] [] s Q := by
  have hn : zI s 253 0 = D 0 := h.1 0 (by omega) (by omega)
  refine v_Model_creates_0 ?_
  rw [hn]
  have e1 : zI (zwI s 253 (1 + 26 * D 0) p) 253 0 = D 0 := by rw [zI_nj (by omega)]; exact hn
  rw [e1]
  have e2 : zI (zwI (zwI s 253 (1 + 26 * D 0) p) 253 (1 + 26 * D 0 + 1) 0) 253 0 = D 0 := by rw [zI_nj (by omega)]; exact e1
  rw [e2]
  refine ⟨⟨by omega, by omega⟩, hp, ⟨by omega, by omega⟩, ⟨by omega, by omega⟩, k1 _ (frm_I (frm_I (frm_I frm_refl rfl) rfl) rfl) (mRel_D h (frm_I (frm_I (frm_I frm_refl rfl) rfl) rfl) fun j q0 q1 => ?_)⟩
  unfold newD upD
  rw [zI_wI, zI_wI, zI_wI]
  by_cases h0 : j = 0
  · rw [if_pos ⟨rfl, h0⟩, if_pos h0]
  · rw [if_neg (fun hq => h0 hq.2), if_neg h0]
    by_cases h1 : j = 1 + 26 * D 0 + 1
    · rw [if_pos ⟨rfl, h1⟩, if_pos h1]
    · rw [if_neg (fun hq => h1 hq.2), if_neg h1]
      by_cases h2 : j = 1 + 26 * D 0
      · rw [if_pos ⟨rfl, h2⟩, if_pos h2]
      · rw [if_neg (fun hq => h2 hq.2), if_neg h2]; exact h.1 j q0 q1
theorem M_newRecord {p : Int} (hA : okA D) (h : mRel s D H T) (hp : rng p) (k1 : ¬ isPk p → ∀ u, frm modC s u → zI u 252 3 = 1 → mRel u D H T → Q (rI 0) u) (k2 : isPk p → D 0 = 6 → ∀ u, frm modC s u → zI u 252 3 = 2 → mRel u D H T → Q (rI 0) u) (k3 : isPk p → D 0 < 6 → ∀ u, frm modC s u → zI u 252 3 = 0 → mRel u (newD D p) (pushH H D) T → Q (rI (D 0)) u) : wp S 180 0 [(0, rf 252), (1, iv p)] [] s Q := by
  have hD0 := hA.1.1
  have hn : zI s 253 0 = D 0 := h.1 0 (by omega) (by omega)
  refine v_Model_newRecord_0 ⟨hp, fun hc => ⟨fun hc2 => ?_, fun hc2 => k2 hc (by omega) _ (frm_I frm_refl (by unfold modC; omega)) zI_eq (mRel_252 h ⟨by omega, by omega⟩)⟩, fun hc => k1 hc _ (frm_I frm_refl (by unfold modC; omega)) zI_eq (mRel_252 h ⟨by omega, by omega⟩)⟩
  refine M_saves (mRel_252 h (k := 3) ⟨by omega, by omega⟩) fun w hfw h3 hmw => zkU_U (M_creates ⟨hD0.1, by omega⟩ hmw hp fun u hfu hmu => zkU_U ?_)
  have e0 : zI u 253 0 - 1 = D 0 := by rw [hmu.1 0 (by omega) (by omega), newD_0]; omega
  rw [e0]
  exact k3 hc (by omega) u (frm_trans (frm_I frm_refl (by unfold modC; omega)) (frm_trans hfw (frm_mono hfu fun x hx => by unfold modC; omega))) (by rw [fI hfu (by omega), h3, zI_eq]) hmu
/-! undo -/
theorem X_undo_59 (hA : okA D) (n : Nat) : ∀ (r : Nat) (s : zSt), (r : Int) + n = D 0 → cSt s 3 D → cSh s D r → (∀ u, frm (fun x => 62 ≤ x ∧ x ≤ 127) s u → cSh u D (D 0) → Q (rI (zI s 2 4)) u) → wp S 175 59 [(0, rf 2), (1, iv r)] [] s Q := by
  have hD0 := hA.1.1
  induction n with
  | zero =>
    intro r s hr hs hsh k1
    have hn := hs.1
    refine v_RL_undo_59 ⟨⟨by omega, by omega⟩, fun _ => k1 s frm_refl (by rw [show D 0 = r by omega]; exact hsh), fun hc => by omega⟩
  | succ n ihn =>
    intro r s hr hs hsh k1
    have hn := hs.1
    have hfl := hs.2.1 r (by omega) (by omega)
    rw [show (3 : Int) + 4 + 4 * (r : Int) = 7 + 4 * r by omega] at hfl
    refine v_RL_undo_59 ⟨⟨by omega, by omega⟩, fun hc => by omega, fun _ => C_buildShape hA.1 (by omega) (by omega) hn hfl hsh fun w hfw hcw => zkU_U ?_⟩
    refine ihn (r + 1) w (by omega) (cSt_fr hs hD0.2 hfw fun x x0 x1 => by omega) (fun i q0 q1 => ?_) fun u hfu hcu => ?_
    · by_cases hir : i = r
      · subst hir; exact hcw
      · exact cShp_fr (hsh i q0 (by omega)) hfw fun x x0 x1 => by omega
    · rw [fI hfw (by omega)]
      exact k1 u (frm_trans (frm_mono hfw fun x hx => ⟨by omega, by omega⟩) hfu) hcu
theorem X_undo (hA : okA D) (hH : okHs H) (h : cRel s D H T) (k1 : H.length = 0 → Q (rT 1) (zbump s)) (k2 : 0 < H.length → ∀ u, frm clsC s u → cRel u (H.getD (H.length - 1) d0) H.dropLast T → Q (rI ((H.length : Int) - 1)) u) : wp S 175 0 [(0, rf 2)] [] s Q := by
  obtain ⟨a, b, ⟨r1, r2, r3⟩, d, e⟩ := h
  refine v_RL_undo_0 ⟨fun hc => ?_, fun hc => k1 (by omega)⟩
  have hl : 0 < H.length := by omega
  rw [r2.1]
  have hlast := r3 (H.length - 1) (by omega)
  have hAl := hH.2 (H.length - 1) (by omega)
  have hidx : zI s 2 3 + (((H.length - 1 : Nat)) : Int) = zI s 2 3 + ((H.length : Int) - 1) := by omega
  rw [hidx] at hlast
  have h4 := r2.2
  have hf : frm (fun x => x = 2) s (zwI (zwI s 2 4 ((H.length : Int) - 1)) 2 7 (-1)) := frm_I (frm_I frm_refl rfl) rfl
  refine ⟨⟨by omega, by omega⟩, ⟨by omega, by omega⟩, by omega, ⟨by omega, by omega⟩, C_Scopy lf_3 (isO_sv ⟨by omega, by omega⟩) (by omega) (okD_Ns hAl.1) (cSt_fr hlast hAl.1.1.2 hf fun x x0 x1 => by omega) fun w hfw hcw => zkU_U ?_⟩
  refine X_undo_59 hAl ((H.getD (H.length - 1) d0) 0).toNat 0 w (by have := hAl.1.1; omega) hcw (fun i q0 q1 => by omega) fun u hfu hcu => ?_
  have e4 : zI w 2 4 = (H.length : Int) - 1 := by rw [fI hfw (by omega), zI_nj (by omega), zI_eq]
  rw [e4]
  have hdl : H.dropLast.length = H.length - 1 := List.length_dropLast
  have hgd : ∀ i : Nat, i < H.length - 1 → H.dropLast.getD i d0 = H.getD i d0 := fun i hi => by
    rw [List.getD_eq_getElem?_getD, List.getD_eq_getElem?_getD, List.getElem?_dropLast, if_pos hi]
  have hall : ∀ {x : Int}, ¬ (x = 2 ∨ (3 ≤ x ∧ x ≤ 33) ∨ (62 ≤ x ∧ x ≤ 127)) → ∀ j, zI u x j = zI s x j := fun {x} hx j => by
    rw [fI hfu (by omega), fI hfw (by omega), fI hf (by omega)]
  have h23 : zI u 2 3 = zI s 2 3 := by rw [fI hfu (by omega), fI hfw (by omega), zI_nj (by omega), zI_nj (by omega)]
  have h24 : zI u 2 4 = (H.length : Int) - 1 := by rw [fI hfu (by omega), e4]
  have h27 : zI u 2 7 = -1 := by rw [fI hfu (by omega), fI hfw (by omega), zI_eq]
  refine k2 hl u (frm_trans (frm_mono hf fun x hx => by unfold clsC; omega) (frm_trans (frm_mono hfw fun x hx => by unfold clsC; omega) (frm_mono hfu fun x hx => by unfold clsC; omega))) ⟨cSt_fr hcw hAl.1.1.2 hfu fun x x0 x1 => by omega, hcu, ⟨by rw [h23]; exact r1, ⟨by rw [h24, hdl]; omega, by omega⟩, fun i hi => ?_⟩, ⟨(hall (by omega) 0).trans d.1, fun i hi => (hall (by omega) i).trans (d.2 i hi)⟩, .inl h27⟩
  rw [hdl] at hi
  rw [h23, hgd i hi]
  have hAi := (hH.2 i (by omega)).1.1.2
  exact cSt_fr (cSt_fr (cSt_fr (r3 i (by omega)) hAi hf fun x x0 x1 => by omega) hAi hfw fun x x0 x1 => by omega) hAi hfu fun x x0 x1 => by omega
theorem M_undo (h : mRel s D H T) (k1 : H.length = 0 → ∀ u, frm modC s u → zI u 252 3 = 1 → mRel u D H T → Q (rI 0) u) (k2 : 0 < H.length → ∀ u, frm modC s u → zI u 252 3 = 0 → mRel u (H.getD (H.length - 1) d0) H.dropLast T → Q (rI ((H.length : Int) - 1)) u) : wp S 178 0 [(0, rf 252)] [] s Q := by
  obtain ⟨a, ⟨⟨p1, p2⟩, p3⟩, c⟩ := h
  refine v_Model_undo_0 ⟨fun hc => ?_, fun hc => k1 (by omega) _ (frm_I frm_refl (by unfold modC; omega)) zI_eq (mRel_252 ⟨a, ⟨⟨p1, p2⟩, p3⟩, c⟩ ⟨by omega, by omega⟩)⟩
  have hl : 0 < H.length := by omega
  rw [p1]
  refine ⟨⟨by omega, by omega⟩, C_mundo_33 (m := (H.length : Int) - 1) ⟨by omega, by omega⟩ 1199 0 _ (H.getD (H.length - 1) d0) (by decide) zI_eq (fun j q0 q1 => ?_) (fun j q0 q1 => by omega) fun u hfu hmu => ?_⟩
  · rw [zI_ne (by omega), zI_ne (by omega)]
    have hq := p3 (H.length - 1) (by omega) j q0 q1
    rw [show (((H.length - 1 : Nat)) : Int) = (H.length : Int) - 1 by omega] at hq
    exact hq
  · have hdl : H.dropLast.length = H.length - 1 := List.length_dropLast
    have hgd : ∀ i : Nat, i < H.length - 1 → H.dropLast.getD i d0 = H.getD i d0 := fun i hi => by
      rw [List.getD_eq_getElem?_getD, List.getD_eq_getElem?_getD, List.getElem?_dropLast, if_pos hi]
    refine k2 hl u (frm_trans (frm_I (frm_I frm_refl (by unfold modC; omega)) (by unfold modC; omega)) (frm_mono hfu fun x hx => by unfold modC; omega)) (by rw [fI hfu (by omega), zI_nj (by omega), zI_eq]) ⟨hmu, ⟨⟨by rw [fI hfu (by omega), zI_eq, hdl]; omega, by omega⟩, fun i hi j q0 q1 => ?_⟩, by rw [fI hfu (by omega), zI_nj (by omega), zI_nj (by omega)]; exact c.1, fun i hi => by rw [fI hfu (by omega), zI_ne (by omega), zI_ne (by omega)]; exact c.2 i hi⟩
    rw [hdl] at hi
    rw [hgd i hi, fI hfu (by omega), zI_ne (by omega), zI_ne (by omega)]
    exact p3 i (by omega) j q0 q1
theorem undo_ok (hH : okHs H) (hl : 0 < H.length) : okA (H.getD (H.length - 1) d0) ∧ okHs H.dropLast := by
  have hdl : H.dropLast.length = H.length - 1 := List.length_dropLast
  refine ⟨hH.2 _ (by omega), by have := hH.1; omega, fun i hi => ?_⟩
  rw [hdl] at hi
  rw [List.getD_eq_getElem?_getD, List.getElem?_dropLast, if_pos hi, ← List.getD_eq_getElem?_getD]
  exact hH.2 i (by omega)
end OPS6

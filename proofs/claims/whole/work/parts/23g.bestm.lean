/-! ===== the reference goes through all orders ===== -/
theorem finO_congr {D : Int → Int} {r : Int} {o p : Nat → Int} (hF : okFs D r) (ho : isPm (dN D r).toNat o) (hp : isPm (dN D r).toNat p) (h : ∀ i, i < (dN D r).toNat → o i = p i) : finO D r o = finO D r p := by
  rw [finO_st hF ho, finO_st hF hp, stP_congr _ h]
theorem finO_b {D : Int → Int} {r : Int} {o : Nat → Int} (hA : okA D) (hr : hasRc D r) (h : isPm (dN D r).toNat o) : 0 ≤ finO D r o ∧ finO D r o ≤ 20000 := by
  have hF := okD_Fs hA.1 hr.1 hr.2
  have hW := (okG_shp hA.1 hr.1 hr.2).1.2.1
  have hn := hF.2.2.1
  rw [finO_st hF h]
  have hb := stP_b (P := bP D r) (o := o) (bP_ok hF) (dN D r).toNat h.1
  have hu := zup_b (e := (stP (bP D r) o (dN D r).toNat).1) hW
  have h8 := zp8_b hW
  omega
theorem ltx_irr {n : Nat} {o : Nat → Int} : ¬ ltx n o o := fun ⟨k, _, _, h⟩ => by omega
theorem ltx_congr {n : Nat} {a b c : Nat → Int} (h2 : ltx n a b) (h : ∀ i, i < n → b i = c i) : ltx n a c := by
  obtain ⟨m, m1, m2, m3⟩ := h2
  exact ⟨m, m1, fun j hj => (m2 j hj).trans (h j (by omega)), by rw [← h m m1]; exact m3⟩
/-- the best of all orders up to one -/
def bsI (D : Int → Int) (r x : Int) (b o : Nat → Int) : Prop := isPm (dN D r).toNat b ∧ finO D r b = x ∧ (ltx (dN D r).toNat b o ∨ ∀ i, i < (dN D r).toNat → b i = o i) ∧ ∀ p, isPm (dN D r).toNat p → (ltx (dN D r).toNat p o ∨ ∀ i, i < (dN D r).toNat → p i = o i) → x ≤ finO D r p ∧ (finO D r p = x → ¬ ltx (dN D r).toNat p b)
/-- the best of all orders before one -/
def bfI (D : Int → Int) (r x : Int) (b o : Nat → Int) : Prop := (x = -1 ∧ ∀ p, isPm (dN D r).toNat p → ¬ ltx (dN D r).toNat p o) ∨ (0 ≤ x ∧ isPm (dN D r).toNat b ∧ finO D r b = x ∧ ltx (dN D r).toNat b o ∧ ∀ p, isPm (dN D r).toNat p → ltx (dN D r).toNat p o → x ≤ finO D r p ∧ (finO D r p = x → ¬ ltx (dN D r).toNat p b))
theorem bs_new {D : Int → Int} {r x : Int} {b o : Nat → Int} (hF : okFs D r) (ho : isPm (dN D r).toNat o) (h : bfI D r x b o) (hx : x = -1 ∨ finO D r o < x) : bsI D r (finO D r o) o o := by
  refine ⟨ho, rfl, .inr fun i _ => rfl, fun p hp hpo => ?_⟩
  rcases hpo with hpo | hpo
  · rcases h with ⟨h1, h2⟩ | ⟨h0, h1, h2, h3, h4⟩
    · exact absurd hpo (h2 p hp)
    · have := h4 p hp hpo
      have h5 : finO D r o < x := by rcases hx with hx | hx <;> omega
      exact ⟨by omega, fun hc => by omega⟩
  · have := finO_congr hF hp ho hpo
    exact ⟨by omega, fun _ hl => ltx_irr (ltx_congr hl fun i hi => (hpo i hi).symm)⟩
theorem bs_old {D : Int → Int} {r x : Int} {b o : Nat → Int} (hF : okFs D r) (ho : isPm (dN D r).toNat o) (h : bfI D r x b o) (hx : x ≠ -1) (hle : x ≤ finO D r o) : bsI D r x b o := by
  rcases h with ⟨h1, h2⟩ | ⟨h0, h1, h2, h3, h4⟩
  · exact absurd h1 hx
  · refine ⟨h1, h2, .inl h3, fun p hp hpo => ?_⟩
    rcases hpo with hpo | hpo
    · exact h4 p hp hpo
    · have := finO_congr hF hp ho hpo
      refine ⟨by omega, fun _ hl => ltx_irr (ltx_trans h3 (ltx_eq (fun i hi => (hpo i hi).symm) hl))⟩
theorem bs_next {D : Int → Int} {r x : Int} {b o o' : Nat → Int} (hx : 0 ≤ x) (h : bsI D r x b o) (hl : ltx (dN D r).toNat o o') (hn : ∀ p, isPm (dN D r).toNat p → ltx (dN D r).toNat p o' → ltx (dN D r).toNat p o ∨ ∀ i, i < (dN D r).toNat → p i = o i) : bfI D r x b o' := by
  obtain ⟨h1, h2, h3, h4⟩ := h
  refine .inr ⟨hx, h1, h2, ?_, fun p hp hpo => h4 p hp (hn p hp hpo)⟩
  rcases h3 with h3 | h3
  · exact ltx_trans h3 hl
  · exact ltx_eq h3 hl
section BESM
variable {S : Option (Nat × (Nat → Int32))} {Q : Option Value ⊕ Nat → zSt → Prop} {D : Int → Int} {H : List (Int → Int)} {T : List Int}
theorem M_lb_40 {r x : Int} (n : Nat) : ∀ (i : Nat) (s : zSt), i + n = 8 → (∀ j : Nat, j < i → zI s 268 j = zI s 265 j) → (∀ u, frm (fun a => a = 268) s u → (∀ j : Nat, j < 8 → zI u 268 j = zI s 265 j) → wp S 216 40 [(0, rf 252), (1, iv r), (2, iv x), (5, iv 8)] [] u Q) →
    wp S 216 40 [(0, rf 252), (1, iv r), (2, iv x), (5, iv i)] [] s Q := by
  induction n with
  | zero =>
    intro i s hi hj hQ
    have hi8 : i = 8 := by omega
    subst hi8
    exact hQ s frm_refl hj
  | succ n ihn =>
    intro i s hi hj hQ
    refine v_Model_laysBest_40 ⟨⟨by omega, by omega⟩, fun hc => by omega, fun _ => ⟨⟨by omega, by omega⟩, ?_⟩⟩
    have hfr : frm (fun a => a = 268) s (zwI s 268 i (zI s 265 i)) := frm_I frm_refl rfl
    refine ihn (i + 1) _ (by omega) (fun j hj2 => ?_) fun u hfu hu => hQ u (frm_trans hfr hfu) fun j hj2 => ?_
    · rw [zI_ne (by omega : (265 : Int) ≠ 268)]
      by_cases hji : j = i
      · subst hji; rw [zI_eq]
      · rw [zI_nj (by omega)]; exact hj j (by omega)
    · rw [hu j hj2, zI_ne (by omega)]
theorem M_lb_12 {r : Int} (hA : okA D) (hr : hasRc D r) {s0 : zSt} (k1 : ∀ (u : zSt) (x : Int) (b : Nat → Int), frm modC s0 u → zI u 252 3 = zI s0 252 3 → mRel u D H T → isBest D r x b → (∀ i : Nat, i < (dN D r).toNat → zI u 268 i = b i) → Q (rI x) u) (N : Nat) : ∀ (s : zSt) (x : Int) (o b : Nat → Int), 16777216 - vlN o (dN D r).toNat ≤ N → mRel s D H T → mLay s D (D 0) → zI s 252 3 = zI s0 252 3 → frm modC s0 s → isPm (dN D r).toNat o → (∀ i : Nat, i < (dN D r).toNat → zI s 265 i = o i) → bfI D r x b o → (x ≠ -1 → ∀ i : Nat, i < (dN D r).toNat → zI s 268 i = b i) →
    wp S 216 12 [(0, rf 252), (1, iv r), (2, iv x), (3, iv 1)] [] s Q := by
  have hD0 := hA.1.1
  have hr0 := hr.1
  have hr1 := hr.2
  have hF := okD_Fs hA.1 hr.1 hr.2
  have hn8 := hF.2.2.1
  have hW := (okG_shp hA.1 hr.1 hr.2).1.2.1
  induction N with
  | zero =>
    intro s x o b hN h hly h3 hfs ho hc hI hb
    have := vlN_b (by omega) ho
    omega
  | succ N ihN =>
    intro s x o b hN h hly h3 hfs ho hc hI hb
    have hfb := finO_b hA hr ho
    have hxr : rng x := by
      rcases hI with ⟨hx, _⟩ | ⟨hx, hb1, hb2, _⟩
      · exact ⟨by omega, by omega⟩
      · have := finO_b hA hr hb1; exact ⟨by omega, by omega⟩
    refine v_Model_laysBest_12 ⟨⟨by omega, by omega⟩, fun hcc => by omega, fun _ => ?_⟩
    refine C_places hF (o := o) (fun k hk => by have := ho.1 k (by omega); omega) h.1 (fun i q0 q1 => ⟨(hly i q0 (by omega)).1, (hly i q0 (by omega)).2.1⟩) (fun j hj => hc j (by omega)) fun t hft h258 h258r _ => ?_
    have hfin : zup (plo (shp D) (dP D r) (fTc D r) o (dN D r).toNat).1 (plo (shp D) (dP D r) (fTc D r) o (dN D r).toNat).2.2 = finO D r o := rfl
    rw [hfin]
    have hmt : mRel t D H T := mRel_fr h hft fun a a0 a1 => by omega
    have hlt : mLay t D (D 0) := by
      intro i q0 q1
      obtain ⟨w1, w2, w3, w4⟩ := hly i q0 q1
      refine ⟨(fI hft (by omega)).trans w1, ?_, (fI hft (by omega)).trans w3, fun k hk => ?_⟩
      · by_cases hir : i = r
        · subst hir; rw [h258r, plo_W hF ho]
        · rw [h258 i hir]; exact w2
      · obtain ⟨x1, x2, x3, x4, x5, x6⟩ := w4 k hk
        exact ⟨(fI hft (by omega)).trans x1, (fI hft (by omega)).trans x2, (fI hft (by omega)).trans x3, (fI hft (by omega)).trans x4, (fI hft (by omega)).trans x5, fun q hq => (fI hft (by omega)).trans (x6 q hq)⟩
    have h3t : zI t 252 3 = zI s0 252 3 := (fI hft (by omega)).trans h3
    have hfst : frm modC s0 t := frm_trans hfs (frm_mono hft fun a ha => by unfold modC; omega)
    have hct : ∀ i : Nat, i < (dN D r).toNat → zI t 265 i = o i := fun i hi => (fI hft (by omega)).trans (hc i hi)
    have hbt : x ≠ -1 → ∀ i : Nat, i < (dN D r).toNat → zI t 268 i = b i := fun hx i hi => (fI hft (by omega)).trans (hb hx i hi)
    have hturn : ∀ (v : zSt) (y : Int) (b' : Nat → Int), frm (fun a => a = 268) t v → 0 ≤ y → y ≤ 20000 → bsI D r y b' o → (∀ i : Nat, i < (dN D r).toNat → zI v 268 i = b' i) → wp S 217 0 [(0, rf 252), (1, iv (zI v 253 ((1 + (26 * r)) + 1)))] [] v (fun o11 s11 => zkI (fun y11 => wp S 216 12 [(0, rf 252), (1, iv r), (2, iv y), (3, iv y11)] [] s11 Q) (fun e11 => False) o11) := by
      intro v y b' hfv hy0 hy1 hbs hbv
      have en : zI v 253 (1 + 26 * r + 1) = (((dN D r).toNat : Nat) : Int) := by
        rw [fI hfv (by omega), hmt.1 _ (by omega) (by omega), Int.toNat_of_nonneg hn8.1]; rfl
      rw [en]
      have hmv : mRel v D H T := mRel_fr hmt hfv fun a a0 a1 => by omega
      have h3v : zI v 252 3 = zI s0 252 3 := (fI hfv (by omega)).trans h3t
      have hfsv : frm modC s0 v := frm_trans hfst (frm_mono hfv fun a ha => by unfold modC; omega)
      refine M_turns (o := o) (by omega) ho (fun i hi => (fI hfv (by omega)).trans (hct i hi)) (fun hall => zkI_I ⟨by omega, by omega⟩ ?_) fun w o' hfw hcw ho' hl hnx => zkI_I ⟨by omega, by omega⟩ ?_
      · refine v_Model_laysBest_12 ⟨⟨by omega, by omega⟩, fun _ => ?_, fun hcc => absurd rfl hcc⟩
        exact k1 v y b' hfsv h3v hmv ⟨hbs.1, hbs.2.1, fun p hp => hbs.2.2.2 p hp (hall p hp)⟩ hbv
      · have hvl := vlN_lt (by omega) ho ho' hl
        exact ihN w y o' b' (by omega) (mRel_fr hmv hfw fun a a0 a1 => by omega) (mLay_fr (mLay_fr hlt hfv fun a a0 a1 => by omega) hfw fun a a0 a1 => by omega) ((fI hfw (by omega)).trans h3v) (frm_trans hfsv (frm_mono hfw fun a ha => by unfold modC; omega)) ho' hcw (bs_next hy0 hbs hl hnx) fun _ i hi => (fI hfw (by omega)).trans (hbv i hi)
    have hcopy : (x = -1 ∨ finO D r o < x) → wp S 216 40 [(0, rf 252), (1, iv r), (2, iv (finO D r o)), (5, iv 0)] [] t Q := fun hx =>
      M_lb_40 8 0 t (by omega) (fun j hj => absurd hj (Nat.not_lt_zero j)) fun v hfv hv => v_Model_laysBest_40 ⟨⟨by omega, by omega⟩, fun _ => ⟨⟨by omega, by omega⟩, hturn v _ o hfv hfb.1 hfb.2 (bs_new hF ho hI hx) fun i hi => by rw [hv i (by omega)]; exact hct i hi⟩, fun hcc => by omega⟩
    refine zkI_I ⟨by omega, by omega⟩ ⟨hxr, fun hx => hcopy (.inl hx), fun hx => ⟨fun hle => ⟨⟨by omega, by omega⟩, ?_⟩, fun hlt2 => hcopy (.inr hlt2)⟩⟩
    have hx0 : 0 ≤ x ∧ x ≤ 20000 := by
      rcases hI with ⟨hx1, _⟩ | ⟨hx1, hb1, hb2, _⟩
      · exact absurd hx1 hx
      · have := finO_b hA hr hb1; omega
    exact hturn t x b frm_refl hx0.1 hx0.2 (bs_old hF ho hI hx hle) (hbt hx)
theorem M_laysBest {r : Int} {s : zSt} (hA : okA D) (h : mRel s D H T) (hr : hasRc D r) (k1 : ∀ (u : zSt) (x : Int) (b : Nat → Int), frm modC s u → zI u 252 3 = zI s 252 3 → mRel u D H T → isBest D r x b → (∀ i : Nat, i < (dN D r).toNat → zI u 268 i = b i) → Q (rI x) u) : wp S 216 0 [(0, rf 252), (1, iv r)] [] s Q := by
  have hn8 := (hA.1.2 r hr.1 hr.2).2.1
  refine v_Model_laysBest_0 (C_lays hA.1 h.1 fun t hft hlt => zkU_U (C_inOrder fun u hfu hu => zkU_U ?_))
  have hid : isPm (dN D r).toNat (fun k => (k : Int)) := ⟨fun k hk => ⟨Int.natCast_nonneg k, by show (k : Int) < _; omega⟩, fun j k _ _ h => by have h : (j : Int) = k := h; omega⟩
  have hv := vlN_b (by omega) hid
  refine M_lb_12 (s0 := s) hA hr k1 16777216 u (-1) (fun k => (k : Int)) (fun k => (k : Int)) (by omega) (mRel_fr (mRel_ly h hft) hfu fun a a0 a1 => by omega) (mLay_fr hlt hfu fun a a0 a1 => by omega) (by rw [fI hfu (by omega), fI hft (by unfold cLy; omega)]) (frm_trans (cLy_mod hft) (frm_mono hfu fun a ha => by unfold modC; omega)) hid (fun i hi => hu i (by omega) (by omega)) (.inl ⟨rfl, fun p hp ⟨k, k1', k2, k3⟩ => ?_⟩) fun hcc => absurd rfl hcc
  have k3 : p k < (k : Int) := k3
  have h1 := hp.1 k k1'
  have := hp.2 (p k).toNat k (by omega) k1' (by
    rw [k2 (p k).toNat (by omega)]
    show (((p k).toNat : Nat) : Int) = p k
    omega)
  omega
theorem M_bestSize {r : Int} {s : zSt} (hA : okA D) (h : mRel s D H T) (hr : rng r) (k1 : ¬ hasRc D r → ∀ u, frm modC s u → zI u 252 3 = 1 → mRel u D H T → Q (rI 0) u) (k2 : hasRc D r → ∀ (u : zSt) (v : Int) (o : Nat → Int), rng v → frm modC s u → zI u 252 3 = 0 → mRel u D H T → isBest D r v o → Q (rI v) u) : wp S 215 0 [(0, rf 252), (1, iv r)] [] s Q := by
  have hD0 := hA.1.1
  have e0 : zI s 253 0 = D 0 := h.1 0 (by omega) (by omega)
  refine v_Model_bestSize_0 ?_
  rw [e0]
  refine ⟨hr, ⟨by omega, by omega⟩, fun hc => ?_, fun hc => ?_⟩
  · have hh : hasRc D r := ⟨hc.1, by omega⟩
    rw [bi_F (fun hn => hn hc)]
    exact M_laysBest hA (mRel_252 h ⟨by omega, by omega⟩) hh fun u x b hfu h3 hmu hbu _ => zkI_I (best_rng hA hh hbu) (k2 hh u x b (best_rng hA hh hbu) (frm_trans (frm_I frm_refl (by unfold modC; omega)) hfu) (by rw [h3, zI_eq]) hmu hbu)
  · rw [bi_T hc]
    exact k1 (fun hh => hc ⟨hh.1, by have := hh.2; omega⟩) _ (frm_I frm_refl (by unfold modC; omega)) zI_eq (mRel_252 h ⟨by omega, by omega⟩)
theorem M_bestOrder {r p : Int} {s : zSt} (hA : okA D) (h : mRel s D H T) (hr : rng r) (hp : rng p) (k1 : ¬ hasFd D r p → ∀ u, frm modC s u → zI u 252 3 = 1 → mRel u D H T → Q (rI 0) u) (k2 : hasFd D r p → ∀ (u : zSt) (v : Int) (o : Nat → Int), rng (o p.toNat) → frm modC s u → zI u 252 3 = 0 → mRel u D H T → isBest D r v o → Q (rI (o p.toNat)) u) : wp S 219 0 [(0, rf 252), (1, iv r), (2, iv p)] [] s Q := by
  have hD0 := hA.1.1
  have e0 : zI s 253 0 = D 0 := h.1 0 (by omega) (by omega)
  refine v_Model_bestOrder_0 ?_
  rw [e0]
  refine ⟨hr, ⟨by omega, by omega⟩, fun hc => k1 (fun hh => hc ⟨hh.1.1, by have := hh.1.2; omega⟩) _ (frm_I frm_refl (by unfold modC; omega)) zI_eq (mRel_252 h ⟨by omega, by omega⟩), fun hc => ?_⟩
  have hh : hasRc D r := ⟨hc.1, by omega⟩
  have hn8 := (hA.1.2 r hh.1 hh.2).2.1
  have en : zI s 253 (1 + 26 * r + 1) = dN D r := h.1 _ (by omega) (by omega)
  rw [en]
  refine ⟨⟨by omega, by omega⟩, hp, ⟨by omega, by omega⟩, fun hn => k1 (fun hf => hn ⟨hf.2.1, by have := hf.2.2; omega⟩) _ (frm_I frm_refl (by unfold modC; omega)) zI_eq (mRel_252 h ⟨by omega, by omega⟩), fun hy => ?_⟩
  refine M_laysBest hA (mRel_252 h ⟨by omega, by omega⟩) hh fun u x b hfu h3 hmu hbu hcu => zkI_I (best_rng hA hh hbu) ⟨⟨by omega, by omega⟩, ?_⟩
  have hcp := hcu p.toNat (by omega)
  rw [Int.toNat_of_nonneg hy.1] at hcp
  rw [hcp]
  have hob := hbu.1.1 p.toNat (by omega)
  exact k2 ⟨hh, hy.1, by omega⟩ u x b ⟨by omega, by omega⟩ (frm_trans (frm_I frm_refl (by unfold modC; omega)) hfu) (by rw [h3, zI_eq]) hmu hbu
end BESM

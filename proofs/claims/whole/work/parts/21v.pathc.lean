/-! ===== pathByte and findLeaf ===== -/
def thL (D : Int → Int) (r k : Int) : List Int := pbs (lP ((gV (shp D r)).getD k.toNat dl))
def fstT (V : List yLf) (T : List Int) : Nat → Nat → Int
  | 0, _ => -1
  | n + 1, i => if pbs (lP (V.getD i dl)) = T then i else fstT V T n (i + 1)
theorem eq_sg {P T : List Int} (hP : ∀ x ∈ P, 0 ≤ x) (hT : ∀ x ∈ T, 0 ≤ x) (h : ∀ i : Nat, i ≤ T.length → sgL P i = sgL T i) : P = T := by
  have hs : ∀ (L : List Int) (i : Nat), i < L.length → sgL L i = L.getD i 0 := fun L i hi => by
    unfold sgL; rw [if_pos ⟨by omega, by omega⟩, Int.toNat_natCast]
  have hn : ∀ (L : List Int) (i : Nat), L.length ≤ i → sgL L i = -1 := fun L i hi => by
    unfold sgL; rw [if_neg (by omega)]
  have hlen : P.length = T.length := by
    rcases Nat.lt_trichotomy P.length T.length with q | q | q
    · have h1 := h P.length (by omega)
      rw [hn P P.length (Nat.le_refl _), hs T P.length q] at h1
      have := hT _ (getD_mem (d := 0) q)
      omega
    · exact q
    · have h1 := h T.length (Nat.le_refl _)
      rw [hn T T.length (Nat.le_refl _), hs P T.length q] at h1
      have := hP _ (getD_mem (d := 0) q)
      omega
  refine List.ext_getElem hlen fun j j1 j2 => ?_
  have h1 := h j (by omega)
  rw [hs P j j1, hs T j j2, List.getD_eq_getElem?_getD, List.getD_eq_getElem?_getD, List.getElem?_eq_getElem j1, List.getElem?_eq_getElem j2] at h1
  exact h1
section OPS36
variable {S : Option (Nat × (Nat → Int32))} {Q : Option Value ⊕ Nat → zSt → Prop} {s : zSt} {D : Int → Int} {H : List (Int → Int)} {T : List Int}
theorem X_pathByte {r k i : Int} (hA : okA D) (h : cRel s D H T) (hr : rng r) (hk : rng k) (hi : rng i) (k1 : ¬ hasLr D r k → Q (rT 2) (zbump s)) (k2 : hasLr D r k → Q (rI (sgL (thL D r k) i)) s) : wp S 67 0 [(0, rf 2), (1, iv r), (2, iv k), (3, iv i)] [] s Q := by
  have hD0 := hA.1.1
  have e0 : zI s 3 0 = D 0 := h.1.1
  have hcl : ∀ r, 0 ≤ r → r < D 0 → cLv s (67 + 11 * r) (gV (shp D r)) := fun r r0 r1 => by
    have hz := (h.2.1 r r0 r1).2.2.2.2.2
    rw [show (62 : Int) + 11 * r + 5 = 67 + 11 * r by omega] at hz
    exact hz
  refine v_RL_pathByte_0 ⟨hr, hk, fun q0 q1 => by omega, fun hc => ?_, fun hc => k1 fun hh => hc ⟨⟨hh.1.1, by have := hh.1.2; omega⟩, hh.2.1, by rw [(hcl r hh.1.1 hh.1.2).1]; exact hh.2.2⟩⟩
  have hr0 := hc.1.1
  have hr1 : r < D 0 := by omega
  have hl := hcl r hr0 hr1
  have h40 := (okG_shp hA.1 hr0 hr1).2.1
  have hc2 := hc.2.2
  rw [hl.1] at hc2
  have hh : hasLr D r k := ⟨⟨hr0, hr1⟩, hc.2.1, hc2⟩
  have hpc := (hl.2 k.toNat (by have := hc.2.1; omega)).2.2.2.2
  rw [Int.toNat_of_nonneg hc.2.1, show (67 : Int) + 11 * r + 5 = 72 + 11 * r by omega] at hpc
  have hlk := leaf_okP hA.1 hr0 hr1 (k := k.toNat) (by have := hc.2.1; omega)
  refine ⟨⟨hr0, by omega⟩, ⟨hc.2.1, by omega⟩, ?_⟩
  rw [hpc]
  exact X_signOfPath hlk.1 hlk.2.1 hi (zkI_I (sgL_rng hlk.1 hlk.2.1) (k2 hh))
theorem M_pathByte {r k i : Int} (hA : okA D) (h : mRel s D H T) (hr : rng r) (hk : rng k) (hi : rng i) (k1 : ¬ hasLr D r k → ∀ u, frm modC s u → zI u 252 3 = 1 → mRel u D H T → Q (rI 0) u) (k2 : hasLr D r k → ∀ u, frm modC s u → zI u 252 3 = 0 → mRel u D H T → Q (rI (sgL (thL D r k) i)) u) : wp S 212 0 [(0, rf 252), (1, iv r), (2, iv k), (3, iv i)] [] s Q := by
  have hD0 := hA.1.1
  refine v_Model_pathByte_0 (C_lays hA.1 h.1 fun u hfu hlu => zkU_U ?_)
  have hmu := mRel_ly h hfu
  have e0 : zI u 253 0 = D 0 := hmu.1 0 (by omega) (by omega)
  have hbad : ¬ hasLr D r k → Q (rI 0) (zwI u 252 3 1) := fun hn => k1 hn _ (frm_I (cLy_mod hfu) (by unfold modC; omega)) zI_eq (mRel_252 hmu ⟨by omega, by omega⟩)
  refine ⟨hr, ⟨by omega, by omega⟩, fun hc => hbad fun hh => hc ⟨hh.1.1, by have := hh.1.2; omega⟩, fun hc => ⟨⟨hc.1, by omega⟩, hk, ?_⟩⟩
  have hr0 := hc.1
  have hr1 : r < D 0 := by omega
  have hl := (hlu r hr0 hr1).2.2
  have h40 := (okG_shp hA.1 hr0 hr1).2.1
  rw [hl.1]
  refine ⟨⟨by omega, by omega⟩, fun hc2 => hbad fun hh => hc2 ⟨hh.2.1, by have := hh.2.2; omega⟩, fun hc2 => ⟨⟨by omega, by omega⟩, hi, ?_⟩⟩
  have hh : hasLr D r k := ⟨⟨hr0, hr1⟩, hc2.1, by omega⟩
  obtain ⟨-, -, -, -, hp1, hp2⟩ := hl.2 k.toNat (by omega)
  rw [Int.toNat_of_nonneg hc2.1] at hp1 hp2
  have hlk := leaf_okP hA.1 hr0 hr1 (k := k.toNat) (by omega)
  have hlen := okL_path (shp_L hA.1 hr0 hr1 _ (getD_mem (d := dl) (show k.toNat < (gV (shp D r)).length by omega))) (Nat.le_refl _)
  rw [hp1]
  have hm := mRel_252 (k := 3) (v := 0) hmu ⟨by omega, by omega⟩
  have hk2 := k2 hh _ (frm_I (cLy_mod hfu) (by unfold modC; omega)) (zI_eq (v := 0)) hm
  unfold thL at hk2
  refine ⟨⟨by omega, by omega⟩, fun hc3 => ?_, fun hc3 => ⟨⟨by omega, by omega⟩, ?_⟩⟩
  · have hz : sgL (pbs (lP ((gV (shp D r)).getD k.toNat dl))) i = -1 := by unfold sgL; rw [if_neg (by omega)]
    rw [hz] at hk2
    exact hk2
  · have hz : sgL (pbs (lP ((gV (shp D r)).getD k.toNat dl))) i = (pbs (lP ((gV (shp D r)).getD k.toNat dl))).getD i.toNat 0 := by unfold sgL; rw [if_pos ⟨hc3.1, by omega⟩]
    rw [hz, ← hp2 i.toNat (by omega), Int.toNat_of_nonneg hc3.1] at hk2
    exact hk2
theorem X_isText {L : List (Int × Int)} (hT : okTx T) (ht : cTx s T) (hp : okP L) (hl : L.length ≤ 6) (ky : pbs L = T → Q (rI 1) s) (kn : pbs L ≠ T → Q (rI 0) s) : wp S 72 0 [(0, rf 2), (1, .long (pcode L))] [] s Q := by
  have e0 := ht.1
  have h80 := hT.1
  have hloop : ∀ n i : Nat, i + n = T.length + 1 → (∀ j : Nat, j < i → sgL (pbs L) j = sgL T j) → wp S 72 2 [(0, rf 2), (1, .long (pcode L)), (3, iv i)] [] s Q := by
    intro n
    induction n with
    | zero =>
      intro i hi hj
      refine v_RL_isText_2 ⟨⟨by omega, by omega⟩, fun _ => ky (eq_sg (fun x hx => by have := pbs_el L hp x hx; omega) (fun x hx => ?_) fun j hj' => hj j (by omega)), fun hc => by omega⟩
      obtain ⟨j, hj1, hj2⟩ := List.getElem_of_mem hx
      have := (hT.2 j hj1).1
      rw [List.getD_eq_getElem?_getD, List.getElem?_eq_getElem hj1] at this
      rw [← hj2]
      exact this
    | succ n ihn =>
      intro i hi hj
      refine v_RL_isText_2 ⟨⟨by omega, by omega⟩, fun hc => by omega, fun _ => X_signOfPath hp hl ⟨by omega, by omega⟩ (zkI_I (sgL_rng hp hl) ?_)⟩
      have hsg : zsg i (zI s 36 0) (zI s 41 i) = sgL T i := by
        unfold zsg sgL
        rw [e0]
        by_cases hit : (i : Int) < T.length
        · rw [if_pos ⟨by omega, hit⟩, if_pos ⟨by omega, hit⟩, Int.toNat_natCast]; exact ht.2 i (by omega)
        · rw [if_neg (by omega), if_neg (by omega)]
      rw [hsg]
      have hrs : rng (sgL T i) := by
        unfold sgL
        split
        · rw [Int.toNat_natCast]; have := hT.2 i (by omega); exact ⟨by omega, by omega⟩
        · exact ⟨by decide, by decide⟩
      refine ⟨fun q0 q1 => by omega, hrs, fun he => ihn (i + 1) (by omega) fun j hj' => ?_, fun hne => kn fun hq => hne (by rw [hq])⟩
      by_cases hji : j = i
      · subst hji; exact he
      · exact hj j (by omega)
  exact v_RL_isText_0 (hloop (T.length + 1) 0 (by omega) fun j hj => absurd hj (Nat.not_lt_zero _))
theorem X_findLeaf {r : Int} (hA : okA D) (hT : okTx T) (h : cRel s D H T) (hr : rng r) (k1 : ¬ hasRc D r → Q (rT 2) (zbump s)) (k2 : hasRc D r → Q (rI (fstT (gV (shp D r)) T (gV (shp D r)).length 0)) s) : wp S 71 0 [(0, rf 2), (1, iv r)] [] s Q := by
  have hD0 := hA.1.1
  have e0 : zI s 3 0 = D 0 := h.1.1
  refine v_RL_findLeaf_0 ⟨hr, fun hc => ⟨⟨hc.1, by omega⟩, ?_⟩, fun hc => k1 fun hh => hc ⟨hh.1, by have := hh.2; omega⟩⟩
  have hh : hasRc D r := ⟨hc.1, by omega⟩
  have hr1 := hh.2
  have h40 := (okG_shp hA.1 hh.1 hh.2).2.1
  have hl : cLv s (67 + 11 * r) (gV (shp D r)) := by
    have hz := (h.2.1 r hh.1 hh.2).2.2.2.2.2
    rw [show (62 : Int) + 11 * r + 5 = 67 + 11 * r by omega] at hz
    exact hz
  have hO := isO_leaves (r := r) ⟨hc.1, by omega⟩
  have hk2 := k2 hh
  have hloop : ∀ n i : Nat, i + n = (gV (shp D r)).length → fstT (gV (shp D r)) T (gV (shp D r)).length 0 = fstT (gV (shp D r)) T n i → wp S 71 17 [(0, rf 2), (2, rf (67 + 11 * r)), (3, iv i)] [] s Q := by
    intro n
    induction n with
    | zero =>
      intro i hi he
      have he' : fstT (gV (shp D r)) T (gV (shp D r)).length 0 = -1 := he
      rw [he'] at hk2
      exact v_RL_findLeaf_17 hO ⟨⟨by omega, by omega⟩, fun _ => hk2, fun hc => by have := hl.1; omega⟩
    | succ n ihn =>
      intro i hi he
      have hpc := (hl.2 i (by omega)).2.2.2.2
      have hlk := leaf_okP hA.1 hh.1 hh.2 (k := i) (by omega)
      have h0 := hl.1
      refine v_RL_findLeaf_17 hO ⟨⟨by omega, by omega⟩, fun hc => by omega, fun _ => ⟨⟨by omega, by omega⟩, ?_⟩⟩
      rw [hpc]
      refine X_isText hT h.2.2.2.1 hlk.1 hlk.2.1 (fun hy => zkI_I ⟨by decide, by decide⟩ ⟨fun hq => by omega, fun _ => ?_⟩) fun hn => zkI_I ⟨by decide, by decide⟩ ⟨fun _ => ?_, fun hq => absurd rfl hq⟩
      · rw [he.trans (if_pos hy)] at hk2; exact hk2
      · exact ihn (i + 1) (by omega) (he.trans (if_neg hn))
  exact hloop _ 0 (Nat.zero_add _) rfl
theorem M_find_64 {r i at_ : Int} {p : List Int} (hi : rng i) (hT : okTx T) (ht : mTx s T) (hat : 0 ≤ at_ ∧ at_ < 240) (hp : mPth s at_ p) (hl : p.length ≤ 32) (ky : p = T → Q (rI i) s) (kn : p ≠ T → wp S 214 24 [(0, rf 252), (1, iv r), (2, iv (i + 1))] [] s Q) (hlen : p.length = T.length) (n : Nat) : ∀ k : Nat, k + n = T.length → (∀ j : Nat, j < k → p.getD j 0 = T.getD j 0) → wp S 214 64 [(0, rf 252), (1, iv r), (2, iv i), (3, iv at_), (4, iv 1), (5, iv k)] [] s Q := by
  obtain ⟨p1, p2⟩ := hp
  obtain ⟨q1, q2⟩ := ht
  have h80 := hT.1
  have heq : (∀ j : Nat, j < p.length → p.getD j 0 = T.getD j 0) → p = T := fun h => List.ext_getElem hlen fun j j1 j2 => by
    have hz := h j j1
    rw [List.getD_eq_getElem?_getD, List.getD_eq_getElem?_getD, List.getElem?_eq_getElem j1, List.getElem?_eq_getElem j2] at hz
    exact hz
  induction n with
  | zero =>
    intro k hk hj
    exact v_Model_findLeaf_64 ⟨⟨by omega, by omega⟩, fun hc => absurd hc (by decide), fun _ => ⟨⟨by omega, by omega⟩, fun _ => ⟨fun hc => absurd hc (by decide), fun _ => ky (heq fun j hj' => hj j (by omega))⟩, fun hc => by omega⟩⟩
  | succ n ihn =>
    intro k hk hj
    have g1 := p2 k (by omega)
    have g2 := q2 k (by omega)
    refine v_Model_findLeaf_64 ⟨⟨by omega, by omega⟩, fun hc => absurd hc (by decide), fun _ => ⟨⟨by omega, by omega⟩, fun hc => by omega, fun _ => ⟨⟨by omega, by omega⟩, ⟨by omega, by omega⟩, ?_⟩⟩⟩
    rw [g1, g2]
    refine ⟨fun hne => ?_, fun he => ?_⟩
    · have hpq : p ≠ T := fun h => hne (by rw [h])
      exact v_Model_findLeaf_64 ⟨⟨by omega, by omega⟩, fun _ => ⟨fun _ => kn hpq, fun hc => absurd rfl hc⟩, fun hc => absurd rfl hc⟩
    · exact ihn (k + 1) (by omega) fun j hj' => by
        by_cases h : j = k
        · subst h; exact he
        · exact hj j (by omega)
theorem M_findLeaf {r : Int} (hA : okA D) (hT : okTx T) (h : mRel s D H T) (hr : rng r) (k1 : ¬ hasRc D r → ∀ u, frm modC s u → zI u 252 3 = 1 → mRel u D H T → Q (rI 0) u) (k2 : hasRc D r → ∀ u, frm modC s u → zI u 252 3 = 0 → mRel u D H T → Q (rI (fstT (gV (shp D r)) T (gV (shp D r)).length 0)) u) : wp S 214 0 [(0, rf 252), (1, iv r)] [] s Q := by
  have hD0 := hA.1.1
  have e0 : zI s 253 0 = D 0 := h.1 0 (by omega) (by omega)
  have hP : (0 ≤ r ∧ r ≤ zI s 253 0 - 1) ↔ hasRc D r := ⟨fun hq => ⟨hq.1, by omega⟩, fun hq => ⟨hq.1, by have := hq.2; omega⟩⟩
  refine v_Model_findLeaf_0 ⟨hr, ⟨by omega, by omega⟩, fun hc => ?_, fun hc => ?_⟩
  · have hh := hP.mp hc
    have hr0 := hh.1
    have hr1 := hh.2
    rw [bi_F (fun q => q hc)]
    have hm0 := mRel_252 (k := 3) (v := 0) h ⟨by omega, by omega⟩
    refine C_lays hA.1 hm0.1 fun u hfu hlu => zkU_U ?_
    have hmu := mRel_ly hm0 hfu
    have hl := (hlu r hr0 hr1).2.2
    have h40 := (okG_shp hA.1 hr0 hr1).2.1
    have hk2 := k2 hh u (frm_trans (frm_I frm_refl (by unfold modC; omega)) (cLy_mod hfu)) ((fI hfu (by unfold cLy; omega)).trans zI_eq) hmu
    have hloop : ∀ n i : Nat, i + n = (gV (shp D r)).length → fstT (gV (shp D r)) T (gV (shp D r)).length 0 = fstT (gV (shp D r)) T n i → wp S 214 24 [(0, rf 252), (1, iv r), (2, iv i)] [] u Q := by
      intro n
      induction n with
      | zero =>
        intro i hi he
        have he' : fstT (gV (shp D r)) T (gV (shp D r)).length 0 = -1 := he
        rw [he'] at hk2
        have h0 := hl.1
        exact v_Model_findLeaf_24 ⟨⟨by omega, by omega⟩, ⟨by omega, by omega⟩, fun _ => hk2, fun hc => by omega⟩
      | succ n ihn =>
        intro i hi he
        have h0 := hl.1
        obtain ⟨-, -, -, -, hp⟩ := hl.2 i (by omega)
        have hlen := okL_path (shp_L hA.1 hr0 hr1 _ (getD_mem (d := dl) (show i < (gV (shp D r)).length by omega))) (Nat.le_refl _)
        have hT0 : zI u 252 5 = (T.length : Int) := hmu.2.2.1
        have hno : pbs (lP ((gV (shp D r)).getD i dl)) ≠ T → wp S 214 24 [(0, rf 252), (1, iv r), (2, iv (i + 1))] [] u Q := fun hn => ihn (i + 1) (by omega) (he.trans (if_neg hn))
        refine v_Model_findLeaf_24 ⟨⟨by omega, by omega⟩, ⟨by omega, by omega⟩, fun hc => by omega, fun _ => ⟨⟨by omega, by omega⟩, ?_⟩⟩
        rw [hp.1, hT0]
        refine ⟨fun hne => ?_, fun heq => ?_⟩
        · exact v_Model_findLeaf_64 ⟨⟨by omega, by omega⟩, fun _ => ⟨fun _ => hno fun hq => hne (by rw [hq]), fun hc => absurd rfl hc⟩, fun hc => absurd rfl hc⟩
        · refine M_find_64 (p := pbs (lP ((gV (shp D r)).getD i dl))) ⟨by omega, by omega⟩ hT hmu.2.2 ⟨by omega, by omega⟩ hp (by omega) (fun hy => ?_) hno (by omega) T.length 0 (Nat.zero_add _) fun j hj => absurd hj (Nat.not_lt_zero _)
          rw [he.trans (if_pos hy)] at hk2
          exact hk2
    exact hloop _ 0 (Nat.zero_add _) rfl
  · rw [bi_T hc]
    exact k1 (fun hh => hc (hP.mpr hh)) _ (frm_I frm_refl (by unfold modC; omega)) zI_eq (mRel_252 h ⟨by omega, by omega⟩)
end OPS36

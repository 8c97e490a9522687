/-! ===== the two pictures, of the class and of the reference ===== -/
def ltx (n : Nat) (o p : Nat → Int) : Prop := ∃ k, k < n ∧ (∀ j, j < k → o j = p j) ∧ o k < p k
def isPm (n : Nat) (o : Nat → Int) : Prop := (∀ k, k < n → 0 ≤ o k ∧ o k < n) ∧ ∀ j k, j < n → k < n → o j = o k → j = k
/-- the size that a record has with its fields in an order -/
def finO (D : Int → Int) (r : Int) (o : Nat → Int) : Int := zup (plo (shp D) (dP D r) (fTc D r) o (dN D r).toNat).1 (plo (shp D) (dP D r) (fTc D r) o (dN D r).toNat).2.2
def isBest (D : Int → Int) (r sz : Int) (o : Nat → Int) : Prop := isPm (dN D r).toNat o ∧ finO D r o = sz ∧ ∀ p, isPm (dN D r).toNat p → sz ≤ finO D r p ∧ (finO D r p = sz → ¬ ltx (dN D r).toNat p o)
/-- a row that is in order -/
def okA (D : Int → Int) : Prop := okD D ∧ okB D ∧ (∀ t, 0 ≤ t → t < 3 → tRc D t = -1 ∨ okTab D t) ∧ ∀ t u, 0 ≤ t → t < 3 → 0 ≤ u → u < 3 → t ≠ u → tRc D t ≠ -1 → tRc D u ≠ -1 → tBs D t + tBy D t ≤ tBs D u ∨ tBs D u + tBy D u ≤ tBs D t
def okHs (H : List (Int → Int)) : Prop := H.length ≤ 4 ∧ ∀ i : Nat, i < H.length → okA (H.getD i d0)
def okTx (T : List Int) : Prop := T.length ≤ 80 ∧ ∀ i : Nat, i < T.length → 0 ≤ T.getD i 0 ∧ T.getD i 0 ≤ 127
def cTx (s : zSt) (T : List Int) : Prop := zI s 36 0 = (T.length : Int) ∧ ∀ i : Nat, i < T.length → zI s 41 i = T.getD i 0
def mTx (s : zSt) (T : List Int) : Prop := zI s 252 5 = (T.length : Int) ∧ ∀ i : Nat, i < T.length → zI s 255 i = T.getD i 0
def cBs (s : zSt) (D : Int → Int) : Prop := zI s 2 7 = -1 ∨ ((0 ≤ zI s 2 7 ∧ zI s 2 7 < D 0) ∧ isBest D (zI s 2 7) (zI s 42 0) fun k => zI s 43 k)
def cRel (s : zSt) (D : Int → Int) (H : List (Int → Int)) (T : List Int) : Prop := cSt s 3 D ∧ cSh s D (D 0) ∧ cRg s H ∧ cTx s T ∧ cBs s D
def mRel (s : zSt) (D : Int → Int) (H : List (Int → Int)) (T : List Int) : Prop := mD s D ∧ mPs s H ∧ mTx s T
/-- cells of the class's picture -/
def cK (a : Int) : Prop := (2 ≤ a ∧ a ≤ 33) ∨ a = 36 ∨ (41 ≤ a ∧ a ≤ 43) ∨ (62 ≤ a ∧ a ≤ 251)
/-- the class's cells, and the reference's -/
def clsC (a : Int) : Prop := 2 ≤ a ∧ a ≤ 251
def modC (a : Int) : Prop := 252 ≤ a ∧ a ≤ 274
theorem okHs_H {H : List (Int → Int)} (h : okHs H) : okH H := fun i hi => okD_Ns (h.2 i hi).1
theorem cRg_fr {P : Int → Prop} {s t : zSt} {H : List (Int → Int)} (h : cRg s H) (hH : okH H) (hf : frm P s t) (hn : ∀ a, cK a → ¬ P a) : cRg t H := by
  obtain ⟨r1, r2, r3⟩ := h
  have e3 : zI t 2 3 = zI s 2 3 := fI hf (hn _ (by unfold cK; omega))
  have e4 : zI t 2 4 = zI s 2 4 := fI hf (hn _ (by unfold cK; omega))
  refine ⟨by rw [e3]; exact r1, ⟨e4.trans r2.1, r2.2⟩, fun i hi => ?_⟩
  rw [e3]
  exact cSt_fr (r3 i hi) (hH i hi).1.2 hf fun x x0 x1 => hn x (by unfold cK; omega)
theorem cTx_fr {P : Int → Prop} {s t : zSt} {T : List Int} (h : cTx s T) (hf : frm P s t) (hn : ¬ P 36 ∧ ¬ P 41) : cTx t T := ⟨(fI hf hn.1).trans h.1, fun i hi => (fI hf hn.2).trans (h.2 i hi)⟩
theorem cBs_fr {P : Int → Prop} {s t : zSt} {D : Int → Int} (h : cBs s D) (hf : frm P s t) (hn : ∀ a, cK a → ¬ P a) : cBs t D := by
  have e7 : zI t 2 7 = zI s 2 7 := fI hf (hn _ (by unfold cK; omega))
  have e0 : zI t 42 0 = zI s 42 0 := fI hf (hn _ (by unfold cK; omega))
  have e1 : (fun k : Nat => zI t 43 k) = fun k : Nat => zI s 43 k := funext fun k => fI hf (hn _ (by unfold cK; omega))
  unfold cBs
  rw [e7, e0, e1]
  exact h
theorem cRel_fr {P : Int → Prop} {s t : zSt} {D : Int → Int} {H : List (Int → Int)} {T : List Int} (h : cRel s D H T) (hD : okD D) (hH : okH H) (hf : frm P s t) (hn : ∀ a, cK a → ¬ P a) : cRel t D H T :=
  ⟨cSt_fr h.1 hD.1.2 hf fun x x0 x1 => hn x (by unfold cK; omega), cSh_fr h.2.1 hf fun x x0 x1 => hn x (by have := hD.1; unfold cK; omega), cRg_fr h.2.2.1 hH hf hn, cTx_fr h.2.2.2.1 hf ⟨hn _ (by unfold cK; omega), hn _ (by unfold cK; omega)⟩, cBs_fr h.2.2.2.2 hf hn⟩
theorem mRel_fr {P : Int → Prop} {s t : zSt} {D : Int → Int} {H : List (Int → Int)} {T : List Int} (h : mRel s D H T) (hf : frm P s t) (hn : ∀ a, 252 ≤ a → a ≤ 255 → ¬ P a) : mRel t D H T :=
  ⟨fun j q0 q1 => (fI hf (hn _ (by omega) (by omega))).trans (h.1 j q0 q1), ⟨⟨(fI hf (hn _ (by omega) (by omega))).trans h.2.1.1.1, h.2.1.1.2⟩, fun i hi j q0 q1 => (fI hf (hn _ (by omega) (by omega))).trans (h.2.1.2 i hi j q0 q1)⟩, (fI hf (hn _ (by omega) (by omega))).trans h.2.2.1, fun i hi => (fI hf (hn _ (by omega) (by omega))).trans (h.2.2.2 i hi)⟩
/-- a scratch number of the reference is other -/
theorem mRel_252 {s : zSt} {D : Int → Int} {H : List (Int → Int)} {T : List Int} {k v : Int} (h : mRel s D H T) (hk : k ≠ 2 ∧ k ≠ 5) : mRel (zwI s 252 k v) D H T :=
  ⟨fun j q0 q1 => by rw [zI_ne (by omega)]; exact h.1 j q0 q1, ⟨⟨by rw [zI_nj (by omega)]; exact h.2.1.1.1, h.2.1.1.2⟩, fun i hi j q0 q1 => by rw [zI_ne (by omega)]; exact h.2.1.2 i hi j q0 q1⟩, by rw [zI_nj (by omega)]; exact h.2.2.1, fun i hi => by rw [zI_ne (by omega)]; exact h.2.2.2 i hi⟩
/-! ===== rows that agree ===== -/
def agR (D D' : Int → Int) : Prop := ∀ j, 0 ≤ j → j < 157 → D' j = D j
theorem agR_rec {D D' : Int → Int} (h : agR D D') {r : Int} (h0 : 0 ≤ r) (h1 : r < 6) : dP D' r = dP D r ∧ dN D' r = dN D r ∧ ∀ f, 0 ≤ f → f < 8 → dNm D' r f = dNm D r f ∧ dTy D' r f = dTy D r f ∧ dCt D' r f = dCt D r f :=
  ⟨h _ (by omega) (by omega), h _ (by omega) (by omega), fun f q0 q1 => ⟨h _ (by omega) (by omega), h _ (by omega) (by omega), h _ (by omega) (by omega)⟩⟩
theorem agR_shp {D D' : Int → Int} (hD : okD D) (h : agR D D') {r : Int} (h0 : 0 ≤ r) (h1 : r < D 0) : shp D' r = shp D r := by
  have hD0 := hD.1
  refine shp_agree r.toNat (fun i q0 q1 => ?_) (fun i q0 q1 f f0 f1 => ((hD.2 i q0 (by omega)).2.2.1 f f0 f1).2.1) r h0 (by omega)
  have hz := agR_rec h (r := i) q0 (by omega)
  have hn8 := (hD.2 i q0 (by omega)).2.1
  exact ⟨hz.1, hz.2.1, fun f f0 f1 => hz.2.2 f f0 (by omega)⟩
theorem agR_okD {D D' : Int → Int} (hD : okD D) (h : agR D D') : okD D' := by
  have hD0 := hD.1
  have e0 : D' 0 = D 0 := h 0 (by omega) (by omega)
  refine ⟨by rw [e0]; exact hD0, fun r q0 q1 => ?_⟩
  rw [e0] at q1
  obtain ⟨o1, o2, o3, o4⟩ := hD.2 r q0 q1
  have hz := agR_rec h (r := r) q0 (by omega)
  refine ⟨by rw [hz.1]; exact o1, by rw [hz.2.1]; exact o2, fun f f0 f1 => ?_, by rw [agR_shp hD h q0 q1]; exact o4⟩
  rw [hz.2.1] at f1
  obtain ⟨g1, g2, g3, g4⟩ := o3 f f0 f1
  have hy := hz.2.2 f f0 (by omega)
  refine ⟨by rw [hy.1]; exact g1, ?_, by rw [hy.2.2]; exact g3, by rw [hy.2.1, hy.2.2]; exact g4⟩
  rw [hy.2.1]
  rcases g2 with g | g | g
  · exact .inl g
  · exact .inr (.inl g)
  · exact .inr (.inr ⟨g.1, g.2.1, by rw [(agR_rec h (r := dTy D r f - 100) (by omega) (by omega)).2.1]; exact g.2.2⟩)
theorem agR_cSh {D D' : Int → Int} (hD : okD D) (h : agR D D') {s : zSt} (hs : cSh s D (D 0)) : cSh s D' (D' 0) := by
  have e0 : D' 0 = D 0 := h 0 (by omega) (by omega)
  intro r q0 q1
  rw [e0] at q1
  rw [agR_shp hD h q0 q1]
  exact hs r q0 q1
theorem agR_cFl {D D' : Int → Int} (hD : okD D) (h : agR D D') {s : zSt} {c : Int} (hs : cFl s c D (D 0)) : cFl s c D' (D' 0) := by
  have hD0 := hD.1
  have e0 : D' 0 = D 0 := h 0 (by omega) (by omega)
  intro r q0 q1
  rw [e0] at q1
  have hz := agR_rec h (r := r) q0 (by omega)
  have hn8 := (hD.2 r q0 q1).2.1
  obtain ⟨w1, w2, w3⟩ := hs r q0 q1
  refine ⟨by rw [hz.1]; exact w1, by rw [hz.2.1]; exact w2, fun f hf => ?_⟩
  rw [hz.2.1] at hf
  have hy := hz.2.2 f (by omega) (by omega)
  unfold dFd
  rw [hy.1, hy.2.1, hy.2.2]
  exact w3 f hf
/-- tables stay as they are, too -/
def agT (D D' : Int → Int) : Prop := ∀ j, 0 ≤ j → j < 175 → D' j = D j
theorem agT_R {D D' : Int → Int} (h : agT D D') : agR D D' := fun j q0 q1 => h j q0 (by omega)
theorem agT_tab {D D' : Int → Int} (h : agT D D') {t : Int} (h0 : 0 ≤ t) (h1 : t < 3) : tRc D' t = tRc D t ∧ tNr D' t = tNr D t ∧ tLy D' t = tLy D t ∧ tOr D' t = tOr D t ∧ tBs D' t = tBs D t ∧ tBy D' t = tBy D t :=
  ⟨h _ (by omega) (by omega), h _ (by omega) (by omega), h _ (by omega) (by omega), h _ (by omega) (by omega), h _ (by omega) (by omega), h _ (by omega) (by omega)⟩
theorem agT_okA {D D' : Int → Int} (hA : okA D) (h : agT D D') (hB : okB D') : okA D' := by
  obtain ⟨h1, h2, h3, h4⟩ := hA
  have e0 : D' 0 = D 0 := h 0 (by omega) (by omega)
  refine ⟨agR_okD h1 (agT_R h), hB, fun t q0 q1 => ?_, fun t u t0 t1 u0 u1 htu ht hu => ?_⟩
  · obtain ⟨a1, a2, a3, a4, a5, a6⟩ := agT_tab h q0 q1
    rcases h3 t q0 q1 with hq | hq
    · exact .inl (a1.trans hq)
    · obtain ⟨k1, k2, k3, k4, k5, k6, k7, k8⟩ := hq
      right
      have hz := agR_rec (agT_R h) (r := tRc D t) k1.1 (by have := h1.1; omega)
      unfold okTab tG
      rw [a1, a2, a3, a4, a5, a6, e0, hz.2.1, agR_shp h1 (agT_R h) k1.1 k1.2]
      exact ⟨k1, k2, k3, k4, k5, k6, k7, k8⟩
  · obtain ⟨a1, a2, a3, a4, a5, a6⟩ := agT_tab h t0 t1
    obtain ⟨b1, b2, b3, b4, b5, b6⟩ := agT_tab h u0 u1
    rw [a5, a6, b5, b6]
    exact h4 t u t0 t1 u0 u1 htu (by rw [← a1]; exact ht) (by rw [← b1]; exact hu)

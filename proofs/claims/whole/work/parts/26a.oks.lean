/-! ===== rows that are in order, and stay so ===== -/
def okHn (H : List (Int → Int)) : Prop := ∀ i : Nat, i < H.length → okNm (H.getD i d0)
def okS (D : Int → Int) (H : List (Int → Int)) (T : List Int) : Prop := okA D ∧ okNm D ∧ okHs H ∧ okHn H ∧ okTx T
theorem agR_okNm {D D' : Int → Int} (hD : okD D) (h : agR D D') (hN : okNm D) : okNm D' := by
  have hD0 := hD.1
  have e0 : D' 0 = D 0 := h 0 (by omega) (by omega)
  intro r q0 q1 f g f0 fg g1
  rw [e0] at q1
  have hz := agR_rec h (r := r) q0 (by omega)
  have hn8 := (hD.2 r q0 q1).2.1
  rw [hz.2.1] at g1
  rw [(hz.2.2 f f0 (by omega)).1, (hz.2.2 g (by omega) (by omega)).1]
  exact hN r q0 q1 f g f0 fg g1
theorem new_okNm {D : Int → Int} {p : Int} (hD : okD D) (hN : okNm D) : okNm (newD D p) := by
  intro r q0 q1 f g f0 fg g1
  rw [newD_0] at q1
  by_cases hc : r < D 0
  · have hz := agN_shp hD (Int.le_refl _) (new_ag (p := p)) q0 hc
    have hn8 := (hD.2 r q0 hc).2.1
    rw [hz.2.2.1] at g1
    rw [(hz.2.2.2 f f0 (by omega)).1, (hz.2.2.2 g (by omega) (by omega)).1]
    exact hN r q0 hc f g f0 fg g1
  · have hr : r = D 0 := by omega
    subst hr
    rw [(newD_at (p := p) hD.1.1).2] at g1
    omega
theorem add_okNm {D : Int → Int} {r nm ty ct : Int} (hD : okD D) (hN : okNm D) (hr : hasRc D r) (ha : argF D r nm ty ct) (hs : staF D r ty ct) : okNm (addD D r nm ty ct) := by
  have hr0 := hr.1
  have hr1 := hr.2
  have hn : 0 ≤ dN D r ∧ dN D r < 8 := ⟨(hD.2 r hr0 hr1).2.1.1, hs.1⟩
  have e0 : addD D r nm ty ct 0 = D 0 := addD_ne (by omega) (by omega) (by omega) (by omega)
  obtain ⟨a1, a2, a3, a4, a5, a6⟩ := addD_at (nm := nm) (ty := ty) (ct := ct) hn
  intro i q0 q1 f g f0 fg g1
  rw [e0] at q1
  by_cases hir : i = r
  · subst hir
    rw [a2] at g1
    rw [(a3 f f0 (by omega)).1]
    by_cases hg : g < dN D i
    · rw [(a3 g (by omega) hg).1]; exact hN i q0 q1 f g f0 fg hg
    · have hge : g = dN D i := by omega
      subst hge
      rw [a4]
      intro hc
      refine ha.1.2 ⟨f.toNat, by omega, ?_⟩
      rw [Int.toNat_of_nonneg f0]
      exact hc
  · obtain ⟨b1, b2, b3⟩ := addD_out (nm := nm) (ty := ty) (ct := ct) hr0 hn q0 hir
    have hn8 := (hD.2 i q0 q1).2.1
    rw [b2] at g1
    rw [(b3 f f0 (by omega)).1, (b3 g (by omega) (by omega)).1]
    exact hN i q0 q1 f g f0 fg g1
theorem def_okNm {D : Int → Int} {p n : Int} {F : List (Int × Int × Int)} (hA : okA D) (hN : okNm D) (h6 : D 0 < 6) (hp : zp8 p) (hI : fsI D F n) : okNm (dfN D p F F.length) := by
  obtain ⟨d1, d2, d3, d4, d5, d6, d7, d8, d9⟩ := dfN_ok hA h6 hp hI F.length (Nat.le_refl _)
  intro r q0 q1 f g f0 fg g1
  rw [d2] at q1
  by_cases hc : r < D 0
  · have hz := agN_shp hA.1 (Int.le_refl _) d7 q0 hc
    have hn8 := (hA.1.2 r q0 hc).2.1
    rw [hz.2.2.1] at g1
    rw [(hz.2.2.2 f f0 (by omega)).1, (hz.2.2.2 g (by omega) (by omega)).1]
    exact hN r q0 hc f g f0 fg g1
  · have hr : r = D 0 := by omega
    subst hr
    rw [d4] at g1
    have e1 := congrArg (fun q : Int × Int × Int => q.1) (d5 f.toNat (by omega))
    have e2 := congrArg (fun q : Int × Int × Int => q.1) (d5 g.toNat (by omega))
    have e1 : dNm (dfN D p F F.length) (D 0) ((f.toNat : Nat) : Int) = (fD F f.toNat).1 := e1
    have e2 : dNm (dfN D p F F.length) (D 0) ((g.toNat : Nat) : Int) = (fD F g.toNat).1 := e2
    rw [Int.toNat_of_nonneg f0] at e1
    rw [Int.toNat_of_nonneg (by omega)] at e2
    rw [e1, e2]
    exact hI.2.2.1 f.toNat g.toNat (by omega) (by omega)
theorem okHn_push {H : List (Int → Int)} {D : Int → Int} (hH : okHs H) (hn : okHn H) (hN : okNm D) : okHn (pushH H D) := by
  have h4 := hH.1
  have htl : H.tail.length = H.length - 1 := List.length_tail
  have h1 : ([D] : List (Int → Int)).length = 1 := rfl
  unfold pushH
  by_cases hc : H.length < 4
  · rw [if_pos hc]
    intro i hi
    rw [List.length_append] at hi
    by_cases hi2 : i < H.length
    · rw [getD_app1 hi2]; exact hn i hi2
    · rw [getD_app2 (by omega), show i - H.length = 0 by omega]; exact hN
  · rw [if_neg hc]
    intro i hi
    rw [List.length_append, htl] at hi
    by_cases hi2 : i < H.length - 1
    · rw [getD_app1 (by omega), getD_tail]; exact hn _ (by omega)
    · rw [getD_app2 (by omega), htl, show i - (H.length - 1) = 0 by omega]; exact hN
/-- a changed row, the old one being saved -/
theorem okS_push {D D' : Int → Int} {H : List (Int → Int)} {T : List Int} (h : okS D H T) (hA : okA D') (hN : okNm D') : okS D' (pushH H D) T := ⟨hA, hN, okHs_push h.2.2.1 h.1, okHn_push h.2.2.1 h.2.2.2.1 h.2.1, h.2.2.2.2⟩
theorem okS_ag {D D' : Int → Int} {H : List (Int → Int)} {T : List Int} (h : okS D H T) (hA : okA D') (hag : agR D D') : okS D' (pushH H D) T := okS_push h hA (agR_okNm h.1.1 hag h.2.1)
theorem okS_undo {D : Int → Int} {H : List (Int → Int)} {T : List Int} (h : okS D H T) (hl : 0 < H.length) : okS (H.getD (H.length - 1) d0) H.dropLast T := by
  have hu := undo_ok h.2.2.1 hl
  have hdl : H.dropLast.length = H.length - 1 := List.length_dropLast
  refine ⟨hu.1, h.2.2.2.1 _ (by omega), hu.2, fun i hi => ?_, h.2.2.2.2⟩
  rw [hdl] at hi
  have e : H.dropLast.getD i d0 = H.getD i d0 := by
    rw [List.getD_eq_getElem?_getD, List.getD_eq_getElem?_getD, List.getElem?_dropLast, if_pos hi]
  rw [e]
  exact h.2.2.2.1 i (by omega)
theorem cm_okS {D : Int → Int} {H : List (Int → Int)} {T : List Int} (h : okS D H T) : okS (cmD D 3).1 (pushH H D) T := by
  obtain ⟨⟨last, h1, h2, _⟩, _⟩ := cmD_ok h.1 3
  exact okS_ag h h1 h2
theorem seq_okS {D : Int → Int} {H : List (Int → Int)} {T : List Int} {t : Int} {L : List ((Int × Nat) × Int64)} (h : okS D H T) (hv : isLv D t) (hL : ∀ p ∈ L, inP D t p.1) : okS (seqW D t D L) (pushH H D) T := by
  have hz := seq_okA h.1 hv hL
  exact okS_ag h hz.2 (agT_R hz.1)
theorem mg_okS {D : Int → Int} {H : List (Int → Int)} {T : List Int} {t o ly od : Int} (h : okS D H T) (hv : isLv D t) (ho : hasRc D o) (hd : 0 < dN D o) (h2 : 0 ≤ ly ∧ ly ≤ 8) (h3 : 0 ≤ od ∧ od ≤ 1) (hs : bseT D o (tNr D t) ly ≠ -1) : okS (mgD D t o ly od) (pushH H D) T := by
  have hz := mgL_ok h.1 hv ho hd h2 h3 hs
  have hp := mgT_P h.1 hv ho hd h2 h3 hs
  exact okS_ag h hz.2 fun j q0 q1 => (hz.1 j q0 (by omega)).trans (hp.2.2.2.2.1 j q0 q1)
theorem newT_okS {D : Int → Int} {H : List (Int → Int)} {T : List Int} {r nr ly od : Int} (h : okS D H T) (hr : hasRc D r) (ha : argT nr ly od) (hs : staT D r nr ly) : okS (newTD D (ffT D 3 0) r nr ly od (bseT D r nr ly)) (pushH H D) T := by
  obtain ⟨z1, z2, z3, z4, z5, z6⟩ := staT_in h.1 hr ha.1 ha.2.1 hs
  exact okS_ag h (newT_ok h.1 hr ha hs) (newTD_ag z1 z3.1).1

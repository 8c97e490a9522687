/-! ===== one more field: the row ===== -/
def addD (D : Int → Int) (r nm ty ct : Int) : Int → Int := upD (upD (upD (upD D (1 + 26 * r + 2 + 3 * dN D r) nm) (1 + 26 * r + 2 + 3 * dN D r + 1) ty) (1 + 26 * r + 2 + 3 * dN D r + 2) ct) (1 + 26 * r + 1) (dN D r + 1)
theorem addD_ne {D : Int → Int} {r nm ty ct j : Int} (h0 : j ≠ 1 + 26 * r + 2 + 3 * dN D r) (h1 : j ≠ 1 + 26 * r + 2 + 3 * dN D r + 1) (h2 : j ≠ 1 + 26 * r + 2 + 3 * dN D r + 2) (h3 : j ≠ 1 + 26 * r + 1) : addD D r nm ty ct j = D j := by
  unfold addD
  rw [upD_ne h3, upD_ne h2, upD_ne h1, upD_ne h0]
theorem addD_out {D : Int → Int} {r nm ty ct i : Int} (hr : 0 ≤ r) (hn : 0 ≤ dN D r ∧ dN D r < 8) (hi : 0 ≤ i) (hne : i ≠ r) : dP (addD D r nm ty ct) i = dP D i ∧ dN (addD D r nm ty ct) i = dN D i ∧ ∀ f, 0 ≤ f → f < 8 → dNm (addD D r nm ty ct) i f = dNm D i f ∧ dTy (addD D r nm ty ct) i f = dTy D i f ∧ dCt (addD D r nm ty ct) i f = dCt D i f :=
  ⟨addD_ne (by omega) (by omega) (by omega) (by omega), addD_ne (by omega) (by omega) (by omega) (by omega), fun f f0 f1 => ⟨addD_ne (by omega) (by omega) (by omega) (by omega), addD_ne (by omega) (by omega) (by omega) (by omega), addD_ne (by omega) (by omega) (by omega) (by omega)⟩⟩
theorem addD_at {D : Int → Int} {r nm ty ct : Int} (hn : 0 ≤ dN D r ∧ dN D r < 8) : dP (addD D r nm ty ct) r = dP D r ∧ dN (addD D r nm ty ct) r = dN D r + 1 ∧ (∀ f, 0 ≤ f → f < dN D r → dNm (addD D r nm ty ct) r f = dNm D r f ∧ dTy (addD D r nm ty ct) r f = dTy D r f ∧ dCt (addD D r nm ty ct) r f = dCt D r f) ∧ dNm (addD D r nm ty ct) r (dN D r) = nm ∧ dTy (addD D r nm ty ct) r (dN D r) = ty ∧ dCt (addD D r nm ty ct) r (dN D r) = ct := by
  refine ⟨addD_ne (by omega) (by omega) (by omega) (by omega), ?_, fun f f0 f1 => ⟨addD_ne (by omega) (by omega) (by omega) (by omega), addD_ne (by omega) (by omega) (by omega) (by omega), addD_ne (by omega) (by omega) (by omega) (by omega)⟩, ?_, ?_, ?_⟩
  · show addD D r nm ty ct (1 + 26 * r + 1) = _
    unfold addD; rw [upD_eq]
  · show addD D r nm ty ct (1 + 26 * r + 2 + 3 * dN D r) = _
    unfold addD; rw [upD_ne (by omega), upD_ne (by omega), upD_ne (by omega), upD_eq]
  · show addD D r nm ty ct (1 + 26 * r + 2 + 3 * dN D r + 1) = _
    unfold addD; rw [upD_ne (by omega), upD_ne (by omega), upD_eq]
  · show addD D r nm ty ct (1 + 26 * r + 2 + 3 * dN D r + 2) = _
    unfold addD; rw [upD_ne (by omega), upD_eq]
theorem add_okT {D : Int → Int} {r nm ty ct i t : Int} (hr : 0 ≤ r) (hn : 0 ≤ dN D r ∧ dN D r < 8) (h : okT D i t) : okT (addD D r nm ty ct) i t := by
  rcases h with g | g | g
  · exact .inl g
  · exact .inr (.inl g)
  · refine .inr (.inr ⟨g.1, g.2.1, ?_⟩)
    by_cases ht : t - 100 = r
    · rw [ht, (addD_at hn).2.1]; omega
    · rw [(addD_out hr hn (by omega) ht).2.1]; exact g.2.2
theorem add_ty {D : Int → Int} {r nm ty ct i : Int} (hD : okD D) (hr : hasRc D r) (hn : 0 ≤ dN D r ∧ dN D r < 8) (ht : okT D r ty) (hi : 0 ≤ i) (h1 : i < D 0) : ∀ f, 0 ≤ f → f < dN (addD D r nm ty ct) i → okT (addD D r nm ty ct) i (dTy (addD D r nm ty ct) i f) := by
  intro f f0 f1
  have hn8 := (hD.2 i hi h1).2.1
  have hty := (hD.2 i hi h1).2.2.1
  by_cases hir : i = r
  · subst hir
    obtain ⟨a1, a2, a3, a4, a5, a6⟩ := addD_at (nm := nm) (ty := ty) (ct := ct) hn
    by_cases hf : f < dN D i
    · rw [(a3 f f0 hf).2.1]; exact add_okT hr.1 hn (hty f f0 hf).2.1
    · have hfe : f = dN D i := by omega
      subst hfe
      rw [a5]; exact add_okT hr.1 hn ht
  · obtain ⟨a1, a2, a3⟩ := addD_out (nm := nm) (ty := ty) (ct := ct) hr.1 hn hi hir
    rw [a2] at f1
    rw [(a3 f f0 (by omega)).2.1]
    exact add_okT hr.1 hn (hty f f0 f1).2.1
theorem add_shp_ne {D : Int → Int} {r nm ty ct : Int} (hD : okD D) (hr : hasRc D r) (hn : 0 ≤ dN D r ∧ dN D r < 8) (ht : okT D r ty) (hu : ¬ usedR D r) : ∀ (n : Nat) (i : Int), i = n → i < D 0 → i ≠ r → shp (addD D r nm ty ct) i = shp D i := by
  intro n
  induction n using Nat.strongRecOn with
  | ind n ihn =>
    intro i hin h1 hne
    have hn8 := (hD.2 i (by omega) h1).2.1
    have hty := (hD.2 i (by omega) h1).2.2.1
    obtain ⟨a1, a2, a3⟩ := addD_out (nm := nm) (ty := ty) (ct := ct) hr.1 hn (by omega : 0 ≤ i) hne
    rw [shp_eq (D := D) (by omega) fun f f0 f1 => (hty f f0 f1).2.1, shp_eq (D := addD D r nm ty ct) (by omega) (add_ty hD hr hn ht (by omega) h1), a1, a2]
    refine gN_congr _ fun k hk => ?_
    have hz := a3 k (by omega) (by omega)
    refine ⟨by unfold dFd; rw [hz.1, hz.2.1, hz.2.2], fun h100 => ?_⟩
    have hk2 : dFd (addD D r nm ty ct) i k = dFd D i k := by unfold dFd; rw [hz.1, hz.2.1, hz.2.2]
    rw [hk2] at h100 ⊢
    have hin2 := okT_in (hty k (by omega) (by omega)).2.1 h100
    refine ihn (dTy D i k - 100).toNat (by omega) _ (by show dTy D i k - 100 = _; omega) (by show dTy D i k - 100 < _; omega) fun hq => hu (.inl ⟨i, by omega, h1, k, by omega, by omega, ?_⟩)
    have hq2 : dTy D i k - 100 = r := hq
    omega
theorem add_shp_at {D : Int → Int} {r nm ty ct : Int} (hD : okD D) (hr : hasRc D r) (hn : 0 ≤ dN D r ∧ dN D r < 8) (ht : okT D r ty) (hu : ¬ usedR D r) :
    gN (shp (addD D r nm ty ct)) (dP (addD D r nm ty ct) r) (dFd (addD D r nm ty ct) r) (dN D r).toNat = shp D r ∧ shp (addD D r nm ty ct) r = plc (shp D) (dP D r) nm ty ct (shp D r) := by
  have hr0 := hr.1
  have hr1 := hr.2
  have hty := (hD.2 r hr.1 hr.2).2.2.1
  obtain ⟨a1, a2, a3, a4, a5, a6⟩ := addD_at (nm := nm) (ty := ty) (ct := ct) hn
  have e1 : gN (shp (addD D r nm ty ct)) (dP (addD D r nm ty ct) r) (dFd (addD D r nm ty ct) r) (dN D r).toNat = shp D r := by
    rw [shp_eq (D := D) hr0 fun f f0 f1 => (hty f f0 f1).2.1, a1]
    refine gN_congr _ fun k hk => ?_
    have hz := a3 k (by omega) (by omega)
    have hk2 : dFd (addD D r nm ty ct) r k = dFd D r k := by unfold dFd; rw [hz.1, hz.2.1, hz.2.2]
    refine ⟨hk2, fun h100 => ?_⟩
    rw [hk2] at h100 ⊢
    have hin2 := okT_in (hty k (by omega) (by omega)).2.1 h100
    exact add_shp_ne hD hr hn ht hu (dTy D r k - 100).toNat _ (by show dTy D r k - 100 = _; omega) (by show dTy D r k - 100 < _; omega) (by show dTy D r k - 100 ≠ _; omega)
  refine ⟨e1, ?_⟩
  rw [shp_eq (D := addD D r nm ty ct) hr0 (add_ty hD hr hn ht hr0 hr1), a2, show (dN D r + 1).toNat = (dN D r).toNat + 1 by omega]
  show plc (shp (addD D r nm ty ct)) (dP (addD D r nm ty ct) r) (dNm (addD D r nm ty ct) r ((dN D r).toNat : Nat)) (dTy (addD D r nm ty ct) r ((dN D r).toNat : Nat)) (dCt (addD D r nm ty ct) r ((dN D r).toNat : Nat)) (gN (shp (addD D r nm ty ct)) (dP (addD D r nm ty ct) r) (dFd (addD D r nm ty ct) r) (dN D r).toNat) = _
  rw [e1, Int.toNat_of_nonneg hn.1, a1, a4, a5, a6]
  refine plc_congr fun h100 => ?_
  have hin2 := okT_in ht h100
  exact add_shp_ne hD hr hn ht hu (ty - 100).toNat _ (by omega) (by omega) (by omega)

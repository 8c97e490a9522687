/-! ===== a new table's row is in order ===== -/
theorem room_apart {D : Int → Int} {bs by_ u : Int} (hA : okA D) (hb : bs ≤ 1024) (h1 : 1 ≤ by_) (he : bs + by_ ≤ endC D bs 3) (hu : isLv D u) : tBs D u + tBy D u ≤ bs ∨ bs + by_ ≤ tBs D u := by
  have hy := tBy_pos hA hu
  have u0 := hu.1
  have u1 := hu.2.1
  refine Classical.byContradiction fun hn => ?_
  have hx : ¬ preT D (max bs (tBs D u)) 3 := free_no (b := bs) (by omega) (by omega)
  refine hx ((preT_iff 3).mpr ⟨u.toNat, by omega, ?_⟩)
  rw [Int.toNat_of_nonneg u0]
  exact ⟨hu.2.2, by omega, by omega⟩
theorem newT_okA {D D' : Int → Int} {t r nr ly od bs : Int} (hA : okA D) (ht : 0 ≤ t ∧ t < 3) (hag : agR D D') (hkeep : ∀ u, 0 ≤ u → u < 3 → u ≠ t → ∀ k, 0 ≤ k → k < 6 → D' (157 + 6 * u + k) = D (157 + 6 * u + k)) (hB : okB D')
    (hv : tRc D' t = r ∧ tNr D' t = nr ∧ tLy D' t = ly ∧ tOr D' t = od ∧ tBs D' t = bs ∧ tBy D' t = bFor (shp D r) nr ly) (hr : hasRc D r) (hd : 0 < dN D r) (h1 : 1 ≤ nr ∧ nr ≤ 12) (h2 : 0 ≤ ly ∧ ly ≤ 8) (h3 : 0 ≤ od ∧ od ≤ 1) (h4 : 0 ≤ bs ∧ bs % 16 = 0) (h5 : bs ≤ 1024) (h6 : 1 ≤ bFor (shp D r) nr ly) (h7 : bs + bFor (shp D r) nr ly ≤ endC D bs 3) : okA D' := by
  have hA0 := hA
  obtain ⟨o1, o2, o3, o4⟩ := hA
  obtain ⟨v1, v2, v3, v4, v5, v6⟩ := hv
  have e0 : D' 0 = D 0 := hag 0 (by omega) (by omega)
  have hE := endC_b (D := D) h5 3
  have hD0 := o1.1
  have hacc : ∀ u, 0 ≤ u → u < 3 → u ≠ t → tRc D' u = tRc D u ∧ tNr D' u = tNr D u ∧ tLy D' u = tLy D u ∧ tOr D' u = tOr D u ∧ tBs D' u = tBs D u ∧ tBy D' u = tBy D u := fun u u0 u1 hut =>
    ⟨by have := hkeep u u0 u1 hut 0 (by omega) (by omega); rw [Int.add_zero] at this; exact this, hkeep u u0 u1 hut 1 (by omega) (by omega), hkeep u u0 u1 hut 2 (by omega) (by omega), hkeep u u0 u1 hut 3 (by omega) (by omega), hkeep u u0 u1 hut 4 (by omega) (by omega), hkeep u u0 u1 hut 5 (by omega) (by omega)⟩
  have hone : ∀ w, 0 ≤ w → w < 3 → w ≠ t → tRc D' w ≠ -1 → (tBs D' t + tBy D' t ≤ tBs D' w ∨ tBs D' w + tBy D' w ≤ tBs D' t) := fun w w0 w1 hwt hw => by
    obtain ⟨b1, b2, b3, b4, b5, b6⟩ := hacc w w0 w1 hwt
    rw [v5, v6, b5, b6]
    have hz := room_apart hA0 h5 h6 h7 (u := w) ⟨w0, w1, by rw [← b1]; exact hw⟩
    omega
  refine ⟨agR_okD o1 hag, hB, fun u u0 u1 => ?_, fun u w u0 u1 w0 w1 huw hu hw => ?_⟩
  · by_cases hut : u = t
    · right
      rw [hut]
      have hz := agR_rec hag (r := r) hr.1 (by have := hr.2; omega)
      unfold okTab tG
      rw [v1, v2, v3, v4, v5, v6, e0, hz.2.1, agR_shp o1 hag hr.1 hr.2]
      exact ⟨⟨hr.1, hr.2⟩, hd, h1, h2, h3, h4, rfl, by omega⟩
    · obtain ⟨a1, a2, a3, a4, a5, a6⟩ := hacc u u0 u1 hut
      rcases o3 u u0 u1 with hq | hq
      · exact .inl (a1.trans hq)
      · obtain ⟨k1, k2, k3, k4, k5, k6, k7, k8⟩ := hq
        right
        have hz := agR_rec hag (r := tRc D u) k1.1 (by omega)
        unfold okTab tG
        rw [a1, a2, a3, a4, a5, a6, e0, hz.2.1, agR_shp o1 hag k1.1 k1.2]
        exact ⟨k1, k2, k3, k4, k5, k6, k7, k8⟩
  · by_cases hut : u = t
    · rw [hut]; exact hone w w0 w1 (by omega) hw
    · by_cases hwt : w = t
      · rw [hwt]
        have hz := hone u u0 u1 hut hu
        omega
      · obtain ⟨a1, a2, a3, a4, a5, a6⟩ := hacc u u0 u1 hut
        obtain ⟨b1, b2, b3, b4, b5, b6⟩ := hacc w w0 w1 hwt
        rw [a5, a6, b5, b6]
        exact o4 u w u0 u1 w0 w1 huw (by rw [← a1]; exact hu) (by rw [← b1]; exact hw)

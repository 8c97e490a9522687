/-! ===== the row of a new table ===== -/
theorem clrD_B {D : Int → Int} {b : Int} (h : okB D) : ∀ n : Nat, okB (clrD D b n) := by
  intro n
  induction n with
  | zero => exact h
  | succ n ihn =>
    intro j q0 q1
    show 0 ≤ upD (clrD D b n) (175 + b + n) 0 (175 + j) ∧ upD (clrD D b n) (175 + b + n) 0 (175 + j) ≤ 255
    unfold upD
    split
    · omega
    · exact ihn j q0 q1
theorem putT_ne {D : Int → Int} {t r nr ly od bs by_ j : Int} (h : j < 157 + 6 * t ∨ 157 + 6 * t + 5 < j) : putT D t r nr ly od bs by_ j = D j := by
  unfold putT
  rw [upD_ne (by omega), upD_ne (by omega), upD_ne (by omega), upD_ne (by omega), upD_ne (by omega), upD_ne (by omega)]
theorem newTD_okA {D : Int → Int} {t r nr ly od bs : Int} (hA : okA D) (ht : 0 ≤ t ∧ t < 3) (hr : hasRc D r) (hd : 0 < dN D r) (h1 : 1 ≤ nr ∧ nr ≤ 12) (h2 : 0 ≤ ly ∧ ly ≤ 8) (h3 : 0 ≤ od ∧ od ≤ 1) (h4 : 0 ≤ bs ∧ bs % 16 = 0) (h5 : bs ≤ 1024) (h6 : 1 ≤ bFor (shp D r) nr ly) (h7 : bs + bFor (shp D r) nr ly ≤ endC D bs 3) : okA (newTD D t r nr ly od bs) := by
  have hout : ∀ j, j < 175 → newTD D t r nr ly od bs j = putT D t r nr ly od bs (bFor (shp D r) nr ly) j := fun j hj => clrD_out _ (.inl (by omega))
  refine newT_okA hA ht (fun j q0 q1 => by rw [hout j (by omega)]; exact putT_ne (.inl (by omega))) (fun u u0 u1 hut k k0 k1 => by rw [hout _ (by omega)]; exact putT_ne (by omega)) (clrD_B (fun j q0 q1 => by rw [putT_ne (by omega)]; exact hA.2.1 j q0 q1) _) ⟨?_, ?_, ?_, ?_, ?_, ?_⟩ hr hd h1 h2 h3 h4 h5 h6 h7
  · show newTD D t r nr ly od bs (157 + 6 * t) = r
    rw [hout _ (by omega)]; unfold putT
    rw [upD_ne (by omega), upD_ne (by omega), upD_ne (by omega), upD_ne (by omega), upD_ne (by omega), upD_eq]
  · show newTD D t r nr ly od bs (157 + 6 * t + 1) = nr
    rw [hout _ (by omega)]; unfold putT
    rw [upD_ne (by omega), upD_ne (by omega), upD_ne (by omega), upD_ne (by omega), upD_eq]
  · show newTD D t r nr ly od bs (157 + 6 * t + 2) = ly
    rw [hout _ (by omega)]; unfold putT
    rw [upD_ne (by omega), upD_ne (by omega), upD_ne (by omega), upD_eq]
  · show newTD D t r nr ly od bs (157 + 6 * t + 3) = od
    rw [hout _ (by omega)]; unfold putT
    rw [upD_ne (by omega), upD_ne (by omega), upD_eq]
  · show newTD D t r nr ly od bs (157 + 6 * t + 4) = bs
    rw [hout _ (by omega)]; unfold putT
    rw [upD_ne (by omega), upD_eq]
  · show newTD D t r nr ly od bs (157 + 6 * t + 5) = _
    rw [hout _ (by omega)]; unfold putT
    rw [upD_eq]

/-! ===== the room that is found ===== -/
theorem roomD_in {D : Int → Int} {need : Int} : ∀ (n : Nat) (b : Int), 0 ≤ b → b % 16 = 0 → b + 16 * n = 1024 → roomD D need n b = -1 ∨ (0 ≤ roomD D need n b ∧ roomD D need n b % 16 = 0 ∧ roomD D need n b < 1024 ∧ roomD D need n b + need ≤ endC D (roomD D need n b) 3) := by
  intro n
  induction n with
  | zero => intro b h0 h1 h2; exact .inl rfl
  | succ n ihn =>
    intro b h0 h1 h2
    by_cases hf : freeD D b < need
    · rw [show roomD D need (n + 1) b = roomD D need n (b + 16) from if_pos hf]
      exact ihn (b + 16) (by omega) (by omega) (by omega)
    · rw [show roomD D need (n + 1) b = b from if_neg hf]
      unfold freeD at hf
      exact .inr ⟨h0, h1, by omega, by omega⟩
theorem bFor_pos {D : Int → Int} {r nr ly : Int} (hA : okA D) (hr : hasRc D r) (hd : 0 < dN D r) (h1 : 1 ≤ nr ∧ nr ≤ 12) (h2 : 0 ≤ ly ∧ ly ≤ 8) : 1 ≤ bFor (shp D r) nr ly := by
  have hG := okG_shp hA.1 hr.1 hr.2
  have hl := (shp_OK hA.1 hr.1 hr.2).2.1 hd
  have hdi := dist_in (row := 0) (k := 0) hG h2 h1 (by omega) (by omega) (by omega)
  have hz := zp8_b (wd_8 (gV (shp D r)) 0)
  omega

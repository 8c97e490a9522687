def tRc (D : Int → Int) (t : Int) : Int := D (157 + 6 * t)
/-! ===== tables of the row; leaves that are read and written ===== -/
def tNr (D : Int → Int) (t : Int) : Int := D (157 + 6 * t + 1)
def tLy (D : Int → Int) (t : Int) : Int := D (157 + 6 * t + 2)
def tOr (D : Int → Int) (t : Int) : Int := D (157 + 6 * t + 3)
def tBs (D : Int → Int) (t : Int) : Int := D (157 + 6 * t + 4)
def tBy (D : Int → Int) (t : Int) : Int := D (157 + 6 * t + 5)
def tG (D : Int → Int) (t : Int) : ySh := shp D (tRc D t)
def okTab (D : Int → Int) (t : Int) : Prop := (0 ≤ tRc D t ∧ tRc D t < D 0) ∧ 0 < dN D (tRc D t) ∧ (1 ≤ tNr D t ∧ tNr D t ≤ 12) ∧ (0 ≤ tLy D t ∧ tLy D t ≤ 8) ∧ (0 ≤ tOr D t ∧ tOr D t ≤ 1) ∧ (0 ≤ tBs D t ∧ tBs D t % 16 = 0) ∧ tBy D t = bFor (tG D t) (tNr D t) (tLy D t) ∧ tBs D t + tBy D t ≤ 1024
def adr (D : Int → Int) (t row : Int) (k : Nat) : Int := tBs D t + dist (tG D t) (tNr D t) (tLy D t) row k
/-- the value of a leaf, and the row behind a value that is written -/
def valD (D : Int → Int) (t row : Int) (k : Nat) : Int64 := valO (lT ((gV (tG D t)).getD k dl)) (vBt (tG D t) (tLy D t) k) (rawV D (adr D t row k) (wd (gV (tG D t)) k) (tOr D t))
def wrD (D : Int → Int) (t row : Int) (k : Nat) (v : Int64) : Int → Int := putV D (adr D t row k) (wd (gV (tG D t)) k) (tOr D t) (stoO (lT ((gV (tG D t)).getD k dl)) (vBt (tG D t) (tLy D t) k) (rawV D (adr D t row k) (wd (gV (tG D t)) k) (tOr D t)) v)
theorem rawV_2 {D : Int → Int} {a ord : Int} (hB : okB D) (ha : 0 ≤ a ∧ a + 2 ≤ 1024) : 0 ≤ (rawV D a 2 ord).toInt := by
  have h0 : rawV D a 2 ord = zshlL (zshlL 0 8 ||| zi2l (D (175 + bAt a 2 ord 0))) 8 ||| zi2l (D (175 + bAt a 2 ord 1)) := rfl
  have hb0 := hB (bAt a 2 ord 0) (by unfold bAt; split <;> omega) (by unfold bAt; split <;> omega)
  have hb1 := hB (bAt a 2 ord 1) (by unfold bAt; split <;> omega) (by unfold bAt; split <;> omega)
  have e0 : (0 : Int64).toInt = 0 := by decide
  have h1 := zshl8_or (x := 0) (b := D (175 + bAt a 2 ord 0)) (by rw [e0]; exact ⟨by omega, by omega⟩) ⟨hb0.1, by omega⟩
  rw [e0] at h1
  have h2 := zshl8_or (x := zshlL 0 8 ||| zi2l (D (175 + bAt a 2 ord 0))) (b := D (175 + bAt a 2 ord 1)) (by rw [h1]; exact ⟨by omega, by omega⟩) ⟨hb1.1, by omega⟩
  rw [h0, h2, h1]
  omega
theorem vBt_b {G : ySh} {lay : Int} {k : Nat} (hG : okG G) (hk : k < (gV G).length) : 0 ≤ vBt G lay k ∧ vBt G lay k ≤ 16 := by
  have h2 := hG.2.2 _ (getD_mem (d := dl) hk)
  have h3 := zwd_b (lT ((gV G).getD k dl))
  unfold vBt
  split
  · have := h2.2.2.1; omega
  · omega

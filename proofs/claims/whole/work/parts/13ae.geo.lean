/-! ===== where leaves lie in a table ===== -/
def wd (V : List yLf) (k : Nat) : Int := zby (lT (V.getD k dl))
/-- the end of the first k columns of m values each, and where column k begins -/
def clE (V : List yLf) (m : Int) : Nat → Int
  | 0 => 0
  | k + 1 => zup (clE V m k) (wd V k) + m * wd V k
def clS (V : List yLf) (m : Int) (k : Nat) : Int := zup (clE V m k) (wd V k)
def blk (V : List yLf) (m : Int) : Int := zup (clE V m V.length) 8
def vBr (lay rows : Int) : Int := if lay = 0 then 1 else if lay = 1 then rows else lay
def vSt (G : ySh) (lay rows : Int) (k : Nat) : Int := if lay = 0 then lA ((gV G).getD k dl) else clS (gV G) (vBr lay rows) k
def vBb (G : ySh) (lay rows : Int) : Int := if lay = 0 then gS G else blk (gV G) (vBr lay rows)
def vBt (G : ySh) (lay : Int) (k : Nat) : Int := if lay = 0 then lB ((gV G).getD k dl) else 0
def bFor (G : ySh) (rows lay : Int) : Int := if lay = 0 then zup (rows * gS G) 8 else if lay = 1 then blk (gV G) rows else (rows + lay - 1) / lay * blk (gV G) lay
def dist (G : ySh) (rows lay row : Int) (k : Nat) : Int := row / vBr lay rows * vBb G lay rows + vSt G lay rows k + row % vBr lay rows * wd (gV G) k
/-- a shape whose numbers are small -/
def okG (G : ySh) : Prop := gOK G ∧ (gV G).length ≤ 40 ∧ ∀ l ∈ gV G, okL 6 (gE G) l
theorem okG_shp {D : Int → Int} (hD : okD D) {r : Int} (h0 : 0 ≤ r) (h1 : r < D 0) : okG (shp D r) := ⟨(shp_OK hD h0 h1).1, (shp_OK hD h0 h1).2.2, shp_L hD h0 h1⟩
theorem wd_8 (V : List yLf) (k : Nat) : zp8 (wd V k) := zby_8 _
theorem clE_b (V : List yLf) {m : Int} (hm : 0 ≤ m ∧ m ≤ 12) : ∀ k : Nat, 0 ≤ clE V m k ∧ clE V m k ≤ 104 * k := by
  intro k
  induction k with
  | zero => exact ⟨by show (0 : Int) ≤ 0; omega, by show (0 : Int) ≤ 104 * 0; omega⟩
  | succ k ihk =>
    have hb := zup_b (e := clE V m k) (wd_8 V k)
    have hw := zp8_b (wd_8 V k)
    have h1 : 0 ≤ m * wd V k := Int.mul_nonneg hm.1 (by omega)
    have h2 : m * wd V k ≤ 12 * 8 := Int.mul_le_mul hm.2 hw.2 (by omega) (by omega)
    have h3 : clE V m (k + 1) = zup (clE V m k) (wd V k) + m * wd V k := rfl
    omega
theorem clE_mono (V : List yLf) {m : Int} (hm : 0 ≤ m) (j : Nat) : ∀ k : Nat, j ≤ k → clE V m j ≤ clE V m k := by
  intro k
  induction k with
  | zero => intro h; rw [show j = 0 by omega]; exact Int.le_refl _
  | succ k ihk =>
    intro h
    by_cases hc : j = k + 1
    · rw [hc]; exact Int.le_refl _
    · have hb := zup_b (e := clE V m k) (wd_8 V k)
      have hw := zp8_b (wd_8 V k)
      have h1 : 0 ≤ m * wd V k := Int.mul_nonneg hm (by omega)
      have h3 : clE V m (k + 1) = zup (clE V m k) (wd V k) + m * wd V k := rfl
      have := ihk (by omega)
      omega
theorem zup8_b (e : Int) : e ≤ zup e 8 ∧ zup e 8 < e + 8 ∧ zup e 8 % 8 = 0 := by unfold zup; omega
theorem zup8_id {e : Int} (h : e % 8 = 0) : zup e 8 = e := by unfold zup; omega
theorem blk_b (V : List yLf) {m : Int} (hm : 0 ≤ m ∧ m ≤ 12) (hV : V.length ≤ 40) : 0 ≤ blk V m ∧ blk V m ≤ 4168 ∧ blk V m % 8 = 0 := by
  have h1 := clE_b V hm V.length
  have h2 := zup8_b (clE V m V.length)
  unfold blk
  omega
theorem gS_b {G : ySh} (h : okG G) : 0 ≤ gS G ∧ gS G ≤ 320 ∧ gE G ≤ gS G := by
  have h1 := zup_8 h.1.2.1 h.1.1.2
  have h2 := zup_b (e := gE G) h.1.2.1
  have h3 := h.1.1
  have h4 := h.2.1
  unfold gS
  omega
theorem vBr_b {lay rows : Int} (hl : 0 ≤ lay ∧ lay ≤ 8) (hr : 1 ≤ rows ∧ rows ≤ 12) : 1 ≤ vBr lay rows ∧ vBr lay rows ≤ 12 := by
  unfold vBr
  split
  · omega
  · split <;> omega
theorem vBb_b {G : ySh} {lay rows : Int} (hG : okG G) (hl : 0 ≤ lay ∧ lay ≤ 8) (hr : 1 ≤ rows ∧ rows ≤ 12) : 0 ≤ vBb G lay rows ∧ vBb G lay rows ≤ 4168 := by
  have h1 := vBr_b hl hr
  unfold vBb
  split
  · have := gS_b hG; omega
  · have := blk_b (gV G) (m := vBr lay rows) ⟨by omega, by omega⟩ hG.2.1; omega
theorem vSt_b {G : ySh} {lay rows : Int} {k : Nat} (hG : okG G) (hl : 0 ≤ lay ∧ lay ≤ 8) (hr : 1 ≤ rows ∧ rows ≤ 12) (hk : k < (gV G).length) : 0 ≤ vSt G lay rows k ∧ vSt G lay rows k ≤ 4168 := by
  have h1 := vBr_b hl hr
  unfold vSt
  split
  · have h2 := hG.2.2 _ (getD_mem (d := dl) hk)
    have h3 := gS_b hG
    have h4 := zp8_b (zby_8 (lT ((gV G).getD k dl)))
    exact ⟨h2.2.1.1, by have := h2.2.1.2; omega⟩
  · have h2 := clE_b (gV G) (m := vBr lay rows) ⟨by omega, by omega⟩ k
    have h3 := zup_b (e := clE (gV G) (vBr lay rows) k) (wd_8 (gV G) k)
    have h4 := zp8_b (wd_8 (gV G) k)
    have h5 := hG.2.1
    unfold clS
    omega
/-- how many blocks -/
theorem rows_ge {row rows m : Int} (hm : 1 ≤ m) (h : row < rows) : row / m + 1 ≤ (rows + m - 1) / m := by
  have h1 : row / m + 1 = (row + m) / m := by
    have := Int.add_mul_ediv_right row 1 (by omega : m ≠ 0)
    rw [Int.one_mul] at this
    exact this.symm
  rw [h1]
  exact Int.ediv_le_ediv (by omega) (by omega)
theorem bFor_eq {G : ySh} {rows lay : Int} (hG : okG G) (hl : 0 ≤ lay ∧ lay ≤ 8) (hr : 1 ≤ rows ∧ rows ≤ 12) : zup ((rows + vBr lay rows - 1) / vBr lay rows * vBb G lay rows) 8 = bFor G rows lay := by
  unfold vBr vBb bFor
  by_cases h0 : lay = 0
  · subst h0
    simp only [if_true]
    rw [show rows + 1 - 1 = rows by omega, Int.ediv_one]
  · simp only [if_neg h0]
    have hB := fun (m : Int) (h : 0 ≤ m ∧ m ≤ 12) => (blk_b (gV G) (m := m) h hG.2.1).2.2
    by_cases h1 : lay = 1
    · simp only [if_pos h1]
      have h2 : (rows + rows - 1) / rows = 1 := by
        have := Int.add_mul_ediv_right (rows - 1) 1 (by omega : rows ≠ 0)
        have h3 : (rows - 1) / rows = 0 := Int.ediv_eq_zero_of_lt (by omega) (by omega)
        rw [Int.one_mul, h3] at this
        rw [show rows + rows - 1 = rows - 1 + rows by omega]
        omega
      unfold vBr
      simp only [if_neg h0, if_pos h1]
      rw [h2, Int.one_mul]
      exact zup8_id (hB rows ⟨by omega, by omega⟩)
    · simp only [if_neg h1]
      unfold vBr
      simp only [if_neg h0, if_neg h1]
      refine zup8_id ?_
      have := hB lay ⟨by omega, by omega⟩
      rw [Int.mul_emod, this, Int.mul_zero]
      rfl
theorem nblk_b {rows m : Int} (hm : 1 ≤ m) (hr : 1 ≤ rows ∧ rows ≤ 12) : 1 ≤ (rows + m - 1) / m ∧ (rows + m - 1) / m ≤ 12 := by
  constructor
  · have := rows_ge (row := 0) hm (by omega : (0 : Int) < rows)
    rw [Int.zero_ediv] at this
    omega
  · have h1 : (rows + m - 1) / m ≤ (12 * m) / m := Int.ediv_le_ediv (by omega) (by
      have : 12 * m = 11 * m + m := by omega
      have h2 : rows - 1 ≤ 11 * m := by omega
      omega)
    rw [Int.mul_ediv_cancel _ (by omega)] at h1
    exact h1
theorem bFor_b {G : ySh} {rows lay : Int} (hG : okG G) (hl : 0 ≤ lay ∧ lay ≤ 8) (hr : 1 ≤ rows ∧ rows ≤ 12) : 0 ≤ (rows + vBr lay rows - 1) / vBr lay rows * vBb G lay rows ∧ (rows + vBr lay rows - 1) / vBr lay rows * vBb G lay rows ≤ 50016 := by
  have h1 := vBr_b hl hr
  have h2 := vBb_b hG hl hr
  have h3 := nblk_b h1.1 hr
  exact ⟨Int.mul_nonneg (by omega) h2.1, Int.le_trans (Int.mul_le_mul h3.2 h2.2 h2.1 (by omega)) (by omega)⟩
/-- a leaf lies in its table -/
theorem dist_in {G : ySh} {rows lay row : Int} {k : Nat} (hG : okG G) (hl : 0 ≤ lay ∧ lay ≤ 8) (hr : 1 ≤ rows ∧ rows ≤ 12) (hk : k < (gV G).length) (h0 : 0 ≤ row) (h1 : row < rows) : 0 ≤ dist G rows lay row k ∧ dist G rows lay row k + wd (gV G) k ≤ bFor G rows lay := by
  have b1 := vBr_b hl hr
  have b2 := vBb_b hG hl hr
  have b3 := vSt_b hG hl hr hk
  have b4 := zp8_b (wd_8 (gV G) k)
  have q1 : 0 ≤ row / vBr lay rows := Int.ediv_nonneg h0 (by omega)
  have q2 : 0 ≤ row % vBr lay rows := Int.emod_nonneg _ (by omega)
  have q3 : row % vBr lay rows < vBr lay rows := Int.emod_lt_of_pos _ (by omega)
  have m1 : 0 ≤ row / vBr lay rows * vBb G lay rows := Int.mul_nonneg q1 b2.1
  have m2 : 0 ≤ row % vBr lay rows * wd (gV G) k := Int.mul_nonneg q2 (by omega)
  have m3 : (row / vBr lay rows + 1) * vBb G lay rows ≤ (rows + vBr lay rows - 1) / vBr lay rows * vBb G lay rows := Int.mul_le_mul_of_nonneg_right (rows_ge b1.1 h1) b2.1
  rw [Int.add_mul, Int.one_mul] at m3
  have m4 : (row % vBr lay rows + 1) * wd (gV G) k ≤ vBr lay rows * wd (gV G) k := Int.mul_le_mul_of_nonneg_right (by omega) (by omega)
  rw [Int.add_mul, Int.one_mul] at m4
  have hz := (zup8_b ((rows + vBr lay rows - 1) / vBr lay rows * vBb G lay rows)).1
  rw [bFor_eq hG hl hr] at hz
  have hlast : vSt G lay rows k + vBr lay rows * wd (gV G) k ≤ vBb G lay rows := by
    unfold vSt vBb
    by_cases hc : lay = 0
    · simp only [if_pos hc]
      have h2 := (hG.2.2 _ (getD_mem (d := dl) hk)).2.1.2
      have h3 := gS_b hG
      have h4 : vBr lay rows = 1 := by unfold vBr; rw [if_pos hc]
      rw [h4]
      unfold wd
      omega
    · simp only [if_neg hc]
      have h2 : clE (gV G) (vBr lay rows) (k + 1) = clS (gV G) (vBr lay rows) k + vBr lay rows * wd (gV G) k := rfl
      have h3 := clE_mono (gV G) (m := vBr lay rows) (by omega) (k + 1) (gV G).length (by omega)
      have h4 := (zup8_b (clE (gV G) (vBr lay rows) (gV G).length)).1
      unfold blk
      omega
  unfold dist
  omega

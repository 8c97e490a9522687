/-! ===== the reference finds a leaf ===== -/
section MGEO
variable {S : Option (Nat × (Nat → Int32))} {Q : Option Value ⊕ Nat → zSt → Prop}
theorem C_column_6 {r m : Int} {V : List yLf} {lf_ : Nat} (hr : 0 ≤ r ∧ r < 6) (hm : 0 ≤ m ∧ m ≤ 12) (hV : V.length ≤ 40) {s : zSt} (hv : mLv s r V) (n : Nat) : ∀ k : Nat, k + n = V.length → k ≤ lf_ → lf_ ≤ 40 → (lf_ < V.length → Q (rI (clS V m lf_)) s) → (V.length ≤ lf_ → Q (rI (clE V m V.length)) s) →
    wp S 232 6 [(0, rf 252), (1, iv r), (2, iv m), (3, iv lf_), (4, iv (clE V m k)), (5, iv k)] [] s Q := by
  induction n with
  | zero =>
    intro k hk hkl hl40 _ h2
    have h0 := hv.1
    refine v_Model_column_6 ⟨hr, ⟨by omega, by omega⟩, fun _ => ?_, fun hc => by omega⟩
    rw [show k = V.length by omega]
    exact h2 (by omega)
  | succ n ihn =>
    intro k hk hkl hl40 h1 h2
    have h0 := hv.1
    have hslot := (hv.2 k (by omega)).1
    have hb := clE_b V hm k
    have hw := zp8_b (wd_8 V k)
    refine v_Model_column_6 ⟨hr, ⟨by omega, by omega⟩, fun hc => by omega, fun _ => ⟨⟨by omega, by omega⟩, ?_⟩⟩
    rw [hslot]
    have hwk : zby (lT (V.getD k dl)) = wd V k := rfl
    rw [hwk]
    refine ⟨⟨by omega, by omega⟩, ⟨by omega, by omega⟩, by omega, by omega, ⟨by omega, by omega⟩, fun hc => ?_, fun hc => ?_⟩
    · exact ihn (k + 1) (by omega) (by omega) hl40 h1 h2
    · have hkl2 : k = lf_ := by omega
      subst hkl2
      exact h1 (by omega)
theorem C_column {r m : Int} {V : List yLf} {k : Nat} (hr : 0 ≤ r ∧ r < 6) (hm : 0 ≤ m ∧ m ≤ 12) (hV : V.length ≤ 40) {s : zSt} (hv : mLv s r V) (hk : k < V.length) (h1 : Q (rI (clS V m k)) s) : wp S 232 0 [(0, rf 252), (1, iv r), (2, iv m), (3, iv k)] [] s Q :=
  v_Model_column_0 (C_column_6 hr hm hV hv V.length 0 (by omega) (by omega) (by omega) (fun _ => h1) fun hc => by omega)
theorem C_block {r m : Int} {V : List yLf} (hr : 0 ≤ r ∧ r < 6) (hm : 0 ≤ m ∧ m ≤ 12) (hV : V.length ≤ 40) {s : zSt} (hv : mLv s r V) (h1 : Q (rI (blk V m)) s) : wp S 231 0 [(0, rf 252), (1, iv r), (2, iv m)] [] s Q := by
  have hb := clE_b V hm V.length
  refine v_Model_block_0 (v_Model_column_0 ?_)
  refine C_column_6 (lf_ := 40) hr hm hV hv V.length 0 (by omega) (by omega) (by omega) (fun hc => by omega) fun _ => zkI_I ⟨by omega, by omega⟩ ⟨⟨by omega, by omega⟩, by omega, h1⟩
theorem C_bytesFor {D : Int → Int} {r rows lay : Int} {s : zSt} (hr : 0 ≤ r ∧ r < 6) (hG : okG (shp D r)) (hl : 0 ≤ lay ∧ lay ≤ 8) (hrw : 1 ≤ rows ∧ rows ≤ 12) (hR : mRc s D r) (h1 : Q (rI (bFor (shp D r) rows lay)) s) : wp S 230 0 [(0, rf 252), (1, iv r), (2, iv rows), (3, iv lay)] [] s Q := by
  obtain ⟨h2, -, h3⟩ := hR
  have hg := gS_b hG
  have hmul : 0 ≤ rows * gS (shp D r) ∧ rows * gS (shp D r) ≤ 12 * 320 := ⟨Int.mul_nonneg (by omega) hg.1, Int.mul_le_mul hrw.2 hg.2.1 hg.1 (by omega)⟩
  unfold bFor at h1
  refine v_Model_bytesFor_0 ⟨⟨by omega, by omega⟩, fun hc => ⟨fun hc2 => ⟨⟨by omega, by omega⟩, by omega, by omega, C_block hr ⟨by omega, by omega⟩ hG.2.1 h3 ?_⟩, fun hc2 => C_block hr ⟨by omega, by omega⟩ hG.2.1 h3 ?_⟩, fun hc => ⟨hr, ?_⟩⟩
  · rw [if_neg hc, if_neg hc2] at h1
    have hb := blk_b (gV (shp D r)) (m := lay) ⟨by omega, by omega⟩ hG.2.1
    exact zkI_I ⟨by omega, by omega⟩ h1
  · rw [if_neg hc, if_pos hc2] at h1
    have hb := blk_b (gV (shp D r)) (m := rows) ⟨by omega, by omega⟩ hG.2.1
    exact zkI_I ⟨by omega, by omega⟩ h1
  · rw [if_pos hc] at h1
    rw [h2]
    exact ⟨⟨by omega, by omega⟩, by omega, h1⟩
theorem C_distance {D : Int → Int} {r rows lay row : Int} {k : Nat} {s : zSt} (hr : 0 ≤ r ∧ r < 6) (hG : okG (shp D r)) (hl : 0 ≤ lay ∧ lay ≤ 8) (hrw : 1 ≤ rows ∧ rows ≤ 12) (hk : k < (gV (shp D r)).length) (h0 : 0 ≤ row ∧ row < rows) (hR : mRc s D r) (h1 : Q (rI (dist (shp D r) rows lay row k)) s) : wp S 246 0 [(0, rf 252), (1, iv r), (2, iv rows), (3, iv lay), (4, iv row), (5, iv k)] [] s Q := by
  obtain ⟨h2, -, h3⟩ := hR
  have hV40 := hG.2.1
  have hslot := h3.2 k hk
  have hzb : zby (zI s 259 (40 * r + k)) = wd (gV (shp D r)) k := by rw [hslot.1]; rfl
  have hcb : ∀ m : Int, 0 ≤ m ∧ m ≤ 12 → rng (clS (gV (shp D r)) m k) ∧ rng (blk (gV (shp D r)) m) := fun m hm => by
    have h4 := clE_b (gV (shp D r)) hm k
    have h5 := zup_b (e := clE (gV (shp D r)) m k) (wd_8 (gV (shp D r)) k)
    have h6 := zp8_b (wd_8 (gV (shp D r)) k)
    have h7 := blk_b (gV (shp D r)) hm hV40
    unfold clS
    exact ⟨⟨by omega, by omega⟩, ⟨by omega, by omega⟩⟩
  unfold dist vBr vBb vSt vBr at h1
  refine v_Model_distance_0 ⟨⟨by omega, by omega⟩, fun hc => ⟨fun hc2 => ⟨⟨by omega, by omega⟩, h0.1, by omega, ?_⟩, fun hc2 => ⟨⟨by omega, by omega⟩, ⟨by omega, by omega⟩, h0.1, by omega, ?_⟩⟩, fun hc => ⟨hr, ⟨by omega, by omega⟩, ?_⟩⟩
  · simp only [if_neg hc, if_neg hc2] at h1
    refine C_block hr ⟨by omega, by omega⟩ hV40 h3 (zkI_I (hcb lay ⟨by omega, by omega⟩).2 (C_column hr ⟨by omega, by omega⟩ hV40 h3 hk (zkI_I (hcb lay ⟨by omega, by omega⟩).1 ⟨⟨by omega, by omega⟩, ?_⟩)))
    rw [hzb]
    exact h1
  · simp only [if_neg hc, if_pos hc2] at h1
    refine C_block hr ⟨by omega, by omega⟩ hV40 h3 (zkI_I (hcb rows ⟨by omega, by omega⟩).2 (C_column hr ⟨by omega, by omega⟩ hV40 h3 hk (zkI_I (hcb rows ⟨by omega, by omega⟩).1 ⟨⟨by omega, by omega⟩, ?_⟩)))
    rw [hzb]
    exact h1
  · simp only [if_pos hc] at h1
    rw [h2, hslot.2.1]
    rw [Int.ediv_one, Int.emod_one, Int.zero_mul, Int.add_zero] at h1
    exact h1
end MGEO

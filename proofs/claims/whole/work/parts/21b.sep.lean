/-! ===== leaves of a record lie apart ===== -/
def sepL (l l' : yLf) : Prop := lA l + zby (lT l) ≤ lA l' ∨ lA l' + zby (lT l') ≤ lA l ∨ (lA l = lA l' ∧ (21 ≤ lT l ∧ lT l ≤ 36) ∧ (21 ≤ lT l' ∧ lT l' ≤ 36) ∧ (lB l + (lT l - 20) ≤ lB l' ∨ lB l' + (lT l' - 20) ≤ lB l))
theorem sepL_symm {l l' : yLf} (h : sepL l l') : sepL l' l := by
  rcases h with h | h | ⟨h1, h2, h3, h4⟩
  · exact .inr (.inl h)
  · exact .inl h
  · exact .inr (.inr ⟨h1.symm, h3, h2, h4.symm⟩)
/-- the unit that is still open -/
def opnG (G : ySh) : Prop := 0 < gL G → ∀ l ∈ gV G, lA l + zby (lT l) ≤ gE G - 2 ∨ (lA l = gE G - 2 ∧ (21 ≤ lT l ∧ lT l ≤ 36) ∧ lB l + (lT l - 20) ≤ 16 - gL G)
def sepG (G : ySh) : Prop := (gV G).Pairwise sepL ∧ opnG G
theorem lvOf_in {N : Int → ySh} {nm t c f off bit : Int} {el : Nat} (hN : 100 ≤ t → gOK (N (t - 100)) ∧ ∀ l ∈ gV (N (t - 100)), 0 ≤ lA l ∧ lA l + zby (lT l) ≤ gE (N (t - 100))) : ∀ l ∈ lvOf N nm t c f off bit el, off + el * tyB N t ≤ lA l ∧ lA l + zby (lT l) ≤ off + el * tyB N t + tyB N t := by
  intro l hl
  unfold lvOf at hl
  by_cases h100 : t < 100
  · rw [if_pos h100] at hl
    have hle := List.mem_singleton.mp hl
    subst hle
    have h5 : tyB N t = zby t := by unfold tyB zel; rw [if_pos h100]
    rw [h5]
    show off + el * zby t ≤ off + el * zby t ∧ off + el * zby t + zby t ≤ _
    omega
  · rw [if_neg h100] at hl
    obtain ⟨l0, hl0, hle⟩ := List.mem_map.mp hl
    subst hle
    obtain ⟨g1, g2⟩ := hN (by omega)
    have hz := g2 l0 hl0
    have h5 : tyB N t = gS (N (t - 100)) := by unfold tyB zel; rw [if_neg h100]
    have hy : gE (N (t - 100)) ≤ gS (N (t - 100)) := (zup_b g1.2.1).1
    rw [h5]
    show off + el * gS (N (t - 100)) ≤ off + el * gS (N (t - 100)) + lA l0 ∧ off + el * gS (N (t - 100)) + lA l0 + zby (lT l0) ≤ _
    omega
theorem lvOf_sep {N : Int → ySh} {nm t c f off bit : Int} {el : Nat} (hN : 100 ≤ t → (gV (N (t - 100))).Pairwise sepL) : (lvOf N nm t c f off bit el).Pairwise sepL := by
  unfold lvOf
  by_cases h100 : t < 100
  · rw [if_pos h100]; exact List.pairwise_singleton _ _
  · rw [if_neg h100, List.pairwise_map]
    refine (hN (by omega)).imp fun {a b} hab => ?_
    unfold sepL at hab ⊢
    show (off + el * gS (N (t - 100)) + lA a + zby (lT a) ≤ off + el * gS (N (t - 100)) + lA b) ∨ (off + el * gS (N (t - 100)) + lA b + zby (lT b) ≤ off + el * gS (N (t - 100)) + lA a) ∨ (off + el * gS (N (t - 100)) + lA a = off + el * gS (N (t - 100)) + lA b ∧ (21 ≤ lT a ∧ lT a ≤ 36) ∧ (21 ≤ lT b ∧ lT b ≤ 36) ∧ (lB a + (lT a - 20) ≤ lB b ∨ lB b + (lT b - 20) ≤ lB a))
    rcases hab with h | h | ⟨h1, h2, h3, h4⟩
    · left; omega
    · right; left; omega
    · right; right; exact ⟨by omega, h2, h3, h4⟩
theorem lvsOf_sep {N : Int → ySh} {nm t c f off bit : Int} (hN : 100 ≤ t → (gOK (N (t - 100)) ∧ ∀ l ∈ gV (N (t - 100)), 0 ≤ lA l ∧ lA l + zby (lT l) ≤ gE (N (t - 100))) ∧ (gV (N (t - 100))).Pairwise sepL) (hB : 0 ≤ tyB N t) : ∀ n : Nat, (lvsOf N nm t c f off bit n).Pairwise sepL ∧ ∀ l ∈ lvsOf N nm t c f off bit n, off ≤ lA l ∧ lA l + zby (lT l) ≤ off + n * tyB N t := by
  intro n
  induction n with
  | zero => exact ⟨List.Pairwise.nil, fun l hl => by cases hl⟩
  | succ n ihn =>
    have hin := lvOf_in (nm := nm) (c := c) (f := f) (off := off) (bit := bit) (el := n) fun h => (hN h).1
    have h0 : 0 ≤ (n : Int) * tyB N t := Int.mul_nonneg (Int.natCast_nonneg n) hB
    rw [lvsOf_succ]
    refine ⟨List.pairwise_append.mpr ⟨ihn.1, lvOf_sep fun h => (hN h).2, fun a ha b hb => .inl ?_⟩, fun l hl => ?_⟩
    · have h1 := (ihn.2 a ha).2
      have h2 := (hin b hb).1
      omega
    · rw [Int.natCast_succ, Int.add_mul, Int.one_mul]
      rcases List.mem_append.mp hl with hl | hl
      · have h1 := ihn.2 l hl
        omega
      · have h1 := hin l hl
        omega
theorem plc_sep {N : Int → ySh} {pack nm t c : Int} {G : ySh} {d : Nat} (hG : gOK G) (hV : ∀ l ∈ gV G, okL d (gE G) l) (hS : sepG G) (hN : 100 ≤ t → (gOK (N (t - 100)) ∧ 1 ≤ (gV (N (t - 100))).length) ∧ (∀ l ∈ gV (N (t - 100)), 0 ≤ lA l ∧ lA l + zby (lT l) ≤ gE (N (t - 100))) ∧ (gV (N (t - 100))).Pairwise sepL) (hp : zp8 pack) (ht : (0 ≤ t ∧ t ≤ 7) ∨ (21 ≤ t ∧ t ≤ 36) ∨ 100 ≤ t) (hc : 1 ≤ c ∧ c ≤ 4) (hb : 21 ≤ t → t ≤ 36 → c = 1) : sepG (plc N pack nm t c G) := by
  obtain ⟨t1, t2, t3, t4⟩ := ty_ok (N := N) (t := t) fun h => (hN h).1
  obtain ⟨g1, g2, g3, g4⟩ := hG
  have hzb := zup_b (e := gE G) (zp8_min t1 hp)
  have hall := lvsOf_sep (nm := nm) (c := c) (f := ((gQ G).length : Int)) (off := (gst (min (tyA N t) pack) (zwd t) (c * tyB N t) (gE G) (gL G)).1) (bit := (gst (min (tyA N t) pack) (zwd t) (c * tyB N t) (gE G) (gL G)).2.1) (fun h => ⟨⟨(hN h).1.1, (hN h).2.1⟩, (hN h).2.2⟩) t2.1 c.toNat
  have hVe : gV (plc N pack nm t c G) = gV G ++ lvsOf N nm t c (gQ G).length (gst (min (tyA N t) pack) (zwd t) (c * tyB N t) (gE G) (gL G)).1 (gst (min (tyA N t) pack) (zwd t) (c * tyB N t) (gE G) (gL G)).2.1 c.toNat := rfl
  have hEe : gE (plc N pack nm t c G) = (gst (min (tyA N t) pack) (zwd t) (c * tyB N t) (gE G) (gL G)).2.2.1 := rfl
  have hLe : gL (plc N pack nm t c G) = (gst (min (tyA N t) pack) (zwd t) (c * tyB N t) (gE G) (gL G)).2.2.2 := rfl
  unfold sepG opnG
  rw [hVe, hEe, hLe]
  by_cases hbt : 21 ≤ t ∧ t ≤ 36
  · have hw := zwd_pos hbt
    have hc1 := hb hbt.1 hbt.2
    have hone : lvsOf N nm t c (gQ G).length (gst (min (tyA N t) pack) (zwd t) (c * tyB N t) (gE G) (gL G)).1 (gst (min (tyA N t) pack) (zwd t) (c * tyB N t) (gE G) (gL G)).2.1 c.toNat = [(t, (gst (min (tyA N t) pack) (zwd t) (c * tyB N t) (gE G) (gL G)).1 + ((0 : Nat) : Int) * zby t, (gst (min (tyA N t) pack) (zwd t) (c * tyB N t) (gE G) (gL G)).2.1, ((gQ G).length : Int), [(nm, zix c 0)])] := by
      rw [hc1]
      show lvsOf _ _ _ _ _ _ _ (0 + 1) = _
      rw [lvsOf_succ]
      show [] ++ lvOf _ _ _ _ _ _ _ _ = _
      unfold lvOf
      rw [if_pos (by omega)]
      rfl
    rw [hone]
    have hz0 : ((0 : Nat) : Int) * zby t = 0 := by simp
    rw [hz0, Int.add_zero]
    have hold : ∀ l ∈ gV G, lA l + zby (lT l) ≤ gE G := fun l hl => (hV l hl).2.1.2
    by_cases hwl : zwd t ≤ gL G
    · have hg : gst (min (tyA N t) pack) (zwd t) (c * tyB N t) (gE G) (gL G) = (gE G - 2, 16 - gL G, gE G, gL G - zwd t) := by unfold gst; rw [if_pos (by omega), if_pos hwl]
      rw [hg]
      have hop := hS.2 (by omega)
      refine ⟨List.pairwise_append.mpr ⟨hS.1, List.pairwise_singleton _ _, fun a ha b hb' => ?_⟩, fun _ l hl => ?_⟩
      · have hbe := List.mem_singleton.mp hb'
        subst hbe
        rcases hop a ha with q | ⟨q1, q2, q3⟩
        · left; exact q
        · right; right; exact ⟨q1, q2, hbt, .inl q3⟩
      · rcases List.mem_append.mp hl with hl | hl
        · rcases hop l hl with q | ⟨q1, q2, q3⟩
          · left; exact q
          · right; exact ⟨q1, q2, by dsimp only; omega⟩
        · have hle := List.mem_singleton.mp hl
          subst hle
          right
          refine ⟨rfl, hbt, ?_⟩
          show 16 - gL G + (t - 20) ≤ 16 - (gL G - zwd t)
          omega
    · have hg : gst (min (tyA N t) pack) (zwd t) (c * tyB N t) (gE G) (gL G) = (zup (gE G) (min (tyA N t) pack), 0, zup (gE G) (min (tyA N t) pack) + 2, 16 - zwd t) := by unfold gst; rw [if_pos (by omega), if_neg hwl]
      rw [hg]
      refine ⟨List.pairwise_append.mpr ⟨hS.1, List.pairwise_singleton _ _, fun a ha b hb' => ?_⟩, fun _ l hl => ?_⟩
      · have hbe := List.mem_singleton.mp hb'
        subst hbe
        left
        have := hold a ha
        show lA a + zby (lT a) ≤ zup (gE G) (min (tyA N t) pack)
        omega
      · rcases List.mem_append.mp hl with hl | hl
        · left
          have := hold l hl
          dsimp only
          omega
        · have hle := List.mem_singleton.mp hl
          subst hle
          right
          refine ⟨?_, hbt, ?_⟩
          · show zup (gE G) (min (tyA N t) pack) = zup (gE G) (min (tyA N t) pack) + 2 - 2
            omega
          · show 0 + (t - 20) ≤ 16 - (16 - zwd t)
            omega
  · have hw := zwd_0 hbt
    have hg : gst (min (tyA N t) pack) (zwd t) (c * tyB N t) (gE G) (gL G) = (zup (gE G) (min (tyA N t) pack), 0, zup (gE G) (min (tyA N t) pack) + c * tyB N t, 0) := by unfold gst; rw [if_neg (by omega)]
    rw [hg] at hall ⊢
    refine ⟨List.pairwise_append.mpr ⟨hS.1, hall.1, fun a ha b hb' => .inl ?_⟩, fun hl => absurd (show (0 : Int) < 0 from hl) (by decide)⟩
    have h1 := (hV a ha).2.1.2
    have h2 := (hall.2 b hb').1
    dsimp only at h2
    omega
theorem gN_sep {N : Int → ySh} {pack : Int} {F : Nat → Int × Int × Int} {d : Nat} (hp : zp8 pack) : ∀ n : Nat, n ≤ 8 → (∀ k, k < n → (100 ≤ (F k).2.1 → (gOK (N ((F k).2.1 - 100)) ∧ 1 ≤ (gV (N ((F k).2.1 - 100))).length) ∧ (∀ l ∈ gV (N ((F k).2.1 - 100)), okL d (gE (N ((F k).2.1 - 100))) l) ∧ (gV (N ((F k).2.1 - 100))).Pairwise sepL) ∧ ((0 ≤ (F k).2.1 ∧ (F k).2.1 ≤ 7) ∨ (21 ≤ (F k).2.1 ∧ (F k).2.1 ≤ 36) ∨ 100 ≤ (F k).2.1) ∧ (97 ≤ (F k).1 ∧ (F k).1 ≤ 122) ∧ (1 ≤ (F k).2.2 ∧ (F k).2.2 ≤ 4) ∧ (21 ≤ (F k).2.1 → (F k).2.1 ≤ 36 → (F k).2.2 = 1)) → sepG (gN N pack F n) := by
  intro n
  induction n with
  | zero => intro _ _; exact ⟨List.Pairwise.nil, fun h => absurd (show (0 : Int) < 0 from h) (by decide)⟩
  | succ n ihn =>
    intro hn hk
    obtain ⟨k1, k2, k3, k4, k5⟩ := hk n (by omega)
    refine plc_sep (gN_ok hp n fun k h => ⟨fun h' => ((hk k (by omega)).1 h').1, (hk k (by omega)).2.2.2.1, (hk k (by omega)).2.2.2.2⟩).1 (gN_leaf (d := d) hp n (by omega) fun k h => ⟨fun h' => ⟨((hk k (by omega)).1 h').1, ((hk k (by omega)).1 h').2.1⟩, (hk k (by omega)).2⟩) (ihn (by omega) fun k h => hk k (by omega)) (fun h => ⟨(k1 h).1, fun l hl => ((k1 h).2.1 l hl).2.1, (k1 h).2.2⟩) hp k2 k4 k5
theorem shp_sep {D : Int → Int} (hD : okD D) : ∀ n : Nat, ∀ r : Int, r = n → r < D 0 → (gV (shp D r)).Pairwise sepL := by
  intro n
  induction n using Nat.strongRecOn with
  | ind n ihn =>
    intro r hr h1
    obtain ⟨o1, o2, o3, -⟩ := hD.2 r (by omega) h1
    rw [shp_eq (by omega) fun f q0 q1 => (o3 f q0 q1).2.1]
    refine (gN_sep (d := 6) o1 _ (by omega) fun k hk => ?_).1
    obtain ⟨f1, f2, f3, f4⟩ := o3 k (by omega) (by omega)
    refine ⟨fun ht => ?_, ?_, f1, f3, f4⟩
    · have hz := okT_in f2 ht
      have ht2 : 100 ≤ dTy D r k := ht
      have hi := ihn (dTy D r k - 100).toNat (by omega) (dTy D r k - 100) (by omega) (by omega)
      have ho := shp_OK hD (r := dTy D r k - 100) (by omega) (by omega)
      exact ⟨⟨ho.1, ho.2.1 hz.2.2⟩, shp_L hD (by show 0 ≤ dTy D r k - 100; omega) (by show dTy D r k - 100 < D 0; omega), hi⟩
    · rcases f2 with h | h | h
      · exact .inl h
      · exact .inr (.inl h)
      · exact .inr (.inr h.1)
/-- two leaves of a record -/
theorem leaf_sep {D : Int → Int} (hD : okD D) {r : Int} (h0 : 0 ≤ r) (h1 : r < D 0) {j k : Nat} (hj : j < (gV (shp D r)).length) (hk : k < (gV (shp D r)).length) (hjk : j ≠ k) : sepL ((gV (shp D r)).getD j dl) ((gV (shp D r)).getD k dl) := by
  have hp := List.pairwise_iff_getElem.mp (shp_sep hD r.toNat r (by omega) h1)
  have e : ∀ i (hi : i < (gV (shp D r)).length), (gV (shp D r)).getD i dl = (gV (shp D r))[i] := fun i hi => by
    rw [List.getD_eq_getElem?_getD, List.getElem?_eq_getElem hi]; rfl
  rw [e j hj, e k hk]
  rcases Nat.lt_or_gt_of_ne hjk with h | h
  · exact hp j k hj hk h
  · exact sepL_symm (hp k j hk hj h)
/-- two leaves of a table, in rows: apart, or other bits of one unit -/
def apD (G : ySh) (rows lay row row' : Int) (j k : Nat) : Prop := dist G rows lay row j + wd (gV G) j ≤ dist G rows lay row' k ∨ dist G rows lay row' k + wd (gV G) k ≤ dist G rows lay row j ∨ (dist G rows lay row j = dist G rows lay row' k ∧ (21 ≤ lT ((gV G).getD j dl) ∧ lT ((gV G).getD j dl) ≤ 36) ∧ (21 ≤ lT ((gV G).getD k dl) ∧ lT ((gV G).getD k dl) ≤ 36) ∧ (vBt G lay j + (lT ((gV G).getD j dl) - 20) ≤ vBt G lay k ∨ vBt G lay k + (lT ((gV G).getD k dl) - 20) ≤ vBt G lay j))
theorem col_in {G : ySh} {rows lay : Int} {k : Nat} (hG : okG G) (hl : 0 ≤ lay ∧ lay ≤ 8) (hr : 1 ≤ rows ∧ rows ≤ 12) (hk : k < (gV G).length) : 0 ≤ vSt G lay rows k ∧ vSt G lay rows k + vBr lay rows * wd (gV G) k ≤ vBb G lay rows := by
  have b1 := vBr_b hl hr
  refine ⟨(vSt_b hG hl hr hk).1, ?_⟩
  unfold vSt vBb
  by_cases hc : lay = 0
  · simp only [if_pos hc]
    have h2 := (hG.2.2 _ (getD_mem (d := dl) hk)).2.1.2
    have h3 := gS_b hG
    have h4 : vBr lay rows = 1 := by unfold vBr; rw [if_pos hc]
    rw [h4]
    unfold wd
    omega
  · simp only [if_neg hc]
    have h2 : clE (gV G) (vBr lay rows) (k + 1) = clS (gV G) (vBr lay rows) k + vBr lay rows * wd (gV G) k := rfl
    have h3 := clE_mono (gV G) (m := vBr lay rows) (by omega) (k + 1) (gV G).length (by omega)
    have h4 := (zup8_b (clE (gV G) (vBr lay rows) (gV G).length)).1
    unfold blk
    omega
theorem mul_lt_blk {a b B : Int} (hB : 0 ≤ B) (h : a < b) : a * B + B ≤ b * B := by
  have h1 : (a + 1) * B ≤ b * B := Int.mul_le_mul_of_nonneg_right (by omega) hB
  rw [Int.add_mul, Int.one_mul] at h1
  exact h1
theorem dist_ap {D : Int → Int} (hD : okD D) {r rows lay row row' : Int} {j k : Nat} (h0 : 0 ≤ r) (h1 : r < D 0) (hl : 0 ≤ lay ∧ lay ≤ 8) (hr : 1 ≤ rows ∧ rows ≤ 12) (hj : j < (gV (shp D r)).length) (hk : k < (gV (shp D r)).length) (hw : 0 ≤ row ∧ row < rows) (hw' : 0 ≤ row' ∧ row' < rows) (hne : ¬ (row = row' ∧ j = k)) : apD (shp D r) rows lay row row' j k := by
  have hG := okG_shp hD h0 h1
  have b1 := vBr_b hl hr
  have b2 := vBb_b hG hl hr
  have cj := col_in hG hl hr hj
  have ck := col_in hG hl hr hk
  have wj := zp8_b (wd_8 (gV (shp D r)) j)
  have wk := zp8_b (wd_8 (gV (shp D r)) k)
  have hin : ∀ (x : Int) (i : Nat), 0 ≤ wd (gV (shp D r)) i → 0 ≤ x % vBr lay rows * wd (gV (shp D r)) i ∧ x % vBr lay rows * wd (gV (shp D r)) i + wd (gV (shp D r)) i ≤ vBr lay rows * wd (gV (shp D r)) i := fun x i hwi =>
    ⟨Int.mul_nonneg (Int.emod_nonneg _ (by omega)) hwi, mul_lt_blk hwi (Int.emod_lt_of_pos _ (by omega))⟩
  have ij := hin row j (by omega)
  have ik := hin row' k (by omega)
  unfold apD dist
  rcases Int.lt_trichotomy (row / vBr lay rows) (row' / vBr lay rows) with hb | hb | hb
  · have hz := mul_lt_blk b2.1 hb
    left; omega
  · rw [hb]
    by_cases hc : lay = 0
    · have h4 : vBr lay rows = 1 := by unfold vBr; rw [if_pos hc]
      rw [h4] at hb ⊢
      rw [Int.ediv_one, Int.ediv_one] at hb
      have hjk : j ≠ k := fun q => hne ⟨hb, q⟩
      have hs := leaf_sep hD h0 h1 hj hk hjk
      have e1 : ∀ x : Int, x % 1 = 0 := fun x => by omega
      rw [e1, e1, Int.zero_mul, Int.zero_mul, Int.add_zero, Int.add_zero]
      have es : ∀ i, vSt (shp D r) lay rows i = lA ((gV (shp D r)).getD i dl) := fun i => by unfold vSt; rw [if_pos hc]
      have et : ∀ i, vBt (shp D r) lay i = lB ((gV (shp D r)).getD i dl) := fun i => by unfold vBt; rw [if_pos hc]
      rw [es, es, et, et]
      unfold wd
      rcases hs with q | q | ⟨q1, q2, q3, q4⟩
      · left; omega
      · right; left; omega
      · right; right; exact ⟨by omega, q2, q3, q4⟩
    · have es : ∀ i, vSt (shp D r) lay rows i = clS (gV (shp D r)) (vBr lay rows) i := fun i => by unfold vSt; rw [if_neg hc]
      rw [es, es]
      have hcol : ∀ a b : Nat, a < b → clS (gV (shp D r)) (vBr lay rows) a + vBr lay rows * wd (gV (shp D r)) a ≤ clS (gV (shp D r)) (vBr lay rows) b := fun a b hab => by
        have h3 := clE_mono (gV (shp D r)) (m := vBr lay rows) (by omega) (a + 1) b (by omega)
        have h2 : clE (gV (shp D r)) (vBr lay rows) (a + 1) = clS (gV (shp D r)) (vBr lay rows) a + vBr lay rows * wd (gV (shp D r)) a := rfl
        have h5 : clE (gV (shp D r)) (vBr lay rows) b ≤ clS (gV (shp D r)) (vBr lay rows) b := (zup_b (wd_8 _ _)).1
        omega
      rcases Nat.lt_trichotomy j k with h | h | h
      · have := hcol j k h
        left; omega
      · subst h
        have hrr : row ≠ row' := fun q => hne ⟨q, rfl⟩
        have d1 := Int.mul_ediv_add_emod row (vBr lay rows)
        have d2 := Int.mul_ediv_add_emod row' (vBr lay rows)
        have hmm : row % vBr lay rows ≠ row' % vBr lay rows := fun q => hrr (by rw [← d1, ← d2, hb, q])
        rcases Int.lt_or_gt_of_ne hmm with h | h
        · have := mul_lt_blk (B := wd (gV (shp D r)) j) (by omega) h
          left; omega
        · have := mul_lt_blk (B := wd (gV (shp D r)) j) (by omega) h
          right; left; omega
      · have := hcol k j h
        right; left; omega
  · have hz := mul_lt_blk b2.1 hb
    right; left; omega

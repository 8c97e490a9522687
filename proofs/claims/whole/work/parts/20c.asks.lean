/-! ===== questions: how many rows, the numbers of a record and of a leaf ===== -/
section OPS8
variable {S : Option (Nat × (Nat → Int32))} {Q : Option Value ⊕ Nat → zSt → Prop} {s : zSt} {D : Int → Int} {H : List (Int → Int)} {T : List Int}
theorem X_count_37 {t rel : Int} {k : Nat} {v : Int64} (hA : okA D) (hv : isLv D t) (ho : vOpen s D t) (hk : k < (gV (tG D t)).length) (hr : 0 ≤ rel ∧ rel ≤ 2) (k1 : Q (rI (cntD D t k rel v (tNr D t).toNat)) s) (n : Nat) : ∀ i : Nat, (i : Int) + n = tNr D t → wp S 154 37 [(0, rf 2), (2, iv k), (3, iv rel), (4, .long v), (6, iv (cntD D t k rel v i)), (7, iv i)] [] s Q := by
  have h12 := (isLv_ok hA hv).2.2.1
  have h2 := ho.2.2.1.1
  have hr3 : rng rel := ⟨by omega, by omega⟩
  induction n with
  | zero =>
    intro i hi
    refine v_RL_count_37 ⟨⟨by omega, by omega⟩, fun _ => ?_, fun hc => by omega⟩
    rw [show i = (tNr D t).toNat by omega]
    exact k1
  | succ n ihn =>
    intro i hi
    have hgo := ihn (i + 1) (by omega)
    have hN : ¬ relC rel (valD D t i k) v → wp S 154 37 [(0, rf 2), (2, iv k), (3, iv rel), (4, .long v), (6, iv (cntD D t k rel v i)), (7, iv ((i : Int) + 1))] [] s Q := fun hn => by
      rw [show cntD D t k rel v (i + 1) = cntD D t k rel v i by show cntD D t k rel v i + bi _ = _; rw [bi_F hn, Int.add_zero]] at hgo
      exact hgo
    have hY : relC rel (valD D t i k) v → wp S 154 37 [(0, rf 2), (2, iv k), (3, iv rel), (4, .long v), (6, iv (cntD D t k rel v i + 1)), (7, iv ((i : Int) + 1))] [] s Q := fun hn => by
      rw [show cntD D t k rel v (i + 1) = cntD D t k rel v i + 1 by show cntD D t k rel v i + bi _ = _; rw [bi_T hn]] at hgo
      exact hgo
    unfold relC at hN hY
    refine v_RL_count_37 ⟨⟨by omega, by omega⟩, fun hc => by omega, fun _ => X_read hA hv ho hk ⟨by omega, by omega⟩ (zkL_L ⟨fun h0 => ⟨fun h1 => ⟨hr3, fun h3 => hN (by omega), fun h3 => hY (by omega)⟩, fun h1 => ⟨hr3, fun h3 => hN (by omega), fun h3 => hY (by omega)⟩⟩, fun h0 => ⟨hr3, fun h3 => hN (by omega), fun h3 => hY (by omega)⟩⟩)⟩
theorem X_count {t k rel : Int} {v : Int64} (hA : okA D) (h : cRel s D H T) (ht : rng t) (hk : rng k) (hr : rng rel) (k1 : ¬ hasLf D t k → Q (rT 2) (zbump s)) (k2 : hasLf D t k → ¬ (0 ≤ rel ∧ rel ≤ 2) → Q (rT 0) (zbump s)) (k3 : hasLf D t k → 0 ≤ rel ∧ rel ≤ 2 → ∀ u, frm (fun x => 48 ≤ x ∧ x ≤ 52) s u → Q (rI (cntD D t k.toNat rel v (tNr D t).toNat)) u) : wp S 154 0 [(0, rf 2), (1, iv t), (2, iv k), (3, iv rel), (4, .long v)] [] s Q := by
  refine v_RL_count_0 ⟨ht, hk, (c_live hA h t).2, fun hc => ?_, fun hc => k1 fun hh => hc ((c_leaf hA h t k).mpr hh)⟩
  have h1 := (c_leaf hA h t k).mp hc
  refine ⟨hr, fun h0 => k2 h1 (by omega), fun h0 => ⟨fun h2 => ?_, fun h2 => k2 h1 (by omega)⟩⟩
  refine X_openView hA h1.1 h.1 h.2.1 fun u hfu hou => zkU_U ?_
  have hkn : k = (k.toNat : Int) := by have := h1.2.1; omega
  have h12 := (isLv_ok hA h1.1).2.2.1
  have hz := X_count_37 (S := S) (v := v) hA h1.1 hou (k := k.toNat) (by have := h1.2.2; omega) ⟨h0, h2⟩ (k3 h1 ⟨h0, h2⟩ u hfu) (tNr D t).toNat 0 (by omega)
  rw [← hkn] at hz
  exact hz
theorem M_count_42 {t rel : Int} {k : Nat} {v : Int64} (hA : okA D) (h : mRel s D H T) (hly : mLay s D (D 0)) (hv : isLv D t) (hk : k < (gV (tG D t)).length) (hr : 0 ≤ rel ∧ rel ≤ 2) (k1 : Q (rI (cntD D t k rel v (tNr D t).toNat)) s) (n : Nat) : ∀ i : Nat, (i : Int) + n = tNr D t → wp S 265 42 [(0, rf 252), (1, iv t), (2, iv k), (3, iv rel), (4, .long v), (6, iv (cntD D t k rel v i)), (7, iv i)] [] s Q := by
  have h12 := (isLv_ok hA hv).2.2.1
  have e1 : zI s 253 (157 + 6 * t + 1) = tNr D t := h.1 _ (by have := hv.1; omega) (by have := hv.2.1; omega)
  have hb := hv.1
  have hb2 := hv.2.1
  have hr3 : rng rel := ⟨by omega, by omega⟩
  induction n with
  | zero =>
    intro i hi
    refine v_Model_count_42 ⟨⟨by omega, by omega⟩, ⟨by omega, by omega⟩, fun _ => ?_, fun hc => by omega⟩
    rw [show i = (tNr D t).toNat by omega]
    exact k1
  | succ n ihn =>
    intro i hi
    have hgo := ihn (i + 1) (by omega)
    have hN : ¬ relC rel (valD D t i k) v → wp S 265 42 [(0, rf 252), (1, iv t), (2, iv k), (3, iv rel), (4, .long v), (6, iv (cntD D t k rel v i + 0)), (7, iv ((i : Int) + 1))] [] s Q := fun hn => by
      rw [show cntD D t k rel v (i + 1) = cntD D t k rel v i + 0 by show cntD D t k rel v i + bi _ = _; rw [bi_F hn]] at hgo
      exact hgo
    have hY : relC rel (valD D t i k) v → wp S 265 42 [(0, rf 252), (1, iv t), (2, iv k), (3, iv rel), (4, .long v), (6, iv (cntD D t k rel v i + 1)), (7, iv ((i : Int) + 1))] [] s Q := fun hn => by
      rw [show cntD D t k rel v (i + 1) = cntD D t k rel v i + 1 by show cntD D t k rel v i + bi _ = _; rw [bi_T hn]] at hgo
      exact hgo
    unfold relC at hN hY
    exact v_Model_count_42 ⟨⟨by omega, by omega⟩, ⟨by omega, by omega⟩, fun hc => by omega, fun _ => M_val hA h hly hv hk ⟨by omega, by omega⟩ (zkL_L ⟨hr3, fun q0 => ⟨fun q1 => ⟨fun q2 => hN (by omega), fun q2 => hY (by omega)⟩, fun q1 => ⟨fun q2 => hN (by omega), fun q2 => hY (by omega)⟩⟩, fun q0 => ⟨fun q2 => hN (by omega), fun q2 => hY (by omega)⟩⟩)⟩
theorem M_count {t k rel : Int} {v : Int64} (hA : okA D) (h : mRel s D H T) (ht : rng t) (hk : rng k) (hr : rng rel) (k1 : ¬ hasLf D t k → ∀ u, frm modC s u → zI u 252 3 = 1 → mRel u D H T → Q (rI 0) u) (k2 : hasLf D t k → ¬ (0 ≤ rel ∧ rel ≤ 2) → ∀ u, frm modC s u → zI u 252 3 = 2 → mRel u D H T → Q (rI 0) u) (k3 : hasLf D t k → 0 ≤ rel ∧ rel ≤ 2 → ∀ u, frm modC s u → zI u 252 3 = 0 → mRel u D H T → Q (rI (cntD D t k.toNat rel v (tNr D t).toNat)) u) : wp S 265 0 [(0, rf 252), (1, iv t), (2, iv k), (3, iv rel), (4, .long v)] [] s Q := by
  refine v_Model_count_0 (M_hasLeaf hA h ht hk fun u hfu hlu => zkI_I (bi_rng _) ⟨fun h0 => ?_, fun h0 => ?_⟩)
  · have hl : hasLf D t k := Classical.byContradiction fun hn => h0 (bi_0.mpr hn)
    obtain ⟨e1, e2, e3, e4, e5, e6, e7, e8, e9⟩ := M_lfrow (row := 0) hA h hfu hlu hl
    refine ⟨hr, fun h2 => ?_, fun h2 => k2 hl h2 _ (frm_I e7 (by unfold modC; omega)) zI_eq (mRel_252 e5 ⟨by omega, by omega⟩)⟩
    have hm := mRel_252 (k := 3) (v := 0) e5 ⟨by omega, by omega⟩
    have hly := mLay_252 (k := 3) (v := 0) e6
    have hz := M_count_42 (S := S) (v := v) hA hm hly hl.1 e9 h2 (k3 hl h2 _ (frm_I e7 (by unfold modC; omega)) zI_eq hm) (tNr D t).toNat 0 (by omega)
    rw [← e8] at hz
    exact hz
  · exact k1 (bi_0.mp h0) _ (frm_I (cLy_mod hfu) (by unfold modC; omega)) zI_eq (mRel_252 (mRel_ly h hfu) ⟨by omega, by omega⟩)
end OPS8

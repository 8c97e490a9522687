/-! ===== the leaf with a path ===== -/
theorem isO_leaves {r : Int} (hr : 0 ≤ r ∧ r < 6) : isO (67 + 11 * r) 2 := by
  have h : r = 0 ∨ r = 1 ∨ r = 2 ∨ r = 3 ∨ r = 4 ∨ r = 5 := by omega
  rcases h with rfl | rfl | rfl | rfl | rfl | rfl <;> exact ⟨by decide, by decide, by decide +kernel⟩
section OPS25
variable {S : Option (Nat × (Nat → Int32))} {Q : Option Value ⊕ Nat → zSt → Prop} {s : zSt} {D : Int → Int} {H : List (Int → Int)} {T : List Int}
theorem leaf_okP {D : Int → Int} (hD : okD D) {r : Int} (h0 : 0 ≤ r) (h1 : r < D 0) {k : Nat} (hk : k < (gV (shp D r)).length) : okP (lP ((gV (shp D r)).getD k dl)) ∧ (lP ((gV (shp D r)).getD k dl)).length ≤ 6 ∧ lP ((gV (shp D r)).getD k dl) ≠ [] := by
  have hz := shp_L hD h0 h1 _ (getD_mem (d := dl) hk)
  refine ⟨hz.2.2.2.2.2, hz.2.2.2.2.1.2, fun hc => ?_⟩
  have := hz.2.2.2.2.1.1
  rw [hc] at this
  exact absurd this (by decide)
theorem X_withPath_2 {r : Int} {p : List (Int × Int)} (hA : okA D) (hr : 0 ≤ r ∧ r < D 0) (hc : cLv s (67 + 11 * r) (gV (shp D r))) (hp : okP p ∧ p.length ≤ 6) (k1 : Q (rI (fstP (gV (shp D r)) p (gV (shp D r)).length 0)) s) (n : Nat) : ∀ i : Nat, i + n = (gV (shp D r)).length → fstP (gV (shp D r)) p (gV (shp D r)).length 0 = fstP (gV (shp D r)) p n i → wp S 142 2 [(0, rf (67 + 11 * r)), (1, .long (pcode p)), (3, iv i)] [] s Q := by
  have hD0 := hA.1.1
  have h40 := (okG_shp hA.1 hr.1 hr.2).2.1
  have hO : isO (67 + 11 * r) 2 := by
    have hz := isO_leaves (r := r) ⟨hr.1, by omega⟩
    exact hz
  have h0 := hc.1
  induction n with
  | zero =>
    intro i hi he
    have he' : fstP (gV (shp D r)) p (gV (shp D r)).length 0 = -1 := he
    rw [he'] at k1
    exact v_Leaves_withPath_2 hO ⟨⟨by omega, by omega⟩, fun _ => k1, fun hc => by omega⟩
  | succ n ihn =>
    intro i hi he
    obtain ⟨-, -, -, -, hpc⟩ := hc.2 i (by omega)
    have hl := leaf_okP hA.1 hr.1 hr.2 (k := i) (by omega)
    refine v_Leaves_withPath_2 hO ⟨⟨by omega, by omega⟩, fun hc => by omega, fun _ => ⟨⟨by omega, by omega⟩, ?_⟩⟩
    rw [hpc]
    refine ⟨fun hne => ?_, fun heq => ?_⟩
    · have hpn : ¬ lP ((gV (shp D r)).getD i dl) = p := fun hq => hne (by rw [hq]; exact zcmp_0.mpr rfl)
      exact ihn (i + 1) (by omega) (he.trans (if_neg hpn))
    · have hpe : lP ((gV (shp D r)).getD i dl) = p := pcode_inj _ _ hl.1 hp.1 hl.2.1 hp.2 (zcmp_0.mp heq)
      rw [he.trans (if_pos hpe)] at k1
      exact k1
theorem X_withPath {r : Int} {p : List (Int × Int)} (hA : okA D) (hr : 0 ≤ r ∧ r < D 0) (hc : cLv s (67 + 11 * r) (gV (shp D r))) (hp : okP p ∧ p.length ≤ 6) (k1 : Q (rI (fstP (gV (shp D r)) p (gV (shp D r)).length 0)) s) : wp S 142 0 [(0, rf (67 + 11 * r)), (1, .long (pcode p))] [] s Q := by
  have hD0 := hA.1.1
  have hO : isO (67 + 11 * r) 2 := isO_leaves (r := r) ⟨hr.1, by omega⟩
  exact v_Leaves_withPath_0 hO (X_withPath_2 hA hr hc hp k1 _ 0 (Nat.zero_add _) rfl)
/-- equal letters so far -/
theorem M_same_58 {r i : Int} {at_ to : Int} {p q : List Int} (hr : 0 ≤ r ∧ r < 6) (hat : 0 ≤ at_ ∧ at_ < 240) (hto : 0 ≤ to ∧ to < 240) (hp : mPth s at_ p) (hq : mPth s to q) (hl : p.length ≤ 32) (k1 : p = q → Q (rI i) s) (k2 : p ≠ q → wp S 260 11 [(0, rf 252), (1, iv r), (4, iv to), (5, iv (i + 1))] [] s Q) (hlen : p.length = q.length) (n : Nat) : ∀ k : Nat, k + n = p.length → (∀ j : Nat, j < k → p.getD j 0 = q.getD j 0) → wp S 260 58 [(0, rf 252), (1, iv r), (4, iv to), (5, iv i), (6, iv at_), (7, iv 1), (8, iv k)] [] s Q := by
  obtain ⟨p1, p2⟩ := hp
  obtain ⟨q1, q2⟩ := hq
  have heq : (∀ j : Nat, j < p.length → p.getD j 0 = q.getD j 0) → p = q := fun h => List.ext_getElem hlen fun j j1 j2 => by
    have hz := h j j1
    rw [List.getD_eq_getElem?_getD, List.getD_eq_getElem?_getD, List.getElem?_eq_getElem j1, List.getElem?_eq_getElem j2] at hz
    exact hz
  induction n with
  | zero =>
    intro k hk hj
    refine v_Model_samePath_58 ⟨⟨by omega, by omega⟩, fun hc => absurd hc (by decide), fun _ => ⟨hat, ⟨by omega, by omega⟩, fun _ => ⟨fun hc => absurd hc (by decide), fun _ => k1 (heq fun j hj' => hj j (by omega))⟩, fun hc => by omega⟩⟩
  | succ n ihn =>
    intro k hk hj
    have g1 := p2 k (by omega)
    have g2 := q2 k (by omega)
    refine v_Model_samePath_58 ⟨⟨by omega, by omega⟩, fun hc => absurd hc (by decide), fun _ => ⟨hat, ⟨by omega, by omega⟩, fun hc => by omega, fun _ => ⟨⟨by omega, by omega⟩, ⟨by omega, by omega⟩, ?_⟩⟩⟩
    rw [g1, g2]
    refine ⟨fun hne => ?_, fun he => ?_⟩
    · have hpq : p ≠ q := fun h => hne (by rw [h])
      refine v_Model_samePath_58 ⟨⟨by omega, by omega⟩, fun _ => ⟨fun _ => k2 hpq, fun hc => absurd rfl hc⟩, fun hc => absurd rfl hc⟩
    · exact ihn (k + 1) (by omega) fun j hj' => by
        by_cases h : j = k
        · subst h; exact he
        · exact hj j (by omega)
theorem M_same_11 {r o : Int} {k : Nat} (hA : okA D) (hly : mLay s D (D 0)) (hr : 0 ≤ r ∧ r < D 0) (ho : 0 ≤ o ∧ o < D 0) (hk : k < (gV (shp D o)).length) (k1 : Q (rI (fstP (gV (shp D r)) (lP ((gV (shp D o)).getD k dl)) (gV (shp D r)).length 0)) s) (n : Nat) : ∀ i : Nat, i + n = (gV (shp D r)).length → fstP (gV (shp D r)) (lP ((gV (shp D o)).getD k dl)) (gV (shp D r)).length 0 = fstP (gV (shp D r)) (lP ((gV (shp D o)).getD k dl)) n i → wp S 260 11 [(0, rf 252), (1, iv r), (4, iv (40 * o + k)), (5, iv i)] [] s Q := by
  have hD0 := hA.1.1
  have h40 := (okG_shp hA.1 hr.1 hr.2).2.1
  have h40' := (okG_shp hA.1 ho.1 ho.2).2.1
  obtain ⟨-, -, ⟨v1, v2⟩⟩ := hly r hr.1 hr.2
  obtain ⟨-, -, ⟨w1, w2⟩⟩ := hly o ho.1 ho.2
  obtain ⟨-, -, -, -, hq⟩ := w2 k hk
  have lk := leaf_okP hA.1 ho.1 ho.2 hk
  induction n with
  | zero =>
    intro i hi he
    have he' : fstP (gV (shp D r)) (lP ((gV (shp D o)).getD k dl)) (gV (shp D r)).length 0 = -1 := he
    rw [he'] at k1
    exact v_Model_samePath_11 ⟨⟨by omega, by omega⟩, ⟨by omega, by omega⟩, fun _ => k1, fun hc => by omega⟩
  | succ n ihn =>
    intro i hi he
    obtain ⟨-, -, -, -, hp⟩ := v2 i (by omega)
    have li := leaf_okP hA.1 hr.1 hr.2 (k := i) (by omega)
    have hlen := okL_path (shp_L hA.1 hr.1 hr.2 _ (getD_mem (d := dl) (show i < (gV (shp D r)).length by omega))) (Nat.le_refl _)
    have hno : pbs (lP ((gV (shp D r)).getD i dl)) ≠ pbs (lP ((gV (shp D o)).getD k dl)) → wp S 260 11 [(0, rf 252), (1, iv r), (4, iv (40 * o + k)), (5, iv (i + 1))] [] s Q := fun hne => by
      have hpn : ¬ lP ((gV (shp D r)).getD i dl) = lP ((gV (shp D o)).getD k dl) := fun hq => hne (by rw [hq])
      exact ihn (i + 1) (by omega) (he.trans (if_neg hpn))
    refine v_Model_samePath_11 ⟨⟨by omega, by omega⟩, ⟨by omega, by omega⟩, fun hc => by omega, fun _ => ⟨⟨by omega, by omega⟩, ⟨by omega, by omega⟩, ?_⟩⟩
    rw [hp.1, hq.1]
    refine ⟨fun hne => ?_, fun heq => ?_⟩
    · refine v_Model_samePath_58 ⟨⟨by omega, by omega⟩, fun _ => ⟨fun _ => hno fun h => hne (by rw [h]), fun hc => absurd rfl hc⟩, fun hc => absurd rfl hc⟩
    · refine M_same_58 (p := pbs (lP ((gV (shp D r)).getD i dl))) (q := pbs (lP ((gV (shp D o)).getD k dl))) ⟨hr.1, by omega⟩ ⟨by omega, by omega⟩ ⟨by omega, by omega⟩ hp hq (by omega) (fun h => ?_) hno (by omega) _ 0 (Nat.zero_add _) fun j hj => absurd hj (Nat.not_lt_zero _)
      have hpe : lP ((gV (shp D r)).getD i dl) = lP ((gV (shp D o)).getD k dl) := pbs_inj _ _ li.1 lk.1 li.2.2 lk.2.2 h
      rw [he.trans (if_pos hpe)] at k1
      exact k1
theorem M_samePath {r o : Int} {k : Nat} (hA : okA D) (hly : mLay s D (D 0)) (hr : 0 ≤ r ∧ r < D 0) (ho : 0 ≤ o ∧ o < D 0) (hk : k < (gV (shp D o)).length) (k1 : Q (rI (fstP (gV (shp D r)) (lP ((gV (shp D o)).getD k dl)) (gV (shp D r)).length 0)) s) : wp S 260 0 [(0, rf 252), (1, iv r), (2, iv o), (3, iv k)] [] s Q :=
  v_Model_samePath_0 (M_same_11 hA hly hr ho hk k1 _ 0 (Nat.zero_add _) rfl)
end OPS25

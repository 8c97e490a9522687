/-! ===== the law: its head ===== -/
def lwT (k : Nat) : Nat := [204, 260, 352, 365, 433, 513, 593, 673, 729, 785, 853, 909, 922, 978, 1070, 1126, 1139, 1207, 1287, 1366, 1489, 1545, 1613, 1654, 1734, 1814, 1827, 1923, 2081, 2161, 2285, 2409, 2476, 2614, 2738, 2850, 2894].getD k 0
def lwO : Array Int := #[164, 220, 312, 325, 393, 473, 553, 633, 689, 745, 813, 869, 882, 938, 1030, 1086, 1099, 1167, 1247, 1326, 1449, 1505, 1573, 1614, 1694, 1774, 1787, 1883, 2041, 2121, 2245, 2369, 2436, 2574, 2698, 2810, 2854]
theorem lw_tab : ∀ k, k < 37 → ∃ o, lwO[k]? = some o ∧ (((40 : Nat) : Int) + o = (lwT k : Int)) := by
  have h : ∀ k : Fin 37, lwO[(k : Nat)]? = some ((lwT k : Int) - 40) := by decide +kernel
  intro k hk
  have h2 := h ⟨k, hk⟩
  dsimp only at h2
  exact ⟨_, h2, by omega⟩
theorem v_Law_law_23 {S : Option (Nat × (Nat → Int32))} {L : Nat} {xs : Nat → Int32} (hS : S = some (L, xs)) {s : zSt} {Q : Option Value ⊕ Nat → zSt → Prop} {x4 : Int}
    (h : rng x4 ∧ (rng ((L : Int) - 7) ∧ ((((L : Int) - 7) < x4 → Q (rI 1) s) ∧ (x4 ≤ ((L : Int) - 7) → (0 ≤ x4 ∧ x4 < (L : Int) ∧ rng x4) ∧ ((∀ k : Nat, k < 37 → zand ((xs (x4).toNat).toInt) 63 = (k : Int) → wp S 276 (lwT k) [(0, rf 0), (1, rf 2), (2, rf 252), (3, rf 275), (4, iv x4)] [] s Q) ∧ ((zand ((xs (x4).toNat).toInt) 63 < 0 ∨ 36 < zand ((xs (x4).toNat).toInt) 63) → wp S 276 23 [(0, rf 0), (1, rf 2), (2, rf 252), (3, rf 275), (4, iv (x4 + 7))] [] s Q)))))) :
    wp S 276 23 [(0, rf 0), (1, rf 2), (2, rf 252), (3, rf 275), (4, iv x4)] [] s Q := by
  refine i_iload (x := x4) r_276_23 rfl rfl ?_
  refine i_aload_n (a := 0) r_276_25 (n_276_25 _) rfl ?_
  refine i_scriptlen hS r_276_26 (n_276_26 _) ?_
  refine i_bipush r_276_27 (n_276_27 _) rfl ?_
  refine i_isub r_276_29 (n_276_29 _) ?_
  obtain ⟨g1, h⟩ := h
  obtain ⟨g2, h⟩ := h
  refine i_icmp (t := 2914) r_276_30 (n_276_30 _) rfl (T_gt g1 g2) (fun c3 => ?_) (fun c3 => ?_)
  · replace h := h.1 c3
    refine i_iconst r_276_2914 (n_276_2914 _) ?_
    exact i_zreturn r_276_2915 (n_276_2915 _) rfl (by decide) h
  · replace h := h.2 c3
    refine i_aload_n (a := 0) r_276_33 (n_276_33 _) rfl ?_
    refine i_iload (x := x4) r_276_34 (n_276_34 _) rfl ?_
    obtain ⟨g4, h1, h2⟩ := h
    refine i_script hS r_276_36 (n_276_36 _) g4.2.2 g4.1 g4.2.1 (fun q5 => ?_)
    refine i_bipush r_276_37 (n_276_37 _) rfl ?_
    refine i_iand r_276_39 (n_276_39 _) ?_
    by_cases hc : zand ((xs (x4).toNat).toInt) 63 < 0 ∨ 36 < zand ((xs (x4).toNat).toInt) 63
    · have h3 := h2 hc
      refine i_sw_out (t := 2908) r_276_40 (n_276_40 _) hc (rng_to _) rfl ?_
      refine i_iinc (x := x4) (l' := [(0, rf 0), (1, rf 2), (2, rf 252), (3, rf 275), (4, iv (x4 + 7))]) r_276_2908 (n_276_2908 _) (by decide) rfl rfl ?_
      refine i_goto (t := 23) r_276_2911 (n_276_2911 _) rfl ?_
      exact wp_pr (l' := [(0, rf 0), (1, rf 2), (2, rf 252), (3, rf 275), (4, iv (x4 + 7))]) rfl h3
    · obtain ⟨k, hk, hz⟩ : ∃ k : Nat, k < 37 ∧ zand ((xs (x4).toNat).toInt) 63 = (k : Int) := ⟨(zand ((xs (x4).toNat).toInt) 63).toNat, by omega, by omega⟩
      obtain ⟨o, ho, ht⟩ := lw_tab k hk
      exact i_sw_hit (kk := k) (t := lwT k) (o := o) r_276_40 (n_276_40 _) (by omega) (rng_to _) (by omega) ho ht (h1 k hk hz)

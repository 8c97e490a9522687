theorem r_15_0 : xfetch 15 0 = some (.iload_n 0, 1) := by decide +kernel
theorem n_15_0 : ∀ l, xpr 15 0 l = l := xpr_no (by decide +kernel)
theorem r_15_1 : xfetch 15 1 = some (.iload_n 1, 1) := by decide +kernel
theorem n_15_1 : ∀ l, xpr 15 1 l = l := xpr_no (by decide +kernel)
theorem r_15_2 : xfetch 15 2 = some (.if_icmp .lt 7, 3) := by decide +kernel
theorem n_15_2 : ∀ l, xpr 15 2 l = l := xpr_no (by decide +kernel)
theorem r_15_5 : xfetch 15 5 = some (.iload_n 0, 1) := by decide +kernel
theorem n_15_5 : ∀ l, xpr 15 5 l = l := xpr_no (by decide +kernel)
theorem r_15_6 : xfetch 15 6 = some (.goto 4, 3) := by decide +kernel
theorem n_15_6 : ∀ l, xpr 15 6 l = l := xpr_no (by decide +kernel)
theorem r_15_9 : xfetch 15 9 = some (.iload_n 1, 1) := by decide +kernel
theorem n_15_9 : ∀ l, xpr 15 9 l = l := xpr_no (by decide +kernel)
theorem r_15_10 : xfetch 15 10 = some (.ireturn, 1) := by decide +kernel
theorem n_15_10 : ∀ l, xpr 15 10 l = l := xpr_no (by decide +kernel)
theorem v_Math_max_0 {S : Option (Nat × (Nat → Int32))} {s : zSt} {Q : Option Value ⊕ Nat → zSt → Prop} {x0 : Int} {x1 : Int} 
    (h : rng x0 ∧ (rng x1 ∧ ((x0 < x1 → Q (rI x1) s) ∧ (x1 ≤ x0 → Q (rI x0) s)))) :
    wp S 15 0 [(0, iv x0), (1, iv x1)] [] s Q := by
  refine i_iload_n (x := x0) r_15_0 (n_15_0 _) rfl ?_
  refine i_iload_n (x := x1) r_15_1 (n_15_1 _) rfl ?_
  obtain ⟨g1, h⟩ := h
  obtain ⟨g2, h⟩ := h
  refine i_icmp (t := 9) r_15_2 (n_15_2 _) rfl (T_lt g1 g2) (fun c3 => ?_) (fun c3 => ?_)
  · replace h := h.1 c3
    refine i_iload_n (x := x1) r_15_9 (n_15_9 _) rfl ?_
    exact i_ireturn r_15_10 (n_15_10 _) rfl h
  · replace h := h.2 c3
    refine i_iload_n (x := x0) r_15_5 (n_15_5 _) rfl ?_
    refine i_goto (t := 10) r_15_6 (n_15_6 _) rfl ?_
    exact i_ireturn r_15_10 (n_15_10 _) rfl h
theorem K_Math_max {S : Option (Nat × (Nat → Int32))} {s : zSt} {x0 : Int} {x1 : Int}  (h1 : rng x0) (h2 : rng x1) : wp S 15 0 [(0, iv x0), (1, iv x1)] [] s (fun o t => o = rI (max x0 x1) ∧ s = t) := by
  refine wp_W fun hW => ?_
  refine v_Math_max_0  ?_
  repeat' (first | assumption | rfl | (intro _) | (refine ⟨?_, ?_⟩) | omega | exact congrArg rI (by omega))
theorem r_16_0 : xfetch 16 0 = some (.iload_n 0, 1) := by decide +kernel
theorem n_16_0 : ∀ l, xpr 16 0 l = l := xpr_no (by decide +kernel)
theorem r_16_1 : xfetch 16 1 = some (.iload_n 1, 1) := by decide +kernel
theorem n_16_1 : ∀ l, xpr 16 1 l = l := xpr_no (by decide +kernel)
theorem r_16_2 : xfetch 16 2 = some (.if_icmp .gt 7, 3) := by decide +kernel
theorem n_16_2 : ∀ l, xpr 16 2 l = l := xpr_no (by decide +kernel)
theorem r_16_5 : xfetch 16 5 = some (.iload_n 0, 1) := by decide +kernel
theorem n_16_5 : ∀ l, xpr 16 5 l = l := xpr_no (by decide +kernel)
theorem r_16_6 : xfetch 16 6 = some (.goto 4, 3) := by decide +kernel
theorem n_16_6 : ∀ l, xpr 16 6 l = l := xpr_no (by decide +kernel)
theorem r_16_9 : xfetch 16 9 = some (.iload_n 1, 1) := by decide +kernel
theorem n_16_9 : ∀ l, xpr 16 9 l = l := xpr_no (by decide +kernel)
theorem r_16_10 : xfetch 16 10 = some (.ireturn, 1) := by decide +kernel
theorem n_16_10 : ∀ l, xpr 16 10 l = l := xpr_no (by decide +kernel)
theorem v_Math_min_0 {S : Option (Nat × (Nat → Int32))} {s : zSt} {Q : Option Value ⊕ Nat → zSt → Prop} {x0 : Int} {x1 : Int} 
    (h : rng x0 ∧ (rng x1 ∧ ((x1 < x0 → Q (rI x1) s) ∧ (x0 ≤ x1 → Q (rI x0) s)))) :
    wp S 16 0 [(0, iv x0), (1, iv x1)] [] s Q := by
  refine i_iload_n (x := x0) r_16_0 (n_16_0 _) rfl ?_
  refine i_iload_n (x := x1) r_16_1 (n_16_1 _) rfl ?_
  obtain ⟨g1, h⟩ := h
  obtain ⟨g2, h⟩ := h
  refine i_icmp (t := 9) r_16_2 (n_16_2 _) rfl (T_gt g1 g2) (fun c3 => ?_) (fun c3 => ?_)
  · replace h := h.1 c3
    refine i_iload_n (x := x1) r_16_9 (n_16_9 _) rfl ?_
    exact i_ireturn r_16_10 (n_16_10 _) rfl h
  · replace h := h.2 c3
    refine i_iload_n (x := x0) r_16_5 (n_16_5 _) rfl ?_
    refine i_goto (t := 10) r_16_6 (n_16_6 _) rfl ?_
    exact i_ireturn r_16_10 (n_16_10 _) rfl h
theorem K_Math_min {S : Option (Nat × (Nat → Int32))} {s : zSt} {x0 : Int} {x1 : Int}  (h1 : rng x0) (h2 : rng x1) : wp S 16 0 [(0, iv x0), (1, iv x1)] [] s (fun o t => o = rI (min x0 x1) ∧ s = t) := by
  refine wp_W fun hW => ?_
  refine v_Math_min_0  ?_
  repeat' (first | assumption | rfl | (intro _) | (refine ⟨?_, ?_⟩) | omega | exact congrArg rI (by omega))
theorem r_24_0 : xfetch 24 0 = some (.iload_n 0, 1) := by decide +kernel
theorem n_24_0 : ∀ l, xpr 24 0 l = l := xpr_no (by decide +kernel)
theorem r_24_1 : xfetch 24 1 = some (.iload_n 1, 1) := by decide +kernel
theorem n_24_1 : ∀ l, xpr 24 1 l = l := xpr_no (by decide +kernel)
theorem r_24_2 : xfetch 24 2 = some (.iadd, 1) := by decide +kernel
theorem n_24_2 : ∀ l, xpr 24 2 l = l := xpr_no (by decide +kernel)
theorem r_24_3 : xfetch 24 3 = some (.iconst 1, 1) := by decide +kernel
theorem n_24_3 : ∀ l, xpr 24 3 l = l := xpr_no (by decide +kernel)
theorem r_24_4 : xfetch 24 4 = some (.isub, 1) := by decide +kernel
theorem n_24_4 : ∀ l, xpr 24 4 l = l := xpr_no (by decide +kernel)
theorem r_24_5 : xfetch 24 5 = some (.iload_n 1, 1) := by decide +kernel
theorem n_24_5 : ∀ l, xpr 24 5 l = l := xpr_no (by decide +kernel)
theorem r_24_6 : xfetch 24 6 = some (.ineg, 1) := by decide +kernel
theorem n_24_6 : ∀ l, xpr 24 6 l = l := xpr_no (by decide +kernel)
theorem r_24_7 : xfetch 24 7 = some (.iand, 1) := by decide +kernel
theorem n_24_7 : ∀ l, xpr 24 7 l = l := xpr_no (by decide +kernel)
theorem r_24_8 : xfetch 24 8 = some (.ireturn, 1) := by decide +kernel
theorem n_24_8 : ∀ l, xpr 24 8 l = l := xpr_no (by decide +kernel)
theorem v_RL_roundUp_0 {S : Option (Nat × (Nat → Int32))} {s : zSt} {Q : Option Value ⊕ Nat → zSt → Prop} {x0 : Int} {x1 : Int} 
    (h : Q (rI (zand ((x0 + x1) - 1) (-x1))) s) :
    wp S 24 0 [(0, iv x0), (1, iv x1)] [] s Q := by
  refine i_iload_n (x := x0) r_24_0 (n_24_0 _) rfl ?_
  refine i_iload_n (x := x1) r_24_1 (n_24_1 _) rfl ?_
  refine i_iadd r_24_2 (n_24_2 _) ?_
  refine i_iconst r_24_3 (n_24_3 _) ?_
  refine i_isub r_24_4 (n_24_4 _) ?_
  refine i_iload_n (x := x1) r_24_5 (n_24_5 _) rfl ?_
  refine i_ineg r_24_6 (n_24_6 _) ?_
  refine i_iand r_24_7 (n_24_7 _) ?_
  exact i_ireturn r_24_8 (n_24_8 _) rfl h
theorem K_RL_roundUp {S : Option (Nat × (Nat → Int32))} {s : zSt} {x0 : Int} {x1 : Int}  (h1 : zp2 x1) (h2 : 0 ≤ x0) (h3 : x0 ≤ 1000000) : wp S 24 0 [(0, iv x0), (1, iv x1)] [] s (fun o t => o = rI (zup x0 x1) ∧ s = t) := by
  refine wp_W fun hW => ?_
  refine v_RL_roundUp_0  ?_
  exact ⟨congrArg rI (zup_and h1 h2 h3), rfl⟩
theorem r_45_0 : xfetch 45 0 = some (.iload_n 0, 1) := by decide +kernel
theorem n_45_0 : ∀ l, xpr 45 0 l = l := xpr_no (by decide +kernel)
theorem r_45_1 : xfetch 45 1 = some (.ifCond .lt 13, 3) := by decide +kernel
theorem n_45_1 : ∀ l, xpr 45 1 l = l := xpr_no (by decide +kernel)
theorem r_45_4 : xfetch 45 4 = some (.iload_n 0, 1) := by decide +kernel
theorem n_45_4 : ∀ l, xpr 45 4 l = l := xpr_no (by decide +kernel)
theorem r_45_5 : xfetch 45 5 = some (.bipush 7, 2) := by decide +kernel
theorem n_45_5 : ∀ l, xpr 45 5 l = l := xpr_no (by decide +kernel)
theorem r_45_7 : xfetch 45 7 = some (.if_icmp .gt 7, 3) := by decide +kernel
theorem n_45_7 : ∀ l, xpr 45 7 l = l := xpr_no (by decide +kernel)
theorem r_45_10 : xfetch 45 10 = some (.iconst 1, 1) := by decide +kernel
theorem n_45_10 : ∀ l, xpr 45 10 l = l := xpr_no (by decide +kernel)
theorem r_45_11 : xfetch 45 11 = some (.goto 4, 3) := by decide +kernel
theorem n_45_11 : ∀ l, xpr 45 11 l = l := xpr_no (by decide +kernel)
theorem r_45_14 : xfetch 45 14 = some (.iconst 0, 1) := by decide +kernel
theorem n_45_14 : ∀ l, xpr 45 14 l = l := xpr_no (by decide +kernel)
theorem r_45_15 : xfetch 45 15 = some (.ireturn, 1) := by decide +kernel
theorem n_45_15 : ∀ l, xpr 45 15 l = l := xpr_no (by decide +kernel)
theorem v_RL_isPlain_0 {S : Option (Nat × (Nat → Int32))} {s : zSt} {Q : Option Value ⊕ Nat → zSt → Prop} {x0 : Int} 
    (h : rng x0 ∧ ((x0 < 0 → Q (rI 0) s) ∧ (0 ≤ x0 → (7 < x0 → Q (rI 0) s) ∧ (x0 ≤ 7 → Q (rI 1) s)))) :
    wp S 45 0 [(0, iv x0)] [] s Q := by
  refine i_iload_n (x := x0) r_45_0 (n_45_0 _) rfl ?_
  obtain ⟨g1, h⟩ := h
  refine i_if (t := 14) r_45_1 (n_45_1 _) rfl (T_lt g1 ⟨by omega, by omega⟩) (fun c2 => ?_) (fun c2 => ?_)
  · replace h := h.1 c2
    refine i_iconst r_45_14 (n_45_14 _) ?_
    exact i_zreturn r_45_15 (n_45_15 _) rfl (by decide) h
  · replace h := h.2 c2
    refine i_iload_n (x := x0) r_45_4 (n_45_4 _) rfl ?_
    refine i_bipush r_45_5 (n_45_5 _) rfl ?_
    refine i_icmp (t := 14) r_45_7 (n_45_7 _) rfl (T_gt g1 ⟨by omega, by omega⟩) (fun c3 => ?_) (fun c3 => ?_)
    · replace h := h.1 c3
      refine i_iconst r_45_14 (n_45_14 _) ?_
      exact i_zreturn r_45_15 (n_45_15 _) rfl (by decide) h
    · replace h := h.2 c3
      refine i_iconst r_45_10 (n_45_10 _) ?_
      refine i_goto (t := 15) r_45_11 (n_45_11 _) rfl ?_
      exact i_zreturn r_45_15 (n_45_15 _) rfl (by decide) h
theorem K_RL_isPlain {S : Option (Nat × (Nat → Int32))} {s : zSt} {x0 : Int}  (h1 : rng x0) : wp S 45 0 [(0, iv x0)] [] s (fun o t => o = rI (bi (0 ≤ x0 ∧ x0 ≤ 7)) ∧ s = t) := by
  refine wp_W fun hW => ?_
  refine v_RL_isPlain_0  ?_
  repeat' (first | assumption | rfl | (intro _) | (refine ⟨?_, ?_⟩) | omega | exact congrArg rI (bi_F (by omega)).symm | exact congrArg rI (bi_T (by omega)).symm)
theorem r_46_0 : xfetch 46 0 = some (.iload_n 0, 1) := by decide +kernel
theorem n_46_0 : ∀ l, xpr 46 0 l = l := xpr_no (by decide +kernel)
theorem r_46_1 : xfetch 46 1 = some (.bipush 20, 2) := by decide +kernel
theorem n_46_1 : ∀ l, xpr 46 1 l = l := xpr_no (by decide +kernel)
theorem r_46_3 : xfetch 46 3 = some (.if_icmp .le 13, 3) := by decide +kernel
theorem n_46_3 : ∀ l, xpr 46 3 l = l := xpr_no (by decide +kernel)
theorem r_46_6 : xfetch 46 6 = some (.iload_n 0, 1) := by decide +kernel
theorem n_46_6 : ∀ l, xpr 46 6 l = l := xpr_no (by decide +kernel)
theorem r_46_7 : xfetch 46 7 = some (.bipush 36, 2) := by decide +kernel
theorem n_46_7 : ∀ l, xpr 46 7 l = l := xpr_no (by decide +kernel)
theorem r_46_9 : xfetch 46 9 = some (.if_icmp .gt 7, 3) := by decide +kernel
theorem n_46_9 : ∀ l, xpr 46 9 l = l := xpr_no (by decide +kernel)
theorem r_46_12 : xfetch 46 12 = some (.iconst 1, 1) := by decide +kernel
theorem n_46_12 : ∀ l, xpr 46 12 l = l := xpr_no (by decide +kernel)
theorem r_46_13 : xfetch 46 13 = some (.goto 4, 3) := by decide +kernel
theorem n_46_13 : ∀ l, xpr 46 13 l = l := xpr_no (by decide +kernel)
theorem r_46_16 : xfetch 46 16 = some (.iconst 0, 1) := by decide +kernel
theorem n_46_16 : ∀ l, xpr 46 16 l = l := xpr_no (by decide +kernel)
theorem r_46_17 : xfetch 46 17 = some (.ireturn, 1) := by decide +kernel
theorem n_46_17 : ∀ l, xpr 46 17 l = l := xpr_no (by decide +kernel)
theorem v_RL_isBits_0 {S : Option (Nat × (Nat → Int32))} {s : zSt} {Q : Option Value ⊕ Nat → zSt → Prop} {x0 : Int} 
    (h : rng x0 ∧ ((x0 ≤ 20 → Q (rI 0) s) ∧ (20 < x0 → (36 < x0 → Q (rI 0) s) ∧ (x0 ≤ 36 → Q (rI 1) s)))) :
    wp S 46 0 [(0, iv x0)] [] s Q := by
  refine i_iload_n (x := x0) r_46_0 (n_46_0 _) rfl ?_
  refine i_bipush r_46_1 (n_46_1 _) rfl ?_
  obtain ⟨g1, h⟩ := h
  refine i_icmp (t := 16) r_46_3 (n_46_3 _) rfl (T_le g1 ⟨by omega, by omega⟩) (fun c2 => ?_) (fun c2 => ?_)
  · replace h := h.1 c2
    refine i_iconst r_46_16 (n_46_16 _) ?_
    exact i_zreturn r_46_17 (n_46_17 _) rfl (by decide) h
  · replace h := h.2 c2
    refine i_iload_n (x := x0) r_46_6 (n_46_6 _) rfl ?_
    refine i_bipush r_46_7 (n_46_7 _) rfl ?_
    refine i_icmp (t := 16) r_46_9 (n_46_9 _) rfl (T_gt g1 ⟨by omega, by omega⟩) (fun c3 => ?_) (fun c3 => ?_)
    · replace h := h.1 c3
      refine i_iconst r_46_16 (n_46_16 _) ?_
      exact i_zreturn r_46_17 (n_46_17 _) rfl (by decide) h
    · replace h := h.2 c3
      refine i_iconst r_46_12 (n_46_12 _) ?_
      refine i_goto (t := 17) r_46_13 (n_46_13 _) rfl ?_
      exact i_zreturn r_46_17 (n_46_17 _) rfl (by decide) h
theorem K_RL_isBits {S : Option (Nat × (Nat → Int32))} {s : zSt} {x0 : Int}  (h1 : rng x0) : wp S 46 0 [(0, iv x0)] [] s (fun o t => o = rI (bi (20 < x0 ∧ x0 ≤ 36)) ∧ s = t) := by
  refine wp_W fun hW => ?_
  refine v_RL_isBits_0  ?_
  repeat' (first | assumption | rfl | (intro _) | (refine ⟨?_, ?_⟩) | omega | exact congrArg rI (bi_F (by omega)).symm | exact congrArg rI (bi_T (by omega)).symm)
theorem r_44_0 : xfetch 44 0 = some (.iload_n 0, 1) := by decide +kernel
theorem n_44_0 : ∀ l, xpr 44 0 l = l := xpr_no (by decide +kernel)
theorem r_44_1 : xfetch 44 1 = some (.invokestatic 421, 3) := by decide +kernel
theorem n_44_1 : ∀ l, xpr 44 1 l = l := xpr_no (by decide +kernel)
theorem r_44_4 : xfetch 44 4 = some (.ifCond .eq 11, 3) := by decide +kernel
theorem n_44_4 : ∀ l, xpr 44 4 l = l := xpr_no (by decide +kernel)
theorem r_44_7 : xfetch 44 7 = some (.getstatic 424, 3) := by decide +kernel
theorem n_44_7 : ∀ l, xpr 44 7 l = l := xpr_no (by decide +kernel)
theorem r_44_10 : xfetch 44 10 = some (.iload_n 0, 1) := by decide +kernel
theorem n_44_10 : ∀ l, xpr 44 10 l = l := xpr_no (by decide +kernel)
theorem r_44_11 : xfetch 44 11 = some (.iaload, 1) := by decide +kernel
theorem n_44_11 : ∀ l, xpr 44 11 l = l := xpr_no (by decide +kernel)
theorem r_44_12 : xfetch 44 12 = some (.goto 4, 3) := by decide +kernel
theorem n_44_12 : ∀ l, xpr 44 12 l = l := xpr_no (by decide +kernel)
theorem r_44_15 : xfetch 44 15 = some (.iconst 2, 1) := by decide +kernel
theorem n_44_15 : ∀ l, xpr 44 15 l = l := xpr_no (by decide +kernel)
theorem r_44_16 : xfetch 44 16 = some (.ireturn, 1) := by decide +kernel
theorem n_44_16 : ∀ l, xpr 44 16 l = l := xpr_no (by decide +kernel)
theorem v_RL_bytesOfType_0 {S : Option (Nat × (Nat → Int32))} {s : zSt} {Q : Option Value ⊕ Nat → zSt → Prop} {x0 : Int} 
    (h : rng x0 ∧ ((¬ (0 ≤ x0 ∧ x0 ≤ 7) → Q (rI 2) s) ∧ (0 ≤ x0 ∧ x0 ≤ 7 → (0 ≤ x0 ∧ x0 < 8) ∧ (Q (rI (ztab x0)) s)))) :
    wp S 44 0 [(0, iv x0)] [] s Q := by
  refine i_iload_n (x := x0) r_44_0 (n_44_0 _) rfl ?_
  obtain ⟨g1, h⟩ := h
  refine wp_stat (rest := []) (Ls := [(0, iv x0)]) r_44_1 (n_44_1 _) rfl ⟨rfl, by decide, by decide, by decide⟩ rfl rfl ⟨rfl, Nat.le_of_ble_eq_true rfl, Nat.le_of_ble_eq_true rfl⟩ rfl (K_RL_isPlain g1) ?_
  rintro _ _ ⟨rfl, rfl⟩
  refine .inl ⟨some (iv (bi (0 ≤ x0 ∧ x0 ≤ 7))), rfl, ?_⟩
  show wp S 44 4 [(0, iv x0)] [iv (bi (0 ≤ x0 ∧ x0 ≤ 7))] s Q
  refine i_if (t := 15) r_44_4 (n_44_4 _) rfl (TB_eq) (fun c3 => ?_) (fun c3 => ?_)
  · replace h := h.1 c3
    refine i_iconst r_44_15 (n_44_15 _) ?_
    exact i_ireturn r_44_16 (n_44_16 _) rfl h
  · replace h := h.2 c3
    refine i_plain r_44_7 (n_44_7 _) rfl ?_
    refine i_iload_n (x := x0) r_44_10 (n_44_10 _) rfl ?_
    obtain ⟨g4, h⟩ := h
    refine i_table r_44_11 (n_44_11 _) ⟨by omega, by omega⟩ (by omega) (by omega) (fun q5 => ?_)
    refine i_goto (t := 16) r_44_12 (n_44_12 _) rfl ?_
    exact i_ireturn r_44_16 (n_44_16 _) rfl h
theorem K_RL_bytesOfType {S : Option (Nat × (Nat → Int32))} {s : zSt} {x0 : Int}  (h1 : rng x0) : wp S 44 0 [(0, iv x0)] [] s (fun o t => o = rI (zby x0) ∧ s = t) := by
  refine wp_W fun hW => ?_
  refine v_RL_bytesOfType_0  ?_
  refine ⟨h1, fun z => ⟨congrArg rI (zby_out z).symm, rfl⟩, fun z => ⟨⟨by omega, by omega⟩, congrArg rI (zby_tab ⟨by omega, by omega⟩), rfl⟩⟩
theorem r_49_0 : xfetch 49 0 = some (.iload_n 0, 1) := by decide +kernel
theorem n_49_0 : ∀ l, xpr 49 0 l = l := xpr_no (by decide +kernel)
theorem r_49_1 : xfetch 49 1 = some (.bipush 97, 2) := by decide +kernel
theorem n_49_1 : ∀ l, xpr 49 1 l = l := xpr_no (by decide +kernel)
theorem r_49_3 : xfetch 49 3 = some (.isub, 1) := by decide +kernel
theorem n_49_3 : ∀ l, xpr 49 3 l = l := xpr_no (by decide +kernel)
theorem r_49_4 : xfetch 49 4 = some (.iconst 1, 1) := by decide +kernel
theorem n_49_4 : ∀ l, xpr 49 4 l = l := xpr_no (by decide +kernel)
theorem r_49_5 : xfetch 49 5 = some (.iadd, 1) := by decide +kernel
theorem n_49_5 : ∀ l, xpr 49 5 l = l := xpr_no (by decide +kernel)
theorem r_49_6 : xfetch 49 6 = some (.bipush 8, 2) := by decide +kernel
theorem n_49_6 : ∀ l, xpr 49 6 l = l := xpr_no (by decide +kernel)
theorem r_49_8 : xfetch 49 8 = some (.imul, 1) := by decide +kernel
theorem n_49_8 : ∀ l, xpr 49 8 l = l := xpr_no (by decide +kernel)
theorem r_49_9 : xfetch 49 9 = some (.iload_n 2, 1) := by decide +kernel
theorem n_49_9 : ∀ l, xpr 49 9 l = l := xpr_no (by decide +kernel)
theorem r_49_10 : xfetch 49 10 = some (.iconst 1, 1) := by decide +kernel
theorem n_49_10 : ∀ l, xpr 49 10 l = l := xpr_no (by decide +kernel)
theorem r_49_11 : xfetch 49 11 = some (.if_icmp .le 9, 3) := by decide +kernel
theorem n_49_11 : ∀ l, xpr 49 11 l = l := xpr_no (by decide +kernel)
theorem r_49_14 : xfetch 49 14 = some (.iload_n 1, 1) := by decide +kernel
theorem n_49_14 : ∀ l, xpr 49 14 l = l := xpr_no (by decide +kernel)
theorem r_49_15 : xfetch 49 15 = some (.iconst 1, 1) := by decide +kernel
theorem n_49_15 : ∀ l, xpr 49 15 l = l := xpr_no (by decide +kernel)
theorem r_49_16 : xfetch 49 16 = some (.iadd, 1) := by decide +kernel
theorem n_49_16 : ∀ l, xpr 49 16 l = l := xpr_no (by decide +kernel)
theorem r_49_17 : xfetch 49 17 = some (.goto 4, 3) := by decide +kernel
theorem n_49_17 : ∀ l, xpr 49 17 l = l := xpr_no (by decide +kernel)
theorem r_49_20 : xfetch 49 20 = some (.iconst 0, 1) := by decide +kernel
theorem n_49_20 : ∀ l, xpr 49 20 l = l := xpr_no (by decide +kernel)
theorem r_49_21 : xfetch 49 21 = some (.iadd, 1) := by decide +kernel
theorem n_49_21 : ∀ l, xpr 49 21 l = l := xpr_no (by decide +kernel)
theorem r_49_22 : xfetch 49 22 = some (.istore 5, 2) := by decide +kernel
theorem n_49_22 : ∀ l, xpr 49 22 l = l := xpr_no (by decide +kernel)
theorem r_49_24 : xfetch 49 24 = some (.lload_n 3, 1) := by decide +kernel
theorem n_49_24 : ∀ l, xpr 49 24 l = l := xpr_no (by decide +kernel)
theorem r_49_25 : xfetch 49 25 = some (.bipush 8, 2) := by decide +kernel
theorem n_49_25 : ∀ l, xpr 49 25 l = l := xpr_no (by decide +kernel)
theorem r_49_27 : xfetch 49 27 = some (.lshl, 1) := by decide +kernel
theorem n_49_27 : ∀ l, xpr 49 27 l = l := xpr_no (by decide +kernel)
theorem r_49_28 : xfetch 49 28 = some (.iload 5, 2) := by decide +kernel
theorem n_49_28 : ∀ l, xpr 49 28 l = l := xpr_no (by decide +kernel)
theorem r_49_30 : xfetch 49 30 = some (.i2l, 1) := by decide +kernel
theorem n_49_30 : ∀ l, xpr 49 30 l = l := xpr_no (by decide +kernel)
theorem r_49_31 : xfetch 49 31 = some (.lor, 1) := by decide +kernel
theorem n_49_31 : ∀ l, xpr 49 31 l = l := xpr_no (by decide +kernel)
theorem r_49_32 : xfetch 49 32 = some (.lreturn, 1) := by decide +kernel
theorem n_49_32 : ∀ l, xpr 49 32 l = l := xpr_no (by decide +kernel)
theorem v_RL_pathOf_0 {S : Option (Nat × (Nat → Int32))} {s : zSt} {Q : Option Value ⊕ Nat → zSt → Prop} {x0 : Int} {x1 : Int} {x2 : Int} {u3 : Int64} 
    (h : rng x2 ∧ ((x2 ≤ 1 → Q (rL ((zshlL u3 8) ||| (zi2l ((((x0 - 97) + 1) * 8) + 0)))) s) ∧ (1 < x2 → Q (rL ((zshlL u3 8) ||| (zi2l ((((x0 - 97) + 1) * 8) + (x1 + 1))))) s))) :
    wp S 49 0 [(0, iv x0), (1, iv x1), (2, iv x2), (3, .long u3)] [] s Q := by
  refine i_iload_n (x := x0) r_49_0 (n_49_0 _) rfl ?_
  refine i_bipush r_49_1 (n_49_1 _) rfl ?_
  refine i_isub r_49_3 (n_49_3 _) ?_
  refine i_iconst r_49_4 (n_49_4 _) ?_
  refine i_iadd r_49_5 (n_49_5 _) ?_
  refine i_bipush r_49_6 (n_49_6 _) rfl ?_
  refine i_imul r_49_8 (n_49_8 _) ?_
  refine i_iload_n (x := x2) r_49_9 (n_49_9 _) rfl ?_
  refine i_iconst r_49_10 (n_49_10 _) ?_
  obtain ⟨g1, h⟩ := h
  refine i_icmp (t := 20) r_49_11 (n_49_11 _) rfl (T_le g1 ⟨by omega, by omega⟩) (fun c2 => ?_) (fun c2 => ?_)
  · replace h := h.1 c2
    refine i_iconst r_49_20 (n_49_20 _) ?_
    refine i_iadd r_49_21 (n_49_21 _) ?_
    refine i_istore (l' := [(0, iv x0), (1, iv x1), (2, iv x2), (3, .long u3), (5, iv ((((x0 - 97) + 1) * 8) + 0))]) r_49_22 (n_49_22 _) (by decide) rfl ?_
    refine i_lload_n (u := u3) r_49_24 (n_49_24 _) rfl ?_
    refine i_bipush r_49_25 (n_49_25 _) rfl ?_
    refine i_lshl r_49_27 (n_49_27 _) ?_
    refine i_iload (x := (((x0 - 97) + 1) * 8) + 0) r_49_28 (n_49_28 _) rfl ?_
    refine i_i2l r_49_30 (n_49_30 _) ?_
    refine i_lor r_49_31 (n_49_31 _) ?_
    exact i_lreturn r_49_32 (n_49_32 _) rfl h
  · replace h := h.2 c2
    refine i_iload_n (x := x1) r_49_14 (n_49_14 _) rfl ?_
    refine i_iconst r_49_15 (n_49_15 _) ?_
    refine i_iadd r_49_16 (n_49_16 _) ?_
    refine i_goto (t := 21) r_49_17 (n_49_17 _) rfl ?_
    refine i_iadd r_49_21 (n_49_21 _) ?_
    refine i_istore (l' := [(0, iv x0), (1, iv x1), (2, iv x2), (3, .long u3), (5, iv ((((x0 - 97) + 1) * 8) + (x1 + 1)))]) r_49_22 (n_49_22 _) (by decide) rfl ?_
    refine i_lload_n (u := u3) r_49_24 (n_49_24 _) rfl ?_
    refine i_bipush r_49_25 (n_49_25 _) rfl ?_
    refine i_lshl r_49_27 (n_49_27 _) ?_
    refine i_iload (x := (((x0 - 97) + 1) * 8) + (x1 + 1)) r_49_28 (n_49_28 _) rfl ?_
    refine i_i2l r_49_30 (n_49_30 _) ?_
    refine i_lor r_49_31 (n_49_31 _) ?_
    exact i_lreturn r_49_32 (n_49_32 _) rfl h
theorem K_RL_pathOf {S : Option (Nat × (Nat → Int32))} {s : zSt} {x0 : Int} {x1 : Int} {x2 : Int} {u3 : Int64}  (h1 : rng x2) : wp S 49 0 [(0, iv x0), (1, iv x1), (2, iv x2), (3, .long u3)] [] s (fun o t => o = rL (zpo x0 x1 x2 u3) ∧ s = t) := by
  refine wp_W fun hW => ?_
  refine v_RL_pathOf_0  ?_
  refine ⟨h1, fun z => ⟨congrArg rL ?_, rfl⟩, fun z => ⟨congrArg rL ?_, rfl⟩⟩
  · unfold zpo; rw [if_neg (by omega)]
  · unfold zpo; rw [if_pos (by omega)]
theorem r_29_0 : xfetch 29 0 = some (.aload_n 0, 1) := by decide +kernel
theorem n_29_0 : ∀ l, xpr 29 0 l = l := xpr_no (by decide +kernel)
theorem r_29_1 : xfetch 29 1 = some (.getfield 41, 3) := by decide +kernel
theorem n_29_1 : ∀ l, xpr 29 1 l = l := xpr_no (by decide +kernel)
theorem r_29_4 : xfetch 29 4 = some (.aload_n 0, 1) := by decide +kernel
theorem n_29_4 : ∀ l, xpr 29 4 l = l := xpr_no (by decide +kernel)
theorem r_29_5 : xfetch 29 5 = some (.getfield 31, 3) := by decide +kernel
theorem n_29_5 : ∀ l, xpr 29 5 l = l := xpr_no (by decide +kernel)
theorem r_29_8 : xfetch 29 8 = some (.invokestatic 47, 3) := by decide +kernel
theorem n_29_8 : ∀ l, xpr 29 8 l = l := xpr_no (by decide +kernel)
theorem r_29_11 : xfetch 29 11 = some (.ireturn, 1) := by decide +kernel
theorem n_29_11 : ∀ l, xpr 29 11 l = l := xpr_no (by decide +kernel)
theorem v_Shape_size_0 {S : Option (Nat × (Nat → Int32))} {s : zSt} {Q : Option Value ⊕ Nat → zSt → Prop} {a0 : Int} (ha0 : isO a0 4)
    (h : (zp2 (zI s a0 5)) ∧ ((0 ≤ (zI s a0 7)) ∧ (((zI s a0 7) ≤ 1000000) ∧ (Q (rI (zup (zI s a0 7) (zI s a0 5))) s)))) :
    wp S 29 0 [(0, rf a0)] [] s Q := by
  refine i_aload_n (a := a0) r_29_0 (n_29_0 _) rfl ?_
  refine i_getI (a := a0) r_29_1 (n_29_1 _) rfl (by decide) ha0 (fun q1 => ?_)
  refine i_aload_n (a := a0) r_29_4 (n_29_4 _) rfl ?_
  refine i_getI (a := a0) r_29_5 (n_29_5 _) rfl (by decide) ha0 (fun q2 => ?_)
  obtain ⟨g3, h⟩ := h
  obtain ⟨g4, h⟩ := h
  obtain ⟨g5, h⟩ := h
  refine wp_stat (rest := []) (Ls := [(0, iv (zI s a0 7)), (1, iv (zI s a0 5))]) r_29_8 (n_29_8 _) rfl ⟨rfl, by decide, by decide, by decide⟩ rfl rfl ⟨rfl, Nat.le_of_ble_eq_true rfl, Nat.le_of_ble_eq_true rfl⟩ rfl (K_RL_roundUp g3 g4 g5) ?_
  rintro _ _ ⟨rfl, rfl⟩
  refine .inl ⟨some (iv (zup (zI s a0 7) (zI s a0 5))), rfl, ?_⟩
  show wp S 29 11 [(0, rf a0)] [iv (zup (zI s a0 7) (zI s a0 5))] s Q
  exact i_ireturn r_29_11 (n_29_11 _) rfl h
theorem K_Shape_size {S : Option (Nat × (Nat → Int32))} {s : zSt} {a0 : Int} (ha0 : isO a0 4) (h1 : (zp2 (zI s a0 5))) (h2 : (0 ≤ (zI s a0 7))) (h3 : ((zI s a0 7) ≤ 1000000)) : wp S 29 0 [(0, rf a0)] [] s (fun o t => o = rI (zup (zI s a0 7) (zI s a0 5)) ∧ s = t) := by
  refine wp_W fun hW => ?_
  refine v_Shape_size_0 ha0 ?_
  exact ⟨h1, h2, h3, rfl, rfl⟩
theorem r_40_0 : xfetch 40 0 = some (.aload_n 0, 1) := by decide +kernel
theorem n_40_0 : ∀ l, xpr 40 0 l = l := xpr_no (by decide +kernel)
theorem r_40_1 : xfetch 40 1 = some (.getfield 27, 3) := by decide +kernel
theorem n_40_1 : ∀ l, xpr 40 1 l = l := xpr_no (by decide +kernel)
theorem r_40_4 : xfetch 40 4 = some (.iconst 0, 1) := by decide +kernel
theorem n_40_4 : ∀ l, xpr 40 4 l = l := xpr_no (by decide +kernel)
theorem r_40_5 : xfetch 40 5 = some (.putfield 35, 3) := by decide +kernel
theorem n_40_5 : ∀ l, xpr 40 5 l = l := xpr_no (by decide +kernel)
theorem r_40_8 : xfetch 40 8 = some (.aload_n 0, 1) := by decide +kernel
theorem n_40_8 : ∀ l, xpr 40 8 l = l := xpr_no (by decide +kernel)
theorem r_40_9 : xfetch 40 9 = some (.iconst 1, 1) := by decide +kernel
theorem n_40_9 : ∀ l, xpr 40 9 l = l := xpr_no (by decide +kernel)
theorem r_40_10 : xfetch 40 10 = some (.putfield 31, 3) := by decide +kernel
theorem n_40_10 : ∀ l, xpr 40 10 l = l := xpr_no (by decide +kernel)
theorem r_40_13 : xfetch 40 13 = some (.aload_n 0, 1) := by decide +kernel
theorem n_40_13 : ∀ l, xpr 40 13 l = l := xpr_no (by decide +kernel)
theorem r_40_14 : xfetch 40 14 = some (.iconst 0, 1) := by decide +kernel
theorem n_40_14 : ∀ l, xpr 40 14 l = l := xpr_no (by decide +kernel)
theorem r_40_15 : xfetch 40 15 = some (.putfield 38, 3) := by decide +kernel
theorem n_40_15 : ∀ l, xpr 40 15 l = l := xpr_no (by decide +kernel)
theorem r_40_18 : xfetch 40 18 = some (.aload_n 0, 1) := by decide +kernel
theorem n_40_18 : ∀ l, xpr 40 18 l = l := xpr_no (by decide +kernel)
theorem r_40_19 : xfetch 40 19 = some (.iconst 0, 1) := by decide +kernel
theorem n_40_19 : ∀ l, xpr 40 19 l = l := xpr_no (by decide +kernel)
theorem r_40_20 : xfetch 40 20 = some (.putfield 41, 3) := by decide +kernel
theorem n_40_20 : ∀ l, xpr 40 20 l = l := xpr_no (by decide +kernel)
theorem r_40_23 : xfetch 40 23 = some (.aload_n 0, 1) := by decide +kernel
theorem n_40_23 : ∀ l, xpr 40 23 l = l := xpr_no (by decide +kernel)
theorem r_40_24 : xfetch 40 24 = some (.iconst 0, 1) := by decide +kernel
theorem n_40_24 : ∀ l, xpr 40 24 l = l := xpr_no (by decide +kernel)
theorem r_40_25 : xfetch 40 25 = some (.putfield 44, 3) := by decide +kernel
theorem n_40_25 : ∀ l, xpr 40 25 l = l := xpr_no (by decide +kernel)
theorem r_40_28 : xfetch 40 28 = some (.return_, 1) := by decide +kernel
theorem n_40_28 : ∀ l, xpr 40 28 l = l := xpr_no (by decide +kernel)
theorem v_Shape_clear_0 {S : Option (Nat × (Nat → Int32))} {s : zSt} {Q : Option Value ⊕ Nat → zSt → Prop} {a0 : Int} (ha0 : isO a0 4)
    (h : Q rU (zwI (zwI (zwI (zwI (zwI s (a0 + 5) 0 0) a0 5 1) a0 6 0) a0 7 0) a0 8 0)) :
    wp S 40 0 [(0, rf a0)] [] s Q := by
  refine i_aload_n (a := a0) r_40_0 (n_40_0 _) rfl ?_
  refine i_getR (a := a0) (b := a0 + 5) r_40_1 (n_40_1 _) rfl rfl rfl (by omega) ha0 (by omega) ?_
  have t1 := (t_4_4 ha0)
  refine i_iconst r_40_4 (n_40_4 _) ?_
  refine i_putI (a := a0 + 5) (x := 0) r_40_5 (n_40_5 _) rfl (.inl rfl) rfl t1 ⟨by omega, by omega⟩ ?_
  refine i_aload_n (a := a0) r_40_8 (n_40_8 _) rfl ?_
  refine i_iconst r_40_9 (n_40_9 _) ?_
  refine i_putI (a := a0) (x := 1) r_40_10 (n_40_10 _) rfl (.inl rfl) rfl ha0 ⟨by omega, by omega⟩ ?_
  refine i_aload_n (a := a0) r_40_13 (n_40_13 _) rfl ?_
  refine i_iconst r_40_14 (n_40_14 _) ?_
  refine i_putI (a := a0) (x := 0) r_40_15 (n_40_15 _) rfl (.inl rfl) rfl ha0 ⟨by omega, by omega⟩ ?_
  refine i_aload_n (a := a0) r_40_18 (n_40_18 _) rfl ?_
  refine i_iconst r_40_19 (n_40_19 _) ?_
  refine i_putI (a := a0) (x := 0) r_40_20 (n_40_20 _) rfl (.inl rfl) rfl ha0 ⟨by omega, by omega⟩ ?_
  refine i_aload_n (a := a0) r_40_23 (n_40_23 _) rfl ?_
  refine i_iconst r_40_24 (n_40_24 _) ?_
  refine i_putI (a := a0) (x := 0) r_40_25 (n_40_25 _) rfl (.inl rfl) rfl ha0 ⟨by omega, by omega⟩ ?_
  exact i_return r_40_28 (n_40_28 _) rfl h
theorem K_Shape_clear {S : Option (Nat × (Nat → Int32))} {s : zSt} {a0 : Int} (ha0 : isO a0 4)  : wp S 40 0 [(0, rf a0)] [] s (fun o t => o = rU ∧ (zwI (zwI (zwI (zwI (zwI s (a0 + 5) 0 0) a0 5 1) a0 6 0) a0 7 0) a0 8 0) = t) := by
  refine wp_W fun hW => ?_
  refine v_Shape_clear_0 ha0 ?_
  exact ⟨rfl, rfl⟩
theorem r_38_0 : xfetch 38 0 = some (.aload_n 0, 1) := by decide +kernel
theorem n_38_0 : ∀ l, xpr 38 0 l = l := xpr_no (by decide +kernel)
theorem r_38_1 : xfetch 38 1 = some (.iload_n 1, 1) := by decide +kernel
theorem n_38_1 : ∀ l, xpr 38 1 l = l := xpr_no (by decide +kernel)
theorem r_38_2 : xfetch 38 2 = some (.putfield 9, 3) := by decide +kernel
theorem n_38_2 : ∀ l, xpr 38 2 l = l := xpr_no (by decide +kernel)
theorem r_38_5 : xfetch 38 5 = some (.aload_n 0, 1) := by decide +kernel
theorem n_38_5 : ∀ l, xpr 38 5 l = l := xpr_no (by decide +kernel)
theorem r_38_6 : xfetch 38 6 = some (.iconst 0, 1) := by decide +kernel
theorem n_38_6 : ∀ l, xpr 38 6 l = l := xpr_no (by decide +kernel)
theorem r_38_7 : xfetch 38 7 = some (.putfield 25, 3) := by decide +kernel
theorem n_38_7 : ∀ l, xpr 38 7 l = l := xpr_no (by decide +kernel)
theorem r_38_10 : xfetch 38 10 = some (.return_, 1) := by decide +kernel
theorem n_38_10 : ∀ l, xpr 38 10 l = l := xpr_no (by decide +kernel)
theorem v_Fields_start_0 {S : Option (Nat × (Nat → Int32))} {s : zSt} {Q : Option Value ⊕ Nat → zSt → Prop} {a0 : Int} {x1 : Int} (ha0 : isO a0 1)
    (h : rng x1 ∧ (Q rU (zwI (zwI s a0 0 x1) a0 1 0))) :
    wp S 38 0 [(0, rf a0), (1, iv x1)] [] s Q := by
  refine i_aload_n (a := a0) r_38_0 (n_38_0 _) rfl ?_
  refine i_iload_n (x := x1) r_38_1 (n_38_1 _) rfl ?_
  obtain ⟨g1, h⟩ := h
  refine i_putI (a := a0) (x := x1) r_38_2 (n_38_2 _) rfl (.inl rfl) rfl ha0 g1 ?_
  refine i_aload_n (a := a0) r_38_5 (n_38_5 _) rfl ?_
  refine i_iconst r_38_6 (n_38_6 _) ?_
  refine i_putI (a := a0) (x := 0) r_38_7 (n_38_7 _) rfl (.inl rfl) rfl ha0 ⟨by omega, by omega⟩ ?_
  exact i_return r_38_10 (n_38_10 _) rfl h
theorem K_Fields_start {S : Option (Nat × (Nat → Int32))} {s : zSt} {a0 : Int} {x1 : Int} (ha0 : isO a0 1) (h1 : rng x1) : wp S 38 0 [(0, rf a0), (1, iv x1)] [] s (fun o t => o = rU ∧ (zwI (zwI s a0 0 x1) a0 1 0) = t) := by
  refine wp_W fun hW => ?_
  refine v_Fields_start_0 ha0 ?_
  exact ⟨h1, rfl, rfl⟩
theorem r_121_0 : xfetch 121 0 = some (.aload_n 0, 1) := by decide +kernel
theorem n_121_0 : ∀ l, xpr 121 0 l = l := xpr_no (by decide +kernel)
theorem r_121_1 : xfetch 121 1 = some (.iload_n 1, 1) := by decide +kernel
theorem n_121_1 : ∀ l, xpr 121 1 l = l := xpr_no (by decide +kernel)
theorem r_121_2 : xfetch 121 2 = some (.putfield 72, 3) := by decide +kernel
theorem n_121_2 : ∀ l, xpr 121 2 l = l := xpr_no (by decide +kernel)
theorem r_121_5 : xfetch 121 5 = some (.aload_n 0, 1) := by decide +kernel
theorem n_121_5 : ∀ l, xpr 121 5 l = l := xpr_no (by decide +kernel)
theorem r_121_6 : xfetch 121 6 = some (.iload_n 2, 1) := by decide +kernel
theorem n_121_6 : ∀ l, xpr 121 6 l = l := xpr_no (by decide +kernel)
theorem r_121_7 : xfetch 121 7 = some (.putfield 75, 3) := by decide +kernel
theorem n_121_7 : ∀ l, xpr 121 7 l = l := xpr_no (by decide +kernel)
theorem r_121_10 : xfetch 121 10 = some (.return_, 1) := by decide +kernel
theorem n_121_10 : ∀ l, xpr 121 10 l = l := xpr_no (by decide +kernel)
theorem v_View_moveTo_0 {S : Option (Nat × (Nat → Int32))} {s : zSt} {Q : Option Value ⊕ Nat → zSt → Prop} {a0 : Int} {x1 : Int} {x2 : Int} (ha0 : isO a0 8)
    (h : rng x1 ∧ (rng x2 ∧ (Q rU (zwI (zwI s a0 0 x1) a0 1 x2)))) :
    wp S 121 0 [(0, rf a0), (1, iv x1), (2, iv x2)] [] s Q := by
  refine i_aload_n (a := a0) r_121_0 (n_121_0 _) rfl ?_
  refine i_iload_n (x := x1) r_121_1 (n_121_1 _) rfl ?_
  obtain ⟨g1, h⟩ := h
  refine i_putI (a := a0) (x := x1) r_121_2 (n_121_2 _) rfl (.inl rfl) rfl ha0 g1 ?_
  refine i_aload_n (a := a0) r_121_5 (n_121_5 _) rfl ?_
  refine i_iload_n (x := x2) r_121_6 (n_121_6 _) rfl ?_
  obtain ⟨g2, h⟩ := h
  refine i_putI (a := a0) (x := x2) r_121_7 (n_121_7 _) rfl (.inl rfl) rfl ha0 g2 ?_
  exact i_return r_121_10 (n_121_10 _) rfl h
theorem K_View_moveTo {S : Option (Nat × (Nat → Int32))} {s : zSt} {a0 : Int} {x1 : Int} {x2 : Int} (ha0 : isO a0 8) (h1 : rng x1) (h2 : rng x2) : wp S 121 0 [(0, rf a0), (1, iv x1), (2, iv x2)] [] s (fun o t => o = rU ∧ (zwI (zwI s a0 0 x1) a0 1 x2) = t) := by
  refine wp_W fun hW => ?_
  refine v_View_moveTo_0 ha0 ?_
  exact ⟨h1, h2, rfl, rfl⟩
theorem r_123_0 : xfetch 123 0 = some (.iload_n 1, 1) := by decide +kernel
theorem n_123_0 : ∀ l, xpr 123 0 l = l := xpr_no (by decide +kernel)
theorem r_123_1 : xfetch 123 1 = some (.ifCond .lt 21, 3) := by decide +kernel
theorem n_123_1 : ∀ l, xpr 123 1 l = l := xpr_no (by decide +kernel)
theorem r_123_4 : xfetch 123 4 = some (.iload_n 1, 1) := by decide +kernel
theorem n_123_4 : ∀ l, xpr 123 4 l = l := xpr_no (by decide +kernel)
theorem r_123_5 : xfetch 123 5 = some (.aload_n 0, 1) := by decide +kernel
theorem n_123_5 : ∀ l, xpr 123 5 l = l := xpr_no (by decide +kernel)
theorem r_123_6 : xfetch 123 6 = some (.getfield 42, 3) := by decide +kernel
theorem n_123_6 : ∀ l, xpr 123 6 l = l := xpr_no (by decide +kernel)
theorem r_123_9 : xfetch 123 9 = some (.if_icmp .ge 13, 3) := by decide +kernel
theorem n_123_9 : ∀ l, xpr 123 9 l = l := xpr_no (by decide +kernel)
theorem r_123_12 : xfetch 123 12 = some (.iload_n 1, 1) := by decide +kernel
theorem n_123_12 : ∀ l, xpr 123 12 l = l := xpr_no (by decide +kernel)
theorem r_123_13 : xfetch 123 13 = some (.bipush 40, 2) := by decide +kernel
theorem n_123_13 : ∀ l, xpr 123 13 l = l := xpr_no (by decide +kernel)
theorem r_123_15 : xfetch 123 15 = some (.if_icmp .ge 7, 3) := by decide +kernel
theorem n_123_15 : ∀ l, xpr 123 15 l = l := xpr_no (by decide +kernel)
theorem r_123_18 : xfetch 123 18 = some (.iconst 1, 1) := by decide +kernel
theorem n_123_18 : ∀ l, xpr 123 18 l = l := xpr_no (by decide +kernel)
theorem r_123_19 : xfetch 123 19 = some (.goto 4, 3) := by decide +kernel
theorem n_123_19 : ∀ l, xpr 123 19 l = l := xpr_no (by decide +kernel)
theorem r_123_22 : xfetch 123 22 = some (.iconst 0, 1) := by decide +kernel
theorem n_123_22 : ∀ l, xpr 123 22 l = l := xpr_no (by decide +kernel)
theorem r_123_23 : xfetch 123 23 = some (.ireturn, 1) := by decide +kernel
theorem n_123_23 : ∀ l, xpr 123 23 l = l := xpr_no (by decide +kernel)
theorem v_View_hasLeaf_0 {S : Option (Nat × (Nat → Int32))} {s : zSt} {Q : Option Value ⊕ Nat → zSt → Prop} {a0 : Int} {x1 : Int} (ha0 : isO a0 8)
    (h : rng x1 ∧ ((x1 < 0 → Q (rI 0) s) ∧ (0 ≤ x1 → ((zI s a0 3) ≤ x1 → Q (rI 0) s) ∧ (x1 < (zI s a0 3) → (40 ≤ x1 → Q (rI 0) s) ∧ (x1 < 40 → Q (rI 1) s))))) :
    wp S 123 0 [(0, rf a0), (1, iv x1)] [] s Q := by
  refine i_iload_n (x := x1) r_123_0 (n_123_0 _) rfl ?_
  obtain ⟨g1, h⟩ := h
  refine i_if (t := 22) r_123_1 (n_123_1 _) rfl (T_lt g1 ⟨by omega, by omega⟩) (fun c2 => ?_) (fun c2 => ?_)
  · replace h := h.1 c2
    refine i_iconst r_123_22 (n_123_22 _) ?_
    exact i_zreturn r_123_23 (n_123_23 _) rfl (by decide) h
  · replace h := h.2 c2
    refine i_iload_n (x := x1) r_123_4 (n_123_4 _) rfl ?_
    refine i_aload_n (a := a0) r_123_5 (n_123_5 _) rfl ?_
    refine i_getI (a := a0) r_123_6 (n_123_6 _) rfl (by decide) ha0 (fun q3 => ?_)
    refine i_icmp (t := 22) r_123_9 (n_123_9 _) rfl (T_ge g1 q3) (fun c4 => ?_) (fun c4 => ?_)
    · replace h := h.1 c4
      refine i_iconst r_123_22 (n_123_22 _) ?_
      exact i_zreturn r_123_23 (n_123_23 _) rfl (by decide) h
    · replace h := h.2 c4
      refine i_iload_n (x := x1) r_123_12 (n_123_12 _) rfl ?_
      refine i_bipush r_123_13 (n_123_13 _) rfl ?_
      refine i_icmp (t := 22) r_123_15 (n_123_15 _) rfl (T_ge g1 ⟨by omega, by omega⟩) (fun c5 => ?_) (fun c5 => ?_)
      · replace h := h.1 c5
        refine i_iconst r_123_22 (n_123_22 _) ?_
        exact i_zreturn r_123_23 (n_123_23 _) rfl (by decide) h
      · replace h := h.2 c5
        refine i_iconst r_123_18 (n_123_18 _) ?_
        refine i_goto (t := 23) r_123_19 (n_123_19 _) rfl ?_
        exact i_zreturn r_123_23 (n_123_23 _) rfl (by decide) h
theorem K_View_hasLeaf {S : Option (Nat × (Nat → Int32))} {s : zSt} {a0 : Int} {x1 : Int} (ha0 : isO a0 8) (h1 : rng x1) : wp S 123 0 [(0, rf a0), (1, iv x1)] [] s (fun o t => o = rI (bi (0 ≤ x1 ∧ x1 < zI s a0 3 ∧ x1 < 40)) ∧ s = t) := by
  refine wp_W fun hW => ?_
  refine v_View_hasLeaf_0 ha0 ?_
  repeat' (first | assumption | rfl | (intro _) | (refine ⟨?_, ?_⟩) | omega | exact congrArg rI (bi_F (by omega)).symm | exact congrArg rI (bi_T (by omega)).symm)
theorem r_128_0 : xfetch 128 0 = some (.lconst 1, 1) := by decide +kernel
theorem n_128_0 : ∀ l, xpr 128 0 l = l := xpr_no (by decide +kernel)
theorem r_128_1 : xfetch 128 1 = some (.iload_n 0, 1) := by decide +kernel
theorem n_128_1 : ∀ l, xpr 128 1 l = l := xpr_no (by decide +kernel)
theorem r_128_2 : xfetch 128 2 = some (.bipush 20, 2) := by decide +kernel
theorem n_128_2 : ∀ l, xpr 128 2 l = l := xpr_no (by decide +kernel)
theorem r_128_4 : xfetch 128 4 = some (.isub, 1) := by decide +kernel
theorem n_128_4 : ∀ l, xpr 128 4 l = l := xpr_no (by decide +kernel)
theorem r_128_5 : xfetch 128 5 = some (.lshl, 1) := by decide +kernel
theorem n_128_5 : ∀ l, xpr 128 5 l = l := xpr_no (by decide +kernel)
theorem r_128_6 : xfetch 128 6 = some (.lconst 1, 1) := by decide +kernel
theorem n_128_6 : ∀ l, xpr 128 6 l = l := xpr_no (by decide +kernel)
theorem r_128_7 : xfetch 128 7 = some (.lsub, 1) := by decide +kernel
theorem n_128_7 : ∀ l, xpr 128 7 l = l := xpr_no (by decide +kernel)
theorem r_128_8 : xfetch 128 8 = some (.lreturn, 1) := by decide +kernel
theorem n_128_8 : ∀ l, xpr 128 8 l = l := xpr_no (by decide +kernel)
theorem v_View_maskOf_0 {S : Option (Nat × (Nat → Int32))} {s : zSt} {Q : Option Value ⊕ Nat → zSt → Prop} {x0 : Int} 
    (h : Q (rL ((zshlL 1 (x0 - 20)) - 1)) s) :
    wp S 128 0 [(0, iv x0)] [] s Q := by
  refine i_lconst r_128_0 (n_128_0 _) ?_
  refine i_iload_n (x := x0) r_128_1 (n_128_1 _) rfl ?_
  refine i_bipush r_128_2 (n_128_2 _) rfl ?_
  refine i_isub r_128_4 (n_128_4 _) ?_
  refine i_lshl r_128_5 (n_128_5 _) ?_
  refine i_lconst r_128_6 (n_128_6 _) ?_
  refine i_lsub r_128_7 (n_128_7 _) ?_
  exact i_lreturn r_128_8 (n_128_8 _) rfl h
theorem K_View_maskOf {S : Option (Nat × (Nat → Int32))} {s : zSt} {x0 : Int}   : wp S 128 0 [(0, iv x0)] [] s (fun o t => o = rL ((zshlL 1 (x0 - 20)) - 1) ∧ s = t) := by
  refine wp_W fun hW => ?_
  refine v_View_maskOf_0  ?_
  exact ⟨rfl, rfl⟩
theorem r_122_0 : xfetch 122 0 = some (.aload_n 0, 1) := by decide +kernel
theorem n_122_0 : ∀ l, xpr 122 0 l = l := xpr_no (by decide +kernel)
theorem r_122_1 : xfetch 122 1 = some (.iload_n 2, 1) := by decide +kernel
theorem n_122_1 : ∀ l, xpr 122 1 l = l := xpr_no (by decide +kernel)
theorem r_122_2 : xfetch 122 2 = some (.invokevirtual 78, 3) := by decide +kernel
theorem n_122_2 : ∀ l, xpr 122 2 l = l := xpr_no (by decide +kernel)
theorem r_122_5 : xfetch 122 5 = some (.ifCond .eq 11, 3) := by decide +kernel
theorem n_122_5 : ∀ l, xpr 122 5 l = l := xpr_no (by decide +kernel)
theorem r_122_8 : xfetch 122 8 = some (.aload_n 0, 1) := by decide +kernel
theorem n_122_8 : ∀ l, xpr 122 8 l = l := xpr_no (by decide +kernel)
theorem r_122_9 : xfetch 122 9 = some (.getfield 9, 3) := by decide +kernel
theorem n_122_9 : ∀ l, xpr 122 9 l = l := xpr_no (by decide +kernel)
theorem r_122_12 : xfetch 122 12 = some (.iconst 1, 1) := by decide +kernel
theorem n_122_12 : ∀ l, xpr 122 12 l = l := xpr_no (by decide +kernel)
theorem r_122_13 : xfetch 122 13 = some (.if_icmp .ge 5, 3) := by decide +kernel
theorem n_122_13 : ∀ l, xpr 122 13 l = l := xpr_no (by decide +kernel)
theorem r_122_16 : xfetch 122 16 = some (.iconst (-1), 1) := by decide +kernel
theorem n_122_16 : ∀ l, xpr 122 16 l = l := xpr_no (by decide +kernel)
theorem r_122_17 : xfetch 122 17 = some (.ireturn, 1) := by decide +kernel
theorem n_122_17 : ∀ l, xpr 122 17 l = l := xpr_no (by decide +kernel)
theorem r_122_18 : xfetch 122 18 = some (.aload_n 0, 1) := by decide +kernel
theorem n_122_18 : ∀ l, xpr 122 18 l = l := xpr_no (by decide +kernel)
theorem r_122_19 : xfetch 122 19 = some (.getfield 72, 3) := by decide +kernel
theorem n_122_19 : ∀ l, xpr 122 19 l = l := xpr_no (by decide +kernel)
theorem r_122_22 : xfetch 122 22 = some (.iload_n 1, 1) := by decide +kernel
theorem n_122_22 : ∀ l, xpr 122 22 l = l := xpr_no (by decide +kernel)
theorem r_122_23 : xfetch 122 23 = some (.aload_n 0, 1) := by decide +kernel
theorem n_122_23 : ∀ l, xpr 122 23 l = l := xpr_no (by decide +kernel)
theorem r_122_24 : xfetch 122 24 = some (.getfield 9, 3) := by decide +kernel
theorem n_122_24 : ∀ l, xpr 122 24 l = l := xpr_no (by decide +kernel)
theorem r_122_27 : xfetch 122 27 = some (.idiv, 1) := by decide +kernel
theorem n_122_27 : ∀ l, xpr 122 27 l = l := xpr_no (by decide +kernel)
theorem r_122_28 : xfetch 122 28 = some (.aload_n 0, 1) := by decide +kernel
theorem n_122_28 : ∀ l, xpr 122 28 l = l := xpr_no (by decide +kernel)
theorem r_122_29 : xfetch 122 29 = some (.getfield 66, 3) := by decide +kernel
theorem n_122_29 : ∀ l, xpr 122 29 l = l := xpr_no (by decide +kernel)
theorem r_122_32 : xfetch 122 32 = some (.imul, 1) := by decide +kernel
theorem n_122_32 : ∀ l, xpr 122 32 l = l := xpr_no (by decide +kernel)
theorem r_122_33 : xfetch 122 33 = some (.iadd, 1) := by decide +kernel
theorem n_122_33 : ∀ l, xpr 122 33 l = l := xpr_no (by decide +kernel)
theorem r_122_34 : xfetch 122 34 = some (.aload_n 0, 1) := by decide +kernel
theorem n_122_34 : ∀ l, xpr 122 34 l = l := xpr_no (by decide +kernel)
theorem r_122_35 : xfetch 122 35 = some (.getfield 19, 3) := by decide +kernel
theorem n_122_35 : ∀ l, xpr 122 35 l = l := xpr_no (by decide +kernel)
theorem r_122_38 : xfetch 122 38 = some (.iload_n 2, 1) := by decide +kernel
theorem n_122_38 : ∀ l, xpr 122 38 l = l := xpr_no (by decide +kernel)
theorem r_122_39 : xfetch 122 39 = some (.iaload, 1) := by decide +kernel
theorem n_122_39 : ∀ l, xpr 122 39 l = l := xpr_no (by decide +kernel)
theorem r_122_40 : xfetch 122 40 = some (.iadd, 1) := by decide +kernel
theorem n_122_40 : ∀ l, xpr 122 40 l = l := xpr_no (by decide +kernel)
theorem r_122_41 : xfetch 122 41 = some (.iload_n 1, 1) := by decide +kernel
theorem n_122_41 : ∀ l, xpr 122 41 l = l := xpr_no (by decide +kernel)
theorem r_122_42 : xfetch 122 42 = some (.aload_n 0, 1) := by decide +kernel
theorem n_122_42 : ∀ l, xpr 122 42 l = l := xpr_no (by decide +kernel)
theorem r_122_43 : xfetch 122 43 = some (.getfield 9, 3) := by decide +kernel
theorem n_122_43 : ∀ l, xpr 122 43 l = l := xpr_no (by decide +kernel)
theorem r_122_46 : xfetch 122 46 = some (.irem, 1) := by decide +kernel
theorem n_122_46 : ∀ l, xpr 122 46 l = l := xpr_no (by decide +kernel)
theorem r_122_47 : xfetch 122 47 = some (.aload_n 0, 1) := by decide +kernel
theorem n_122_47 : ∀ l, xpr 122 47 l = l := xpr_no (by decide +kernel)
theorem r_122_48 : xfetch 122 48 = some (.getfield 22, 3) := by decide +kernel
theorem n_122_48 : ∀ l, xpr 122 48 l = l := xpr_no (by decide +kernel)
theorem r_122_51 : xfetch 122 51 = some (.iload_n 2, 1) := by decide +kernel
theorem n_122_51 : ∀ l, xpr 122 51 l = l := xpr_no (by decide +kernel)
theorem r_122_52 : xfetch 122 52 = some (.iaload, 1) := by decide +kernel
theorem n_122_52 : ∀ l, xpr 122 52 l = l := xpr_no (by decide +kernel)
theorem r_122_53 : xfetch 122 53 = some (.imul, 1) := by decide +kernel
theorem n_122_53 : ∀ l, xpr 122 53 l = l := xpr_no (by decide +kernel)
theorem r_122_54 : xfetch 122 54 = some (.iadd, 1) := by decide +kernel
theorem n_122_54 : ∀ l, xpr 122 54 l = l := xpr_no (by decide +kernel)
theorem r_122_55 : xfetch 122 55 = some (.ireturn, 1) := by decide +kernel
theorem n_122_55 : ∀ l, xpr 122 55 l = l := xpr_no (by decide +kernel)
theorem v_View_placeOf_0 {S : Option (Nat × (Nat → Int32))} {s : zSt} {Q : Option Value ⊕ Nat → zSt → Prop} {a0 : Int} {x1 : Int} {x2 : Int} (ha0 : isO a0 8)
    (h : rng x2 ∧ ((¬ (0 ≤ x2 ∧ x2 < zI s a0 3 ∧ x2 < 40) → Q (rI (-1)) s) ∧ (0 ≤ x2 ∧ x2 < zI s a0 3 ∧ x2 < 40 → (1 ≤ (zI s a0 5) → rng x1 ∧ (0 ≤ x1 ∧ (0 < (zI s a0 5) ∧ ((0 ≤ x2 ∧ x2 < 40) ∧ (Q (rI ((((zI s a0 0) + ((x1 / (zI s a0 5)) * (zI s a0 6))) + (zI s (a0 + 2) x2)) + ((x1 % (zI s a0 5)) * (zI s (a0 + 3) x2)))) s))))) ∧ ((zI s a0 5) < 1 → Q (rI (-1)) s)))) :
    wp S 122 0 [(0, rf a0), (1, iv x1), (2, iv x2)] [] s Q := by
  refine i_aload_n (a := a0) r_122_0 (n_122_0 _) rfl ?_
  refine i_iload_n (x := x2) r_122_1 (n_122_1 _) rfl ?_
  obtain ⟨g1, h⟩ := h
  refine wp_virt (b := a0) (rest := []) (Ls := [(0, rf a0), (1, iv x2)]) r_122_2 (n_122_2 _) rfl ⟨rfl, rfl, by decide, by decide⟩ rfl rfl ha0 ⟨rfl, Nat.le_of_ble_eq_true rfl, Nat.le_of_ble_eq_true rfl⟩ rfl (K_View_hasLeaf ha0 g1) ?_
  rintro _ _ ⟨rfl, rfl⟩
  refine .inl ⟨some (iv (bi (0 ≤ x2 ∧ x2 < zI s a0 3 ∧ x2 < 40))), rfl, ?_⟩
  show wp S 122 5 [(0, rf a0), (1, iv x1), (2, iv x2)] [iv (bi (0 ≤ x2 ∧ x2 < zI s a0 3 ∧ x2 < 40))] s Q
  refine i_if (t := 16) r_122_5 (n_122_5 _) rfl (TB_eq) (fun c3 => ?_) (fun c3 => ?_)
  · replace h := h.1 c3
    refine i_iconst r_122_16 (n_122_16 _) ?_
    exact i_ireturn r_122_17 (n_122_17 _) rfl h
  · replace h := h.2 c3
    refine i_aload_n (a := a0) r_122_8 (n_122_8 _) rfl ?_
    refine i_getI (a := a0) r_122_9 (n_122_9 _) rfl (by decide) ha0 (fun q4 => ?_)
    refine i_iconst r_122_12 (n_122_12 _) ?_
    refine i_icmp (t := 18) r_122_13 (n_122_13 _) rfl (T_ge q4 ⟨by omega, by omega⟩) (fun c5 => ?_) (fun c5 => ?_)
    · replace h := h.1 c5
      refine i_aload_n (a := a0) r_122_18 (n_122_18 _) rfl ?_
      refine i_getI (a := a0) r_122_19 (n_122_19 _) rfl (by decide) ha0 (fun q6 => ?_)
      refine i_iload_n (x := x1) r_122_22 (n_122_22 _) rfl ?_
      refine i_aload_n (a := a0) r_122_23 (n_122_23 _) rfl ?_
      refine i_getI (a := a0) r_122_24 (n_122_24 _) rfl (by decide) ha0 (fun q7 => ?_)
      obtain ⟨g8, h⟩ := h
      obtain ⟨g9, h⟩ := h
      obtain ⟨g10, h⟩ := h
      refine i_idiv r_122_27 (n_122_27 _) g8 q7 (by omega) (by omega) ?_
      refine i_aload_n (a := a0) r_122_28 (n_122_28 _) rfl ?_
      refine i_getI (a := a0) r_122_29 (n_122_29 _) rfl (by decide) ha0 (fun q11 => ?_)
      refine i_imul r_122_32 (n_122_32 _) ?_
      refine i_iadd r_122_33 (n_122_33 _) ?_
      refine i_aload_n (a := a0) r_122_34 (n_122_34 _) rfl ?_
      refine i_getR (a := a0) (b := a0 + 2) r_122_35 (n_122_35 _) rfl rfl rfl (by omega) ha0 (by omega) ?_
      have t12 := (t_8_8 ha0)
      refine i_iload_n (x := x2) r_122_38 (n_122_38 _) rfl ?_
      obtain ⟨g13, h⟩ := h
      refine i_iaload (a := a0 + 2) (j := x2) r_122_39 (n_122_39 _) t12 ⟨by omega, by omega⟩ (by omega) (by omega) (fun q14 => ?_)
      refine i_iadd r_122_40 (n_122_40 _) ?_
      refine i_iload_n (x := x1) r_122_41 (n_122_41 _) rfl ?_
      refine i_aload_n (a := a0) r_122_42 (n_122_42 _) rfl ?_
      refine i_getI (a := a0) r_122_43 (n_122_43 _) rfl (by decide) ha0 (fun q15 => ?_)
      refine i_irem r_122_46 (n_122_46 _) g8 q15 (by omega) (by omega) ?_
      refine i_aload_n (a := a0) r_122_47 (n_122_47 _) rfl ?_
      refine i_getR (a := a0) (b := a0 + 3) r_122_48 (n_122_48 _) rfl rfl rfl (by omega) ha0 (by omega) ?_
      have t16 := (t_8_9 ha0)
      refine i_iload_n (x := x2) r_122_51 (n_122_51 _) rfl ?_
      refine i_iaload (a := a0 + 3) (j := x2) r_122_52 (n_122_52 _) t16 ⟨by omega, by omega⟩ (by omega) (by omega) (fun q17 => ?_)
      refine i_imul r_122_53 (n_122_53 _) ?_
      refine i_iadd r_122_54 (n_122_54 _) ?_
      exact i_ireturn r_122_55 (n_122_55 _) rfl h
    · replace h := h.2 c5
      refine i_iconst r_122_16 (n_122_16 _) ?_
      exact i_ireturn r_122_17 (n_122_17 _) rfl h
theorem K_View_placeOf {S : Option (Nat × (Nat → Int32))} {s : zSt} {a0 : Int} {x1 : Int} {x2 : Int} (ha0 : isO a0 8) (h1 : (0 ≤ x2 ∧ x2 < 40)) (h2 : x2 < zI s a0 3) (h3 : 0 < zI s a0 5) (h4 : rng x1) (h5 : 0 ≤ x1) : wp S 122 0 [(0, rf a0), (1, iv x1), (2, iv x2)] [] s (fun o t => o = rI (zI s a0 0 + x1 / zI s a0 5 * zI s a0 6 + zI s (a0 + 2) x2 + x1 % zI s a0 5 * zI s (a0 + 3) x2) ∧ s = t) := by
  refine wp_W fun hW => ?_
  refine v_View_placeOf_0 ha0 ?_
  first | exact ⟨⟨by omega, by omega⟩, fun z => absurd ⟨h1.1, h2, h1.2⟩ z, fun _ => ⟨fun _ => ⟨h4, h5, h3, h1, rfl, rfl⟩, fun z => absurd h3 (by omega)⟩⟩ | exact ⟨⟨by omega, by omega⟩, fun _ => ⟨fun _ => ⟨h4, h5, h3, h1, rfl, rfl⟩, fun z => absurd h3 (by omega)⟩, fun z => absurd ⟨h1.1, h2, h1.2⟩ z⟩
theorem r_73_0 : xfetch 73 0 = some (.iload_n 1, 1) := by decide +kernel
theorem n_73_0 : ∀ l, xpr 73 0 l = l := xpr_no (by decide +kernel)
theorem r_73_1 : xfetch 73 1 = some (.ifCond .lt 20, 3) := by decide +kernel
theorem n_73_1 : ∀ l, xpr 73 1 l = l := xpr_no (by decide +kernel)
theorem r_73_4 : xfetch 73 4 = some (.iload_n 1, 1) := by decide +kernel
theorem n_73_4 : ∀ l, xpr 73 4 l = l := xpr_no (by decide +kernel)
theorem r_73_5 : xfetch 73 5 = some (.aload_n 0, 1) := by decide +kernel
theorem n_73_5 : ∀ l, xpr 73 5 l = l := xpr_no (by decide +kernel)
theorem r_73_6 : xfetch 73 6 = some (.getfield 22, 3) := by decide +kernel
theorem n_73_6 : ∀ l, xpr 73 6 l = l := xpr_no (by decide +kernel)
theorem r_73_9 : xfetch 73 9 = some (.if_icmp .ge 12, 3) := by decide +kernel
theorem n_73_9 : ∀ l, xpr 73 9 l = l := xpr_no (by decide +kernel)
theorem r_73_12 : xfetch 73 12 = some (.aload_n 0, 1) := by decide +kernel
theorem n_73_12 : ∀ l, xpr 73 12 l = l := xpr_no (by decide +kernel)
theorem r_73_13 : xfetch 73 13 = some (.getfield 18, 3) := by decide +kernel
theorem n_73_13 : ∀ l, xpr 73 13 l = l := xpr_no (by decide +kernel)
theorem r_73_16 : xfetch 73 16 = some (.iload_n 1, 1) := by decide +kernel
theorem n_73_16 : ∀ l, xpr 73 16 l = l := xpr_no (by decide +kernel)
theorem r_73_17 : xfetch 73 17 = some (.baload, 1) := by decide +kernel
theorem n_73_17 : ∀ l, xpr 73 17 l = l := xpr_no (by decide +kernel)
theorem r_73_18 : xfetch 73 18 = some (.goto 4, 3) := by decide +kernel
theorem n_73_18 : ∀ l, xpr 73 18 l = l := xpr_no (by decide +kernel)
theorem r_73_21 : xfetch 73 21 = some (.iconst (-1), 1) := by decide +kernel
theorem n_73_21 : ∀ l, xpr 73 21 l = l := xpr_no (by decide +kernel)
theorem r_73_22 : xfetch 73 22 = some (.ireturn, 1) := by decide +kernel
theorem n_73_22 : ∀ l, xpr 73 22 l = l := xpr_no (by decide +kernel)
theorem v_Text_signAt_0 {S : Option (Nat × (Nat → Int32))} {s : zSt} {Q : Option Value ⊕ Nat → zSt → Prop} {x1 : Int} 
    (h : rng x1 ∧ ((x1 < 0 → Q (rI (-1)) s) ∧ (0 ≤ x1 → ((zI s 36 0) ≤ x1 → Q (rI (-1)) s) ∧ (x1 < (zI s 36 0) → (0 ≤ x1 ∧ x1 < 80) ∧ (Q (rI (zI s 41 x1)) s))))) :
    wp S 73 0 [(0, rf 36), (1, iv x1)] [] s Q := by
  refine i_iload_n (x := x1) r_73_0 (n_73_0 _) rfl ?_
  obtain ⟨g1, h⟩ := h
  refine i_if (t := 21) r_73_1 (n_73_1 _) rfl (T_lt g1 ⟨by omega, by omega⟩) (fun c2 => ?_) (fun c2 => ?_)
  · replace h := h.1 c2
    refine i_iconst r_73_21 (n_73_21 _) ?_
    exact i_ireturn r_73_22 (n_73_22 _) rfl h
  · replace h := h.2 c2
    refine i_iload_n (x := x1) r_73_4 (n_73_4 _) rfl ?_
    refine i_aload_n (a := 36) r_73_5 (n_73_5 _) rfl ?_
    refine i_getI (a := 36) r_73_6 (n_73_6 _) rfl (by decide) lf_36 (fun q3 => ?_)
    refine i_icmp (t := 21) r_73_9 (n_73_9 _) rfl (T_ge g1 q3) (fun c4 => ?_) (fun c4 => ?_)
    · replace h := h.1 c4
      refine i_iconst r_73_21 (n_73_21 _) ?_
      exact i_ireturn r_73_22 (n_73_22 _) rfl h
    · replace h := h.2 c4
      refine i_aload_n (a := 36) r_73_12 (n_73_12 _) rfl ?_
      refine i_getR (a := 36) (b := 41) r_73_13 (n_73_13 _) rfl rfl rfl (by omega) lf_36 (by omega) ?_
      refine i_iload_n (x := x1) r_73_16 (n_73_16 _) rfl ?_
      obtain ⟨g5, h⟩ := h
      refine i_baload (a := 41) (j := x1) r_73_17 (n_73_17 _) lf_41 ⟨by omega, by omega⟩ (by omega) (by omega) (fun q6 => ?_)
      refine i_goto (t := 22) r_73_18 (n_73_18 _) rfl ?_
      exact i_ireturn r_73_22 (n_73_22 _) rfl h
theorem K_Text_signAt {S : Option (Nat × (Nat → Int32))} {s : zSt} {x1 : Int}  (h1 : rng x1) (h2 : (0 ≤ x1 → x1 < zI s 36 0 → x1 < 80)) : wp S 73 0 [(0, rf 36), (1, iv x1)] [] s (fun o t => o = rI (zsg x1 (zI s 36 0) (zI s 41 x1)) ∧ s = t) := by
  refine wp_W fun hW => ?_
  refine v_Text_signAt_0  ?_
  refine ⟨h1, fun z => ⟨congrArg rI ?_, rfl⟩, fun z => ⟨fun z2 => ⟨congrArg rI ?_, rfl⟩, fun z2 => ⟨⟨z, h2 z z2⟩, congrArg rI ?_, rfl⟩⟩⟩
  · unfold zsg; rw [if_neg (by omega)]
  · unfold zsg; rw [if_neg (by omega)]
  · unfold zsg; rw [if_pos ⟨z, z2⟩]
theorem r_98_0 : xfetch 98 0 = some (.aload_n 0, 1) := by decide +kernel
theorem n_98_0 : ∀ l, xpr 98 0 l = l := xpr_no (by decide +kernel)
theorem r_98_1 : xfetch 98 1 = some (.aload_n 0, 1) := by decide +kernel
theorem n_98_1 : ∀ l, xpr 98 1 l = l := xpr_no (by decide +kernel)
theorem r_98_2 : xfetch 98 2 = some (.getfield 26, 3) := by decide +kernel
theorem n_98_2 : ∀ l, xpr 98 2 l = l := xpr_no (by decide +kernel)
theorem r_98_5 : xfetch 98 5 = some (.invokevirtual 40, 3) := by decide +kernel
theorem n_98_5 : ∀ l, xpr 98 5 l = l := xpr_no (by decide +kernel)
theorem r_98_8 : xfetch 98 8 = some (.istore_n 1, 1) := by decide +kernel
theorem n_98_8 : ∀ l, xpr 98 8 l = l := xpr_no (by decide +kernel)
theorem r_98_9 : xfetch 98 9 = some (.iload_n 1, 1) := by decide +kernel
theorem n_98_9 : ∀ l, xpr 98 9 l = l := xpr_no (by decide +kernel)
theorem r_98_10 : xfetch 98 10 = some (.bipush 48, 2) := by decide +kernel
theorem n_98_10 : ∀ l, xpr 98 10 l = l := xpr_no (by decide +kernel)
theorem r_98_12 : xfetch 98 12 = some (.if_icmp .lt 16, 3) := by decide +kernel
theorem n_98_12 : ∀ l, xpr 98 12 l = l := xpr_no (by decide +kernel)
theorem r_98_15 : xfetch 98 15 = some (.iload_n 1, 1) := by decide +kernel
theorem n_98_15 : ∀ l, xpr 98 15 l = l := xpr_no (by decide +kernel)
theorem r_98_16 : xfetch 98 16 = some (.bipush 57, 2) := by decide +kernel
theorem n_98_16 : ∀ l, xpr 98 16 l = l := xpr_no (by decide +kernel)
theorem r_98_18 : xfetch 98 18 = some (.if_icmp .gt 10, 3) := by decide +kernel
theorem n_98_18 : ∀ l, xpr 98 18 l = l := xpr_no (by decide +kernel)
theorem r_98_21 : xfetch 98 21 = some (.iload_n 1, 1) := by decide +kernel
theorem n_98_21 : ∀ l, xpr 98 21 l = l := xpr_no (by decide +kernel)
theorem r_98_22 : xfetch 98 22 = some (.bipush 48, 2) := by decide +kernel
theorem n_98_22 : ∀ l, xpr 98 22 l = l := xpr_no (by decide +kernel)
theorem r_98_24 : xfetch 98 24 = some (.isub, 1) := by decide +kernel
theorem n_98_24 : ∀ l, xpr 98 24 l = l := xpr_no (by decide +kernel)
theorem r_98_25 : xfetch 98 25 = some (.goto 4, 3) := by decide +kernel
theorem n_98_25 : ∀ l, xpr 98 25 l = l := xpr_no (by decide +kernel)
theorem r_98_28 : xfetch 98 28 = some (.iconst (-1), 1) := by decide +kernel
theorem n_98_28 : ∀ l, xpr 98 28 l = l := xpr_no (by decide +kernel)
theorem r_98_29 : xfetch 98 29 = some (.ireturn, 1) := by decide +kernel
theorem n_98_29 : ∀ l, xpr 98 29 l = l := xpr_no (by decide +kernel)
theorem v_Text_digit_0 {S : Option (Nat × (Nat → Int32))} {s : zSt} {Q : Option Value ⊕ Nat → zSt → Prop}  
    (h : (0 ≤ (zI s 36 3) → (zI s 36 3) < zI s 36 0 → (zI s 36 3) < 80) ∧ (rng (zsg (zI s 36 3) (zI s 36 0) (zI s 41 (zI s 36 3))) ∧ (((zsg (zI s 36 3) (zI s 36 0) (zI s 41 (zI s 36 3))) < 48 → Q (rI (-1)) s) ∧ (48 ≤ (zsg (zI s 36 3) (zI s 36 0) (zI s 41 (zI s 36 3))) → (57 < (zsg (zI s 36 3) (zI s 36 0) (zI s 41 (zI s 36 3))) → Q (rI (-1)) s) ∧ ((zsg (zI s 36 3) (zI s 36 0) (zI s 41 (zI s 36 3))) ≤ 57 → Q (rI ((zsg (zI s 36 3) (zI s 36 0) (zI s 41 (zI s 36 3))) - 48)) s))))) :
    wp S 98 0 [(0, rf 36)] [] s Q := by
  refine i_aload_n (a := 36) r_98_0 (n_98_0 _) rfl ?_
  refine i_aload_n (a := 36) r_98_1 (n_98_1 _) rfl ?_
  refine i_getI (a := 36) r_98_2 (n_98_2 _) rfl (by decide) lf_36 (fun q1 => ?_)
  obtain ⟨g2, h⟩ := h
  refine wp_virt (b := 36) (rest := []) (Ls := [(0, rf 36), (1, iv (zI s 36 3))]) r_98_5 (n_98_5 _) rfl ⟨rfl, rfl, by decide, by decide⟩ rfl rfl lf_36 ⟨rfl, Nat.le_of_ble_eq_true rfl, Nat.le_of_ble_eq_true rfl⟩ rfl (K_Text_signAt q1 g2) ?_
  rintro _ _ ⟨rfl, rfl⟩
  refine .inl ⟨some (iv (zsg (zI s 36 3) (zI s 36 0) (zI s 41 (zI s 36 3)))), rfl, ?_⟩
  show wp S 98 8 [(0, rf 36)] [iv (zsg (zI s 36 3) (zI s 36 0) (zI s 41 (zI s 36 3)))] s Q
  refine i_istore_n (l' := [(0, rf 36), (1, iv (zsg (zI s 36 3) (zI s 36 0) (zI s 41 (zI s 36 3))))]) r_98_8 (n_98_8 _) (by decide) rfl ?_
  refine i_iload_n (x := zsg (zI s 36 3) (zI s 36 0) (zI s 41 (zI s 36 3))) r_98_9 (n_98_9 _) rfl ?_
  refine i_bipush r_98_10 (n_98_10 _) rfl ?_
  obtain ⟨g4, h⟩ := h
  refine i_icmp (t := 28) r_98_12 (n_98_12 _) rfl (T_lt g4 ⟨by omega, by omega⟩) (fun c5 => ?_) (fun c5 => ?_)
  · replace h := h.1 c5
    refine i_iconst r_98_28 (n_98_28 _) ?_
    exact i_ireturn r_98_29 (n_98_29 _) rfl h
  · replace h := h.2 c5
    refine i_iload_n (x := zsg (zI s 36 3) (zI s 36 0) (zI s 41 (zI s 36 3))) r_98_15 (n_98_15 _) rfl ?_
    refine i_bipush r_98_16 (n_98_16 _) rfl ?_
    refine i_icmp (t := 28) r_98_18 (n_98_18 _) rfl (T_gt g4 ⟨by omega, by omega⟩) (fun c6 => ?_) (fun c6 => ?_)
    · replace h := h.1 c6
      refine i_iconst r_98_28 (n_98_28 _) ?_
      exact i_ireturn r_98_29 (n_98_29 _) rfl h
    · replace h := h.2 c6
      refine i_iload_n (x := zsg (zI s 36 3) (zI s 36 0) (zI s 41 (zI s 36 3))) r_98_21 (n_98_21 _) rfl ?_
      refine i_bipush r_98_22 (n_98_22 _) rfl ?_
      refine i_isub r_98_24 (n_98_24 _) ?_
      refine i_goto (t := 29) r_98_25 (n_98_25 _) rfl ?_
      exact i_ireturn r_98_29 (n_98_29 _) rfl h
theorem K_Text_digit {S : Option (Nat × (Nat → Int32))} {s : zSt}   (h1 : (0 ≤ zI s 36 3 → zI s 36 3 < zI s 36 0 → zI s 36 3 < 80)) : wp S 98 0 [(0, rf 36)] [] s (fun o t => o = rI (zdg (zsg (zI s 36 3) (zI s 36 0) (zI s 41 (zI s 36 3)))) ∧ s = t) := by
  refine wp_W fun hW => ?_
  refine v_Text_digit_0  ?_
  refine ⟨h1, ?_⟩
  have hr : rng (zsg (zI s 36 3) (zI s 36 0) (zI s 41 (zI s 36 3))) := by unfold zsg; split; exact hW _ _; exact ⟨by decide, by decide⟩
  refine ⟨hr, fun z => ⟨congrArg rI ?_, rfl⟩, fun z => ⟨fun z2 => ⟨congrArg rI ?_, rfl⟩, fun z2 => ⟨congrArg rI ?_, rfl⟩⟩⟩
  · unfold zdg; rw [if_neg (by omega)]
  · unfold zdg; rw [if_neg (by omega)]
  · unfold zdg; rw [if_pos ⟨by omega, z2⟩]
theorem r_94_0 : xfetch 94 0 = some (.aload_n 0, 1) := by decide +kernel
theorem n_94_0 : ∀ l, xpr 94 0 l = l := xpr_no (by decide +kernel)
theorem r_94_1 : xfetch 94 1 = some (.aload_n 0, 1) := by decide +kernel
theorem n_94_1 : ∀ l, xpr 94 1 l = l := xpr_no (by decide +kernel)
theorem r_94_2 : xfetch 94 2 = some (.getfield 26, 3) := by decide +kernel
theorem n_94_2 : ∀ l, xpr 94 2 l = l := xpr_no (by decide +kernel)
theorem r_94_5 : xfetch 94 5 = some (.invokevirtual 40, 3) := by decide +kernel
theorem n_94_5 : ∀ l, xpr 94 5 l = l := xpr_no (by decide +kernel)
theorem r_94_8 : xfetch 94 8 = some (.iload_n 1, 1) := by decide +kernel
theorem n_94_8 : ∀ l, xpr 94 8 l = l := xpr_no (by decide +kernel)
theorem r_94_9 : xfetch 94 9 = some (.if_icmp .eq 5, 3) := by decide +kernel
theorem n_94_9 : ∀ l, xpr 94 9 l = l := xpr_no (by decide +kernel)
theorem r_94_12 : xfetch 94 12 = some (.iconst 0, 1) := by decide +kernel
theorem n_94_12 : ∀ l, xpr 94 12 l = l := xpr_no (by decide +kernel)
theorem r_94_13 : xfetch 94 13 = some (.ireturn, 1) := by decide +kernel
theorem n_94_13 : ∀ l, xpr 94 13 l = l := xpr_no (by decide +kernel)
theorem r_94_14 : xfetch 94 14 = some (.aload_n 0, 1) := by decide +kernel
theorem n_94_14 : ∀ l, xpr 94 14 l = l := xpr_no (by decide +kernel)
theorem r_94_15 : xfetch 94 15 = some (.dup, 1) := by decide +kernel
theorem n_94_15 : ∀ l, xpr 94 15 l = l := xpr_no (by decide +kernel)
theorem r_94_16 : xfetch 94 16 = some (.getfield 26, 3) := by decide +kernel
theorem n_94_16 : ∀ l, xpr 94 16 l = l := xpr_no (by decide +kernel)
theorem r_94_19 : xfetch 94 19 = some (.iconst 1, 1) := by decide +kernel
theorem n_94_19 : ∀ l, xpr 94 19 l = l := xpr_no (by decide +kernel)
theorem r_94_20 : xfetch 94 20 = some (.iadd, 1) := by decide +kernel
theorem n_94_20 : ∀ l, xpr 94 20 l = l := xpr_no (by decide +kernel)
theorem r_94_21 : xfetch 94 21 = some (.putfield 26, 3) := by decide +kernel
theorem n_94_21 : ∀ l, xpr 94 21 l = l := xpr_no (by decide +kernel)
theorem r_94_24 : xfetch 94 24 = some (.iconst 1, 1) := by decide +kernel
theorem n_94_24 : ∀ l, xpr 94 24 l = l := xpr_no (by decide +kernel)
theorem r_94_25 : xfetch 94 25 = some (.ireturn, 1) := by decide +kernel
theorem n_94_25 : ∀ l, xpr 94 25 l = l := xpr_no (by decide +kernel)
theorem v_Text_takes_0 {S : Option (Nat × (Nat → Int32))} {s : zSt} {Q : Option Value ⊕ Nat → zSt → Prop} {x1 : Int} 
    (h : (0 ≤ (zI s 36 3) → (zI s 36 3) < zI s 36 0 → (zI s 36 3) < 80) ∧ (rng (zsg (zI s 36 3) (zI s 36 0) (zI s 41 (zI s 36 3))) ∧ (rng x1 ∧ (((zsg (zI s 36 3) (zI s 36 0) (zI s 41 (zI s 36 3))) = x1 → rng ((zI s 36 3) + 1) ∧ (Q (rI 1) (zwI s 36 3 ((zI s 36 3) + 1)))) ∧ ((zsg (zI s 36 3) (zI s 36 0) (zI s 41 (zI s 36 3))) ≠ x1 → Q (rI 0) s))))) :
    wp S 94 0 [(0, rf 36), (1, iv x1)] [] s Q := by
  refine i_aload_n (a := 36) r_94_0 (n_94_0 _) rfl ?_
  refine i_aload_n (a := 36) r_94_1 (n_94_1 _) rfl ?_
  refine i_getI (a := 36) r_94_2 (n_94_2 _) rfl (by decide) lf_36 (fun q1 => ?_)
  obtain ⟨g2, h⟩ := h
  refine wp_virt (b := 36) (rest := []) (Ls := [(0, rf 36), (1, iv (zI s 36 3))]) r_94_5 (n_94_5 _) rfl ⟨rfl, rfl, by decide, by decide⟩ rfl rfl lf_36 ⟨rfl, Nat.le_of_ble_eq_true rfl, Nat.le_of_ble_eq_true rfl⟩ rfl (K_Text_signAt q1 g2) ?_
  rintro _ _ ⟨rfl, rfl⟩
  refine .inl ⟨some (iv (zsg (zI s 36 3) (zI s 36 0) (zI s 41 (zI s 36 3)))), rfl, ?_⟩
  show wp S 94 8 [(0, rf 36), (1, iv x1)] [iv (zsg (zI s 36 3) (zI s 36 0) (zI s 41 (zI s 36 3)))] s Q
  refine i_iload_n (x := x1) r_94_8 (n_94_8 _) rfl ?_
  obtain ⟨g4, h⟩ := h
  obtain ⟨g5, h⟩ := h
  refine i_icmp (t := 14) r_94_9 (n_94_9 _) rfl (T_eq g4 g5) (fun c6 => ?_) (fun c6 => ?_)
  · replace h := h.1 c6
    refine i_aload_n (a := 36) r_94_14 (n_94_14 _) rfl ?_
    refine i_dup r_94_15 (n_94_15 _) rfl ?_
    refine i_getI (a := 36) r_94_16 (n_94_16 _) rfl (by decide) lf_36 (fun q7 => ?_)
    refine i_iconst r_94_19 (n_94_19 _) ?_
    refine i_iadd r_94_20 (n_94_20 _) ?_
    obtain ⟨g8, h⟩ := h
    refine i_putI (a := 36) (x := (zI s 36 3) + 1) r_94_21 (n_94_21 _) rfl (.inl rfl) rfl lf_36 g8 ?_
    refine i_iconst r_94_24 (n_94_24 _) ?_
    exact i_zreturn r_94_25 (n_94_25 _) rfl (by decide) h
  · replace h := h.2 c6
    refine i_iconst r_94_12 (n_94_12 _) ?_
    exact i_zreturn r_94_13 (n_94_13 _) rfl (by decide) h
theorem K_Text_takes {S : Option (Nat × (Nat → Int32))} {s : zSt} {x1 : Int}  (h1 : (0 ≤ zI s 36 3 → zI s 36 3 < zI s 36 0 → zI s 36 3 < 80)) (h2 : rng x1) (h3 : rng (zI s 36 3 + 1)) : wp S 94 0 [(0, rf 36), (1, iv x1)] [] s (fun o t => ((zsg (zI s 36 3) (zI s 36 0) (zI s 41 (zI s 36 3)) = x1) ∧ o = rI 1 ∧ (zwI s 36 3 (zI s 36 3 + 1)) = t) ∨ ((zsg (zI s 36 3) (zI s 36 0) (zI s 41 (zI s 36 3)) ≠ x1) ∧ o = rI 0 ∧ s = t)) := by
  refine wp_W fun hW => ?_
  refine v_Text_takes_0  ?_
  refine ⟨h1, ?_⟩
  have hr : rng (zsg (zI s 36 3) (zI s 36 0) (zI s 41 (zI s 36 3))) := by unfold zsg; split; exact hW _ _; exact ⟨by decide, by decide⟩
  exact ⟨hr, h2, fun z => ⟨h3, .inl ⟨z, rfl, rfl⟩⟩, fun z => .inr ⟨z, rfl, rfl⟩⟩
theorem r_83_0 : xfetch 83 0 = some (.aload_n 0, 1) := by decide +kernel
theorem n_83_0 : ∀ l, xpr 83 0 l = l := xpr_no (by decide +kernel)
theorem r_83_1 : xfetch 83 1 = some (.getfield 21, 3) := by decide +kernel
theorem n_83_1 : ∀ l, xpr 83 1 l = l := xpr_no (by decide +kernel)
theorem r_83_4 : xfetch 83 4 = some (.iload_n 2, 1) := by decide +kernel
theorem n_83_4 : ∀ l, xpr 83 4 l = l := xpr_no (by decide +kernel)
theorem r_83_5 : xfetch 83 5 = some (.iaload, 1) := by decide +kernel
theorem n_83_5 : ∀ l, xpr 83 5 l = l := xpr_no (by decide +kernel)
theorem r_83_6 : xfetch 83 6 = some (.ifCond .le 17, 3) := by decide +kernel
theorem n_83_6 : ∀ l, xpr 83 6 l = l := xpr_no (by decide +kernel)
theorem r_83_9 : xfetch 83 9 = some (.aload_n 0, 1) := by decide +kernel
theorem n_83_9 : ∀ l, xpr 83 9 l = l := xpr_no (by decide +kernel)
theorem r_83_10 : xfetch 83 10 = some (.getfield 21, 3) := by decide +kernel
theorem n_83_10 : ∀ l, xpr 83 10 l = l := xpr_no (by decide +kernel)
theorem r_83_13 : xfetch 83 13 = some (.iload_n 2, 1) := by decide +kernel
theorem n_83_13 : ∀ l, xpr 83 13 l = l := xpr_no (by decide +kernel)
theorem r_83_14 : xfetch 83 14 = some (.iaload, 1) := by decide +kernel
theorem n_83_14 : ∀ l, xpr 83 14 l = l := xpr_no (by decide +kernel)
theorem r_83_15 : xfetch 83 15 = some (.iload_n 1, 1) := by decide +kernel
theorem n_83_15 : ∀ l, xpr 83 15 l = l := xpr_no (by decide +kernel)
theorem r_83_16 : xfetch 83 16 = some (.if_icmp .gt 7, 3) := by decide +kernel
theorem n_83_16 : ∀ l, xpr 83 16 l = l := xpr_no (by decide +kernel)
theorem r_83_19 : xfetch 83 19 = some (.iconst 1, 1) := by decide +kernel
theorem n_83_19 : ∀ l, xpr 83 19 l = l := xpr_no (by decide +kernel)
theorem r_83_20 : xfetch 83 20 = some (.goto 4, 3) := by decide +kernel
theorem n_83_20 : ∀ l, xpr 83 20 l = l := xpr_no (by decide +kernel)
theorem r_83_23 : xfetch 83 23 = some (.iconst 0, 1) := by decide +kernel
theorem n_83_23 : ∀ l, xpr 83 23 l = l := xpr_no (by decide +kernel)
theorem r_83_24 : xfetch 83 24 = some (.ireturn, 1) := by decide +kernel
theorem n_83_24 : ∀ l, xpr 83 24 l = l := xpr_no (by decide +kernel)
theorem v_BestOrder_fits_0 {S : Option (Nat × (Nat → Int32))} {s : zSt} {Q : Option Value ⊕ Nat → zSt → Prop} {x1 : Int} {x2 : Int} 
    (h : (0 ≤ x2 ∧ x2 < 8) ∧ (((zI s 46 x2) ≤ 0 → Q (rI 0) s) ∧ (0 < (zI s 46 x2) → rng x1 ∧ ((x1 < (zI s 46 x2) → Q (rI 0) s) ∧ ((zI s 46 x2) ≤ x1 → Q (rI 1) s))))) :
    wp S 83 0 [(0, rf 42), (1, iv x1), (2, iv x2)] [] s Q := by
  refine i_aload_n (a := 42) r_83_0 (n_83_0 _) rfl ?_
  refine i_getR (a := 42) (b := 46) r_83_1 (n_83_1 _) rfl rfl rfl (by omega) lf_42 (by omega) ?_
  refine i_iload_n (x := x2) r_83_4 (n_83_4 _) rfl ?_
  obtain ⟨g1, h⟩ := h
  refine i_iaload (a := 46) (j := x2) r_83_5 (n_83_5 _) lf_46 ⟨by omega, by omega⟩ (by omega) (by omega) (fun q2 => ?_)
  refine i_if (t := 23) r_83_6 (n_83_6 _) rfl (T_le q2 ⟨by omega, by omega⟩) (fun c3 => ?_) (fun c3 => ?_)
  · replace h := h.1 c3
    refine i_iconst r_83_23 (n_83_23 _) ?_
    exact i_zreturn r_83_24 (n_83_24 _) rfl (by decide) h
  · replace h := h.2 c3
    refine i_aload_n (a := 42) r_83_9 (n_83_9 _) rfl ?_
    refine i_getR (a := 42) (b := 46) r_83_10 (n_83_10 _) rfl rfl rfl (by omega) lf_42 (by omega) ?_
    refine i_iload_n (x := x2) r_83_13 (n_83_13 _) rfl ?_
    refine i_iaload (a := 46) (j := x2) r_83_14 (n_83_14 _) lf_46 ⟨by omega, by omega⟩ (by omega) (by omega) (fun q4 => ?_)
    refine i_iload_n (x := x1) r_83_15 (n_83_15 _) rfl ?_
    obtain ⟨g5, h⟩ := h
    refine i_icmp (t := 23) r_83_16 (n_83_16 _) rfl (T_gt q4 g5) (fun c6 => ?_) (fun c6 => ?_)
    · replace h := h.1 c6
      refine i_iconst r_83_23 (n_83_23 _) ?_
      exact i_zreturn r_83_24 (n_83_24 _) rfl (by decide) h
    · replace h := h.2 c6
      refine i_iconst r_83_19 (n_83_19 _) ?_
      refine i_goto (t := 24) r_83_20 (n_83_20 _) rfl ?_
      exact i_zreturn r_83_24 (n_83_24 _) rfl (by decide) h
theorem K_BestOrder_fits {S : Option (Nat × (Nat → Int32))} {s : zSt} {x1 : Int} {x2 : Int}  (h1 : (0 ≤ x2 ∧ x2 < 8)) (h2 : rng x1) : wp S 83 0 [(0, rf 42), (1, iv x1), (2, iv x2)] [] s (fun o t => o = rI (bi (0 < zI s 46 x2 ∧ zI s 46 x2 ≤ x1)) ∧ s = t) := by
  refine wp_W fun hW => ?_
  refine v_BestOrder_fits_0  ?_
  repeat' (first | assumption | rfl | (intro _) | (refine ⟨?_, ?_⟩) | omega | exact congrArg rI (bi_F (by omega)).symm | exact congrArg rI (bi_T (by omega)).symm)
theorem r_82_0 : xfetch 82 0 = some (.aload_n 0, 1) := by decide +kernel
theorem n_82_0 : ∀ l, xpr 82 0 l = l := xpr_no (by decide +kernel)
theorem r_82_1 : xfetch 82 1 = some (.getfield 21, 3) := by decide +kernel
theorem n_82_1 : ∀ l, xpr 82 1 l = l := xpr_no (by decide +kernel)
theorem r_82_4 : xfetch 82 4 = some (.iload_n 2, 1) := by decide +kernel
theorem n_82_4 : ∀ l, xpr 82 4 l = l := xpr_no (by decide +kernel)
theorem r_82_5 : xfetch 82 5 = some (.iaload, 1) := by decide +kernel
theorem n_82_5 : ∀ l, xpr 82 5 l = l := xpr_no (by decide +kernel)
theorem r_82_6 : xfetch 82 6 = some (.ifCond .ne 5, 3) := by decide +kernel
theorem n_82_6 : ∀ l, xpr 82 6 l = l := xpr_no (by decide +kernel)
theorem r_82_9 : xfetch 82 9 = some (.iconst 0, 1) := by decide +kernel
theorem n_82_9 : ∀ l, xpr 82 9 l = l := xpr_no (by decide +kernel)
theorem r_82_10 : xfetch 82 10 = some (.ireturn, 1) := by decide +kernel
theorem n_82_10 : ∀ l, xpr 82 10 l = l := xpr_no (by decide +kernel)
theorem r_82_11 : xfetch 82 11 = some (.aload_n 0, 1) := by decide +kernel
theorem n_82_11 : ∀ l, xpr 82 11 l = l := xpr_no (by decide +kernel)
theorem r_82_12 : xfetch 82 12 = some (.getfield 21, 3) := by decide +kernel
theorem n_82_12 : ∀ l, xpr 82 12 l = l := xpr_no (by decide +kernel)
theorem r_82_15 : xfetch 82 15 = some (.iload_n 2, 1) := by decide +kernel
theorem n_82_15 : ∀ l, xpr 82 15 l = l := xpr_no (by decide +kernel)
theorem r_82_16 : xfetch 82 16 = some (.iaload, 1) := by decide +kernel
theorem n_82_16 : ∀ l, xpr 82 16 l = l := xpr_no (by decide +kernel)
theorem r_82_17 : xfetch 82 17 = some (.iload_n 1, 1) := by decide +kernel
theorem n_82_17 : ∀ l, xpr 82 17 l = l := xpr_no (by decide +kernel)
theorem r_82_18 : xfetch 82 18 = some (.if_icmp .gt 14, 3) := by decide +kernel
theorem n_82_18 : ∀ l, xpr 82 18 l = l := xpr_no (by decide +kernel)
theorem r_82_21 : xfetch 82 21 = some (.iload_n 1, 1) := by decide +kernel
theorem n_82_21 : ∀ l, xpr 82 21 l = l := xpr_no (by decide +kernel)
theorem r_82_22 : xfetch 82 22 = some (.aload_n 0, 1) := by decide +kernel
theorem n_82_22 : ∀ l, xpr 82 22 l = l := xpr_no (by decide +kernel)
theorem r_82_23 : xfetch 82 23 = some (.getfield 21, 3) := by decide +kernel
theorem n_82_23 : ∀ l, xpr 82 23 l = l := xpr_no (by decide +kernel)
theorem r_82_26 : xfetch 82 26 = some (.iload_n 2, 1) := by decide +kernel
theorem n_82_26 : ∀ l, xpr 82 26 l = l := xpr_no (by decide +kernel)
theorem r_82_27 : xfetch 82 27 = some (.iaload, 1) := by decide +kernel
theorem n_82_27 : ∀ l, xpr 82 27 l = l := xpr_no (by decide +kernel)
theorem r_82_28 : xfetch 82 28 = some (.isub, 1) := by decide +kernel
theorem n_82_28 : ∀ l, xpr 82 28 l = l := xpr_no (by decide +kernel)
theorem r_82_29 : xfetch 82 29 = some (.goto 12, 3) := by decide +kernel
theorem n_82_29 : ∀ l, xpr 82 29 l = l := xpr_no (by decide +kernel)
theorem r_82_32 : xfetch 82 32 = some (.bipush 16, 2) := by decide +kernel
theorem n_82_32 : ∀ l, xpr 82 32 l = l := xpr_no (by decide +kernel)
theorem r_82_34 : xfetch 82 34 = some (.aload_n 0, 1) := by decide +kernel
theorem n_82_34 : ∀ l, xpr 82 34 l = l := xpr_no (by decide +kernel)
theorem r_82_35 : xfetch 82 35 = some (.getfield 21, 3) := by decide +kernel
theorem n_82_35 : ∀ l, xpr 82 35 l = l := xpr_no (by decide +kernel)
theorem r_82_38 : xfetch 82 38 = some (.iload_n 2, 1) := by decide +kernel
theorem n_82_38 : ∀ l, xpr 82 38 l = l := xpr_no (by decide +kernel)
theorem r_82_39 : xfetch 82 39 = some (.iaload, 1) := by decide +kernel
theorem n_82_39 : ∀ l, xpr 82 39 l = l := xpr_no (by decide +kernel)
theorem r_82_40 : xfetch 82 40 = some (.isub, 1) := by decide +kernel
theorem n_82_40 : ∀ l, xpr 82 40 l = l := xpr_no (by decide +kernel)
theorem r_82_41 : xfetch 82 41 = some (.ireturn, 1) := by decide +kernel
theorem n_82_41 : ∀ l, xpr 82 41 l = l := xpr_no (by decide +kernel)
theorem v_BestOrder_leftAfter_0 {S : Option (Nat × (Nat → Int32))} {s : zSt} {Q : Option Value ⊕ Nat → zSt → Prop} {x1 : Int} {x2 : Int} 
    (h : (0 ≤ x2 ∧ x2 < 8) ∧ (((zI s 46 x2) ≠ 0 → rng x1 ∧ ((x1 < (zI s 46 x2) → Q (rI (16 - (zI s 46 x2))) s) ∧ ((zI s 46 x2) ≤ x1 → Q (rI (x1 - (zI s 46 x2))) s))) ∧ ((zI s 46 x2) = 0 → Q (rI 0) s))) :
    wp S 82 0 [(0, rf 42), (1, iv x1), (2, iv x2)] [] s Q := by
  refine i_aload_n (a := 42) r_82_0 (n_82_0 _) rfl ?_
  refine i_getR (a := 42) (b := 46) r_82_1 (n_82_1 _) rfl rfl rfl (by omega) lf_42 (by omega) ?_
  refine i_iload_n (x := x2) r_82_4 (n_82_4 _) rfl ?_
  obtain ⟨g1, h⟩ := h
  refine i_iaload (a := 46) (j := x2) r_82_5 (n_82_5 _) lf_46 ⟨by omega, by omega⟩ (by omega) (by omega) (fun q2 => ?_)
  refine i_if (t := 11) r_82_6 (n_82_6 _) rfl (T_ne q2 ⟨by omega, by omega⟩) (fun c3 => ?_) (fun c3 => ?_)
  · replace h := h.1 c3
    refine i_aload_n (a := 42) r_82_11 (n_82_11 _) rfl ?_
    refine i_getR (a := 42) (b := 46) r_82_12 (n_82_12 _) rfl rfl rfl (by omega) lf_42 (by omega) ?_
    refine i_iload_n (x := x2) r_82_15 (n_82_15 _) rfl ?_
    refine i_iaload (a := 46) (j := x2) r_82_16 (n_82_16 _) lf_46 ⟨by omega, by omega⟩ (by omega) (by omega) (fun q4 => ?_)
    refine i_iload_n (x := x1) r_82_17 (n_82_17 _) rfl ?_
    obtain ⟨g5, h⟩ := h
    refine i_icmp (t := 32) r_82_18 (n_82_18 _) rfl (T_gt q4 g5) (fun c6 => ?_) (fun c6 => ?_)
    · replace h := h.1 c6
      refine i_bipush r_82_32 (n_82_32 _) rfl ?_
      refine i_aload_n (a := 42) r_82_34 (n_82_34 _) rfl ?_
      refine i_getR (a := 42) (b := 46) r_82_35 (n_82_35 _) rfl rfl rfl (by omega) lf_42 (by omega) ?_
      refine i_iload_n (x := x2) r_82_38 (n_82_38 _) rfl ?_
      refine i_iaload (a := 46) (j := x2) r_82_39 (n_82_39 _) lf_46 ⟨by omega, by omega⟩ (by omega) (by omega) (fun q7 => ?_)
      refine i_isub r_82_40 (n_82_40 _) ?_
      exact i_ireturn r_82_41 (n_82_41 _) rfl h
    · replace h := h.2 c6
      refine i_iload_n (x := x1) r_82_21 (n_82_21 _) rfl ?_
      refine i_aload_n (a := 42) r_82_22 (n_82_22 _) rfl ?_
      refine i_getR (a := 42) (b := 46) r_82_23 (n_82_23 _) rfl rfl rfl (by omega) lf_42 (by omega) ?_
      refine i_iload_n (x := x2) r_82_26 (n_82_26 _) rfl ?_
      refine i_iaload (a := 46) (j := x2) r_82_27 (n_82_27 _) lf_46 ⟨by omega, by omega⟩ (by omega) (by omega) (fun q8 => ?_)
      refine i_isub r_82_28 (n_82_28 _) ?_
      refine i_goto (t := 41) r_82_29 (n_82_29 _) rfl ?_
      exact i_ireturn r_82_41 (n_82_41 _) rfl h
  · replace h := h.2 c3
    refine i_iconst r_82_9 (n_82_9 _) ?_
    exact i_ireturn r_82_10 (n_82_10 _) rfl h
theorem K_BestOrder_leftAfter {S : Option (Nat × (Nat → Int32))} {s : zSt} {x1 : Int} {x2 : Int}  (h1 : (0 ≤ x2 ∧ x2 < 8)) (h2 : rng x1) : wp S 82 0 [(0, rf 42), (1, iv x1), (2, iv x2)] [] s (fun o t => o = rI (zla x1 (zI s 46 x2)) ∧ s = t) := by
  refine wp_W fun hW => ?_
  refine v_BestOrder_leftAfter_0  ?_
  refine ⟨h1, fun z => ⟨h2, fun z2 => ⟨congrArg rI ?_, rfl⟩, fun z2 => ⟨congrArg rI ?_, rfl⟩⟩, fun z => ⟨congrArg rI ?_, rfl⟩⟩
  · unfold zla; rw [if_neg z, if_neg (by omega)]
  · unfold zla; rw [if_neg z, if_pos z2]
  · unfold zla; rw [if_pos z]
theorem r_81_0 : xfetch 81 0 = some (.aload_n 0, 1) := by decide +kernel
theorem n_81_0 : ∀ l, xpr 81 0 l = l := xpr_no (by decide +kernel)
theorem r_81_1 : xfetch 81 1 = some (.getfield 24, 3) := by decide +kernel
theorem n_81_1 : ∀ l, xpr 81 1 l = l := xpr_no (by decide +kernel)
theorem r_81_4 : xfetch 81 4 = some (.iload_n 1, 1) := by decide +kernel
theorem n_81_4 : ∀ l, xpr 81 4 l = l := xpr_no (by decide +kernel)
theorem r_81_5 : xfetch 81 5 = some (.iconst 1, 1) := by decide +kernel
theorem n_81_5 : ∀ l, xpr 81 5 l = l := xpr_no (by decide +kernel)
theorem r_81_6 : xfetch 81 6 = some (.iload_n 3, 1) := by decide +kernel
theorem n_81_6 : ∀ l, xpr 81 6 l = l := xpr_no (by decide +kernel)
theorem r_81_7 : xfetch 81 7 = some (.ishl, 1) := by decide +kernel
theorem n_81_7 : ∀ l, xpr 81 7 l = l := xpr_no (by decide +kernel)
theorem r_81_8 : xfetch 81 8 = some (.ior, 1) := by decide +kernel
theorem n_81_8 : ∀ l, xpr 81 8 l = l := xpr_no (by decide +kernel)
theorem r_81_9 : xfetch 81 9 = some (.bipush 16, 2) := by decide +kernel
theorem n_81_9 : ∀ l, xpr 81 9 l = l := xpr_no (by decide +kernel)
theorem r_81_11 : xfetch 81 11 = some (.imul, 1) := by decide +kernel
theorem n_81_11 : ∀ l, xpr 81 11 l = l := xpr_no (by decide +kernel)
theorem r_81_12 : xfetch 81 12 = some (.aload_n 0, 1) := by decide +kernel
theorem n_81_12 : ∀ l, xpr 81 12 l = l := xpr_no (by decide +kernel)
theorem r_81_13 : xfetch 81 13 = some (.iload_n 2, 1) := by decide +kernel
theorem n_81_13 : ∀ l, xpr 81 13 l = l := xpr_no (by decide +kernel)
theorem r_81_14 : xfetch 81 14 = some (.iload_n 3, 1) := by decide +kernel
theorem n_81_14 : ∀ l, xpr 81 14 l = l := xpr_no (by decide +kernel)
theorem r_81_15 : xfetch 81 15 = some (.invokevirtual 86, 3) := by decide +kernel
theorem n_81_15 : ∀ l, xpr 81 15 l = l := xpr_no (by decide +kernel)
theorem r_81_18 : xfetch 81 18 = some (.iadd, 1) := by decide +kernel
theorem n_81_18 : ∀ l, xpr 81 18 l = l := xpr_no (by decide +kernel)
theorem r_81_19 : xfetch 81 19 = some (.iaload, 1) := by decide +kernel
theorem n_81_19 : ∀ l, xpr 81 19 l = l := xpr_no (by decide +kernel)
theorem r_81_20 : xfetch 81 20 = some (.ireturn, 1) := by decide +kernel
theorem n_81_20 : ∀ l, xpr 81 20 l = l := xpr_no (by decide +kernel)
theorem v_BestOrder_needAfter_0 {S : Option (Nat × (Nat → Int32))} {s : zSt} {Q : Option Value ⊕ Nat → zSt → Prop} {x1 : Int} {x2 : Int} {x3 : Int} 
    (h : (0 ≤ x3 ∧ x3 < 8) ∧ (rng x2 ∧ ((0 ≤ (((zor x1 (zshl 1 x3)) * 16) + (zla x2 (zI s 46 x3))) ∧ (((zor x1 (zshl 1 x3)) * 16) + (zla x2 (zI s 46 x3))) < 4096) ∧ (Q (rI (zI s 47 (((zor x1 (zshl 1 x3)) * 16) + (zla x2 (zI s 46 x3))))) s)))) :
    wp S 81 0 [(0, rf 42), (1, iv x1), (2, iv x2), (3, iv x3)] [] s Q := by
  refine i_aload_n (a := 42) r_81_0 (n_81_0 _) rfl ?_
  refine i_getR (a := 42) (b := 47) r_81_1 (n_81_1 _) rfl rfl rfl (by omega) lf_42 (by omega) ?_
  refine i_iload_n (x := x1) r_81_4 (n_81_4 _) rfl ?_
  refine i_iconst r_81_5 (n_81_5 _) ?_
  refine i_iload_n (x := x3) r_81_6 (n_81_6 _) rfl ?_
  refine i_ishl r_81_7 (n_81_7 _) ?_
  refine i_ior r_81_8 (n_81_8 _) ?_
  refine i_bipush r_81_9 (n_81_9 _) rfl ?_
  refine i_imul r_81_11 (n_81_11 _) ?_
  refine i_aload_n (a := 42) r_81_12 (n_81_12 _) rfl ?_
  refine i_iload_n (x := x2) r_81_13 (n_81_13 _) rfl ?_
  refine i_iload_n (x := x3) r_81_14 (n_81_14 _) rfl ?_
  obtain ⟨g1, h⟩ := h
  obtain ⟨g2, h⟩ := h
  refine wp_virt (b := 42) (rest := [iv ((zor x1 (zshl 1 x3)) * 16), rf 47]) (Ls := [(0, rf 42), (1, iv x2), (2, iv x3)]) r_81_15 (n_81_15 _) rfl ⟨rfl, rfl, by decide, by decide⟩ rfl rfl lf_42 ⟨rfl, Nat.le_of_ble_eq_true rfl, Nat.le_of_ble_eq_true rfl⟩ rfl (K_BestOrder_leftAfter g1 g2) ?_
  rintro _ _ ⟨rfl, rfl⟩
  refine .inl ⟨some (iv (zla x2 (zI s 46 x3))), rfl, ?_⟩
  show wp S 81 18 [(0, rf 42), (1, iv x1), (2, iv x2), (3, iv x3)] [iv (zla x2 (zI s 46 x3)), iv ((zor x1 (zshl 1 x3)) * 16), rf 47] s Q
  refine i_iadd r_81_18 (n_81_18 _) ?_
  obtain ⟨g4, h⟩ := h
  refine i_iaload (a := 47) (j := ((zor x1 (zshl 1 x3)) * 16) + (zla x2 (zI s 46 x3))) r_81_19 (n_81_19 _) lf_47 ⟨by omega, by omega⟩ (by omega) (by omega) (fun q5 => ?_)
  exact i_ireturn r_81_20 (n_81_20 _) rfl h
theorem K_BestOrder_needAfter {S : Option (Nat × (Nat → Int32))} {s : zSt} {x1 : Int} {x2 : Int} {x3 : Int}  (h1 : (0 ≤ x3 ∧ x3 < 8)) (h2 : rng x2) (h3 : (0 ≤ (((zor x1 (zshl 1 x3)) * 16) + (zla x2 (zI s 46 x3))) ∧ (((zor x1 (zshl 1 x3)) * 16) + (zla x2 (zI s 46 x3))) < 4096)) : wp S 81 0 [(0, rf 42), (1, iv x1), (2, iv x2), (3, iv x3)] [] s (fun o t => o = rI (zI s 47 (((zor x1 (zshl 1 x3)) * 16) + (zla x2 (zI s 46 x3)))) ∧ s = t) := by
  refine wp_W fun hW => ?_
  refine v_BestOrder_needAfter_0  ?_
  exact ⟨h1, h2, h3, rfl, rfl⟩
theorem r_56_0 : xfetch 56 0 = some (.iload_n 2, 1) := by decide +kernel
theorem n_56_0 : ∀ l, xpr 56 0 l = l := xpr_no (by decide +kernel)
theorem r_56_1 : xfetch 56 1 = some (.invokestatic 421, 3) := by decide +kernel
theorem n_56_1 : ∀ l, xpr 56 1 l = l := xpr_no (by decide +kernel)
theorem r_56_4 : xfetch 56 4 = some (.ifCond .ne 10, 3) := by decide +kernel
theorem n_56_4 : ∀ l, xpr 56 4 l = l := xpr_no (by decide +kernel)
theorem r_56_7 : xfetch 56 7 = some (.iload_n 2, 1) := by decide +kernel
theorem n_56_7 : ∀ l, xpr 56 7 l = l := xpr_no (by decide +kernel)
theorem r_56_8 : xfetch 56 8 = some (.invokestatic 115, 3) := by decide +kernel
theorem n_56_8 : ∀ l, xpr 56 8 l = l := xpr_no (by decide +kernel)
theorem r_56_11 : xfetch 56 11 = some (.ifCond .eq 5, 3) := by decide +kernel
theorem n_56_11 : ∀ l, xpr 56 11 l = l := xpr_no (by decide +kernel)
theorem r_56_14 : xfetch 56 14 = some (.iconst 1, 1) := by decide +kernel
theorem n_56_14 : ∀ l, xpr 56 14 l = l := xpr_no (by decide +kernel)
theorem r_56_15 : xfetch 56 15 = some (.ireturn, 1) := by decide +kernel
theorem n_56_15 : ∀ l, xpr 56 15 l = l := xpr_no (by decide +kernel)
theorem r_56_16 : xfetch 56 16 = some (.iload_n 2, 1) := by decide +kernel
theorem n_56_16 : ∀ l, xpr 56 16 l = l := xpr_no (by decide +kernel)
theorem r_56_17 : xfetch 56 17 = some (.bipush 100, 2) := by decide +kernel
theorem n_56_17 : ∀ l, xpr 56 17 l = l := xpr_no (by decide +kernel)
theorem r_56_19 : xfetch 56 19 = some (.isub, 1) := by decide +kernel
theorem n_56_19 : ∀ l, xpr 56 19 l = l := xpr_no (by decide +kernel)
theorem r_56_20 : xfetch 56 20 = some (.istore_n 3, 1) := by decide +kernel
theorem n_56_20 : ∀ l, xpr 56 20 l = l := xpr_no (by decide +kernel)
theorem r_56_21 : xfetch 56 21 = some (.iload_n 3, 1) := by decide +kernel
theorem n_56_21 : ∀ l, xpr 56 21 l = l := xpr_no (by decide +kernel)
theorem r_56_22 : xfetch 56 22 = some (.ifCond .lt 27, 3) := by decide +kernel
theorem n_56_22 : ∀ l, xpr 56 22 l = l := xpr_no (by decide +kernel)
theorem r_56_25 : xfetch 56 25 = some (.iload_n 3, 1) := by decide +kernel
theorem n_56_25 : ∀ l, xpr 56 25 l = l := xpr_no (by decide +kernel)
theorem r_56_26 : xfetch 56 26 = some (.iload_n 1, 1) := by decide +kernel
theorem n_56_26 : ∀ l, xpr 56 26 l = l := xpr_no (by decide +kernel)
theorem r_56_27 : xfetch 56 27 = some (.if_icmp .ge 22, 3) := by decide +kernel
theorem n_56_27 : ∀ l, xpr 56 27 l = l := xpr_no (by decide +kernel)
theorem r_56_30 : xfetch 56 30 = some (.aload_n 0, 1) := by decide +kernel
theorem n_56_30 : ∀ l, xpr 56 30 l = l := xpr_no (by decide +kernel)
theorem r_56_31 : xfetch 56 31 = some (.getfield 10, 3) := by decide +kernel
theorem n_56_31 : ∀ l, xpr 56 31 l = l := xpr_no (by decide +kernel)
theorem r_56_34 : xfetch 56 34 = some (.getfield 83, 3) := by decide +kernel
theorem n_56_34 : ∀ l, xpr 56 34 l = l := xpr_no (by decide +kernel)
theorem r_56_37 : xfetch 56 37 = some (.iload_n 3, 1) := by decide +kernel
theorem n_56_37 : ∀ l, xpr 56 37 l = l := xpr_no (by decide +kernel)
theorem r_56_38 : xfetch 56 38 = some (.aaload, 1) := by decide +kernel
theorem n_56_38 : ∀ l, xpr 56 38 l = l := xpr_no (by decide +kernel)
theorem r_56_39 : xfetch 56 39 = some (.getfield 133, 3) := by decide +kernel
theorem n_56_39 : ∀ l, xpr 56 39 l = l := xpr_no (by decide +kernel)
theorem r_56_42 : xfetch 56 42 = some (.ifCond .le 7, 3) := by decide +kernel
theorem n_56_42 : ∀ l, xpr 56 42 l = l := xpr_no (by decide +kernel)
theorem r_56_45 : xfetch 56 45 = some (.iconst 1, 1) := by decide +kernel
theorem n_56_45 : ∀ l, xpr 56 45 l = l := xpr_no (by decide +kernel)
theorem r_56_46 : xfetch 56 46 = some (.goto 4, 3) := by decide +kernel
theorem n_56_46 : ∀ l, xpr 56 46 l = l := xpr_no (by decide +kernel)
theorem r_56_49 : xfetch 56 49 = some (.iconst 0, 1) := by decide +kernel
theorem n_56_49 : ∀ l, xpr 56 49 l = l := xpr_no (by decide +kernel)
theorem r_56_50 : xfetch 56 50 = some (.ireturn, 1) := by decide +kernel
theorem n_56_50 : ∀ l, xpr 56 50 l = l := xpr_no (by decide +kernel)
theorem v_RL_canBeTypeIn_0 {S : Option (Nat × (Nat → Int32))} {s : zSt} {Q : Option Value ⊕ Nat → zSt → Prop} {x1 : Int} {x2 : Int} 
    (h : rng x2 ∧ ((0 ≤ x2 ∧ x2 ≤ 7 → Q (rI 1) s) ∧ (¬ (0 ≤ x2 ∧ x2 ≤ 7) → (¬ (20 < x2 ∧ x2 ≤ 36) → rng (x2 - 100) ∧ (((x2 - 100) < 0 → Q (rI 0) s) ∧ (0 ≤ (x2 - 100) → rng x1 ∧ ((x1 ≤ (x2 - 100) → Q (rI 0) s) ∧ ((x2 - 100) < x1 → (0 ≤ (x2 - 100) ∧ (x2 - 100) < 6) ∧ (((zI s (7 + 4 * (x2 - 100)) 1) ≤ 0 → Q (rI 0) s) ∧ (0 < (zI s (7 + 4 * (x2 - 100)) 1) → Q (rI 1) s))))))) ∧ (20 < x2 ∧ x2 ≤ 36 → Q (rI 1) s)))) :
    wp S 56 0 [(0, rf 2), (1, iv x1), (2, iv x2)] [] s Q := by
  refine i_iload_n (x := x2) r_56_0 (n_56_0 _) rfl ?_
  obtain ⟨g1, h⟩ := h
  refine wp_stat (rest := []) (Ls := [(0, iv x2)]) r_56_1 (n_56_1 _) rfl ⟨rfl, by decide, by decide, by decide⟩ rfl rfl ⟨rfl, Nat.le_of_ble_eq_true rfl, Nat.le_of_ble_eq_true rfl⟩ rfl (K_RL_isPlain g1) ?_
  rintro _ _ ⟨rfl, rfl⟩
  refine .inl ⟨some (iv (bi (0 ≤ x2 ∧ x2 ≤ 7))), rfl, ?_⟩
  show wp S 56 4 [(0, rf 2), (1, iv x1), (2, iv x2)] [iv (bi (0 ≤ x2 ∧ x2 ≤ 7))] s Q
  refine i_if (t := 14) r_56_4 (n_56_4 _) rfl (TB_ne) (fun c3 => ?_) (fun c3 => ?_)
  · replace h := h.1 c3
    refine i_iconst r_56_14 (n_56_14 _) ?_
    exact i_zreturn r_56_15 (n_56_15 _) rfl (by decide) h
  · replace h := h.2 c3
    refine i_iload_n (x := x2) r_56_7 (n_56_7 _) rfl ?_
    refine wp_stat (rest := []) (Ls := [(0, iv x2)]) r_56_8 (n_56_8 _) rfl ⟨rfl, by decide, by decide, by decide⟩ rfl rfl ⟨rfl, Nat.le_of_ble_eq_true rfl, Nat.le_of_ble_eq_true rfl⟩ rfl (K_RL_isBits g1) ?_
    rintro _ _ ⟨rfl, rfl⟩
    refine .inl ⟨some (iv (bi (20 < x2 ∧ x2 ≤ 36))), rfl, ?_⟩
    show wp S 56 11 [(0, rf 2), (1, iv x1), (2, iv x2)] [iv (bi (20 < x2 ∧ x2 ≤ 36))] s Q
    refine i_if (t := 16) r_56_11 (n_56_11 _) rfl (TB_eq) (fun c5 => ?_) (fun c5 => ?_)
    · replace h := h.1 c5
      refine i_iload_n (x := x2) r_56_16 (n_56_16 _) rfl ?_
      refine i_bipush r_56_17 (n_56_17 _) rfl ?_
      refine i_isub r_56_19 (n_56_19 _) ?_
      refine i_istore_n (l' := [(0, rf 2), (1, iv x1), (2, iv x2), (3, iv (x2 - 100))]) r_56_20 (n_56_20 _) (by decide) rfl ?_
      refine i_iload_n (x := x2 - 100) r_56_21 (n_56_21 _) rfl ?_
      obtain ⟨g6, h⟩ := h
      refine i_if (t := 49) r_56_22 (n_56_22 _) rfl (T_lt g6 ⟨by omega, by omega⟩) (fun c7 => ?_) (fun c7 => ?_)
      · replace h := h.1 c7
        refine i_iconst r_56_49 (n_56_49 _) ?_
        exact i_zreturn r_56_50 (n_56_50 _) rfl (by decide) h
      · replace h := h.2 c7
        refine i_iload_n (x := x2 - 100) r_56_25 (n_56_25 _) rfl ?_
        refine i_iload_n (x := x1) r_56_26 (n_56_26 _) rfl ?_
        obtain ⟨g8, h⟩ := h
        refine i_icmp (t := 49) r_56_27 (n_56_27 _) rfl (T_ge g6 g8) (fun c9 => ?_) (fun c9 => ?_)
        · replace h := h.1 c9
          refine i_iconst r_56_49 (n_56_49 _) ?_
          exact i_zreturn r_56_50 (n_56_50 _) rfl (by decide) h
        · replace h := h.2 c9
          refine i_aload_n (a := 2) r_56_30 (n_56_30 _) rfl ?_
          refine i_getR (a := 2) (b := 3) r_56_31 (n_56_31 _) rfl rfl rfl (by omega) lf_2 (by omega) ?_
          refine i_getR (a := 3) (b := 4) r_56_34 (n_56_34 _) rfl rfl rfl (by omega) lf_3 (by omega) ?_
          refine i_iload_n (x := x2 - 100) r_56_37 (n_56_37 _) rfl ?_
          obtain ⟨g10, h⟩ := h
          refine i_aaload (c := 1) (a := 4) (j := x2 - 100) (b := 7 + 4 * (x2 - 100)) r_56_38 (n_56_38 _) lf_4 ⟨by omega, by omega⟩ (by omega) (by omega) rfl (by omega) ?_
          have t11 := e_1 (j := x2 - 100) lf_4 (by omega) (by omega)
          rw [show 4 + 3 + 4 * (x2 - 100) = 7 + 4 * (x2 - 100) by omega] at t11
          refine i_getI (a := 7 + 4 * (x2 - 100)) r_56_39 (n_56_39 _) rfl (by decide) t11 (fun q12 => ?_)
          refine i_if (t := 49) r_56_42 (n_56_42 _) rfl (T_le q12 ⟨by omega, by omega⟩) (fun c13 => ?_) (fun c13 => ?_)
          · replace h := h.1 c13
            refine i_iconst r_56_49 (n_56_49 _) ?_
            exact i_zreturn r_56_50 (n_56_50 _) rfl (by decide) h
          · replace h := h.2 c13
            refine i_iconst r_56_45 (n_56_45 _) ?_
            refine i_goto (t := 50) r_56_46 (n_56_46 _) rfl ?_
            exact i_zreturn r_56_50 (n_56_50 _) rfl (by decide) h
    · replace h := h.2 c5
      refine i_iconst r_56_14 (n_56_14 _) ?_
      exact i_zreturn r_56_15 (n_56_15 _) rfl (by decide) h
theorem iv_wrap (x : Int) : iv (x - 100) = iv (x + 4294967196) := by
  refine congrArg Value.int (Int32.toInt_inj.mp ?_)
  rw [Int32.toInt_ofInt, Int32.toInt_ofInt]
  have hz : ((Int32.size : Nat) : Int) = 4294967296 := by decide
  simp only [Int.bmod, hz]
  split <;> split <;> omega
theorem v_RL_canBeTypeIn_w {S : Option (Nat × (Nat → Int32))} {s : zSt} {Q : Option Value ⊕ Nat → zSt → Prop} {x1 : Int} {x2 : Int} (g1 : rng x2) (hw : x2 < -2147483548) (g8 : rng x1) (g9 : x1 < 1000) (h : Q (rI 0) s) :
    wp S 56 0 [(0, rf 2), (1, iv x1), (2, iv x2)] [] s Q := by
  have g1a := g1.1
  have g1b := g1.2
  refine i_iload_n (x := x2) r_56_0 (n_56_0 _) rfl ?_
  refine wp_stat (rest := []) (Ls := [(0, iv x2)]) r_56_1 (n_56_1 _) rfl ⟨rfl, by decide, by decide, by decide⟩ rfl rfl ⟨rfl, Nat.le_of_ble_eq_true rfl, Nat.le_of_ble_eq_true rfl⟩ rfl (K_RL_isPlain g1) ?_
  rintro _ _ ⟨rfl, rfl⟩
  refine .inl ⟨some (iv (bi (0 ≤ x2 ∧ x2 ≤ 7))), rfl, ?_⟩
  show wp S 56 4 [(0, rf 2), (1, iv x1), (2, iv x2)] [iv (bi (0 ≤ x2 ∧ x2 ≤ 7))] s Q
  refine i_if (t := 14) r_56_4 (n_56_4 _) rfl (TB_ne) (fun c3 => absurd c3 (by omega)) (fun c3 => ?_)
  refine i_iload_n (x := x2) r_56_7 (n_56_7 _) rfl ?_
  refine wp_stat (rest := []) (Ls := [(0, iv x2)]) r_56_8 (n_56_8 _) rfl ⟨rfl, by decide, by decide, by decide⟩ rfl rfl ⟨rfl, Nat.le_of_ble_eq_true rfl, Nat.le_of_ble_eq_true rfl⟩ rfl (K_RL_isBits g1) ?_
  rintro _ _ ⟨rfl, rfl⟩
  refine .inl ⟨some (iv (bi (20 < x2 ∧ x2 ≤ 36))), rfl, ?_⟩
  show wp S 56 11 [(0, rf 2), (1, iv x1), (2, iv x2)] [iv (bi (20 < x2 ∧ x2 ≤ 36))] s Q
  refine i_if (t := 16) r_56_11 (n_56_11 _) rfl (TB_eq) (fun c5 => ?_) (fun c5 => absurd c5 (by omega))
  refine i_iload_n (x := x2) r_56_16 (n_56_16 _) rfl ?_
  refine i_bipush r_56_17 (n_56_17 _) rfl ?_
  refine i_isub r_56_19 (n_56_19 _) ?_
  rw [iv_wrap]
  refine i_istore_n (l' := [(0, rf 2), (1, iv x1), (2, iv x2), (3, iv (x2 + 4294967196))]) r_56_20 (n_56_20 _) (by decide) rfl ?_
  refine i_iload_n (x := x2 + 4294967196) r_56_21 (n_56_21 _) rfl ?_
  have g6 : rng (x2 + 4294967196) := ⟨by omega, by omega⟩
  refine i_if (t := 49) r_56_22 (n_56_22 _) rfl (T_lt g6 ⟨by omega, by omega⟩) (fun c7 => absurd c7 (by omega)) (fun c7 => ?_)
  refine i_iload_n (x := x2 + 4294967196) r_56_25 (n_56_25 _) rfl ?_
  refine i_iload_n (x := x1) r_56_26 (n_56_26 _) rfl ?_
  refine i_icmp (t := 49) r_56_27 (n_56_27 _) rfl (T_ge g6 g8) (fun c9 => ?_) (fun c9 => absurd c9 (by omega))
  refine i_iconst r_56_49 (n_56_49 _) ?_
  exact i_zreturn r_56_50 (n_56_50 _) rfl (by decide) h
theorem K_RL_canBeTypeIn {S : Option (Nat × (Nat → Int32))} {s : zSt} {x1 : Int} {x2 : Int}  (h1 : rng x2) (h2 : rng x1) (h3 : x1 < 1000) (h4 : (0 ≤ x2 - 100 → x2 - 100 < x1 → x2 - 100 < 6)) : wp S 56 0 [(0, rf 2), (1, iv x1), (2, iv x2)] [] s (fun o t => o = rI (bi ((0 ≤ x2 ∧ x2 ≤ 7) ∨ (20 < x2 ∧ x2 ≤ 36) ∨ (0 ≤ x2 - 100 ∧ x2 - 100 < x1 ∧ 0 < zI s (7 + 4 * (x2 - 100)) 1))) ∧ s = t) := by
  refine wp_W fun hW => ?_
  rcases Int.lt_or_le x2 (-2147483548) with hw | hw
  · exact v_RL_canBeTypeIn_w h1 hw h2 h3 ⟨congrArg rI (bi_F (by omega)).symm, rfl⟩
  · have h1a := h1.1
    have h1b := h1.2
    refine v_RL_canBeTypeIn_0 ?_
    repeat' (first | assumption | rfl | (intro _) | (refine ⟨?_, ?_⟩) | omega | (exact h4 (by omega) (by omega)) | exact congrArg rI (bi_F (by omega)).symm | exact congrArg rI (bi_T (by omega)).symm)
theorem r_36_0 : xfetch 36 0 = some (.iload_n 0, 1) := by decide +kernel
theorem n_36_0 : ∀ l, xpr 36 0 l = l := xpr_no (by decide +kernel)
theorem r_36_1 : xfetch 36 1 = some (.iconst 1, 1) := by decide +kernel
theorem n_36_1 : ∀ l, xpr 36 1 l = l := xpr_no (by decide +kernel)
theorem r_36_2 : xfetch 36 2 = some (.if_icmp .eq 30, 3) := by decide +kernel
theorem n_36_2 : ∀ l, xpr 36 2 l = l := xpr_no (by decide +kernel)
theorem r_36_5 : xfetch 36 5 = some (.iload_n 0, 1) := by decide +kernel
theorem n_36_5 : ∀ l, xpr 36 5 l = l := xpr_no (by decide +kernel)
theorem r_36_6 : xfetch 36 6 = some (.iconst 2, 1) := by decide +kernel
theorem n_36_6 : ∀ l, xpr 36 6 l = l := xpr_no (by decide +kernel)
theorem r_36_7 : xfetch 36 7 = some (.if_icmp .eq 25, 3) := by decide +kernel
theorem n_36_7 : ∀ l, xpr 36 7 l = l := xpr_no (by decide +kernel)
theorem r_36_10 : xfetch 36 10 = some (.iload_n 0, 1) := by decide +kernel
theorem n_36_10 : ∀ l, xpr 36 10 l = l := xpr_no (by decide +kernel)
theorem r_36_11 : xfetch 36 11 = some (.iconst 4, 1) := by decide +kernel
theorem n_36_11 : ∀ l, xpr 36 11 l = l := xpr_no (by decide +kernel)
theorem r_36_12 : xfetch 36 12 = some (.if_icmp .eq 20, 3) := by decide +kernel
theorem n_36_12 : ∀ l, xpr 36 12 l = l := xpr_no (by decide +kernel)
theorem r_36_15 : xfetch 36 15 = some (.iload_n 0, 1) := by decide +kernel
theorem n_36_15 : ∀ l, xpr 36 15 l = l := xpr_no (by decide +kernel)
theorem r_36_16 : xfetch 36 16 = some (.bipush 8, 2) := by decide +kernel
theorem n_36_16 : ∀ l, xpr 36 16 l = l := xpr_no (by decide +kernel)
theorem r_36_18 : xfetch 36 18 = some (.if_icmp .eq 14, 3) := by decide +kernel
theorem n_36_18 : ∀ l, xpr 36 18 l = l := xpr_no (by decide +kernel)
theorem r_36_21 : xfetch 36 21 = some (.new 102, 3) := by decide +kernel
theorem n_36_21 : ∀ l, xpr 36 21 l = l := xpr_no (by decide +kernel)
theorem r_36_32 : xfetch 36 32 = some (.return_, 1) := by decide +kernel
theorem n_36_32 : ∀ l, xpr 36 32 l = l := xpr_no (by decide +kernel)
theorem v_RL_checkPack_0 {S : Option (Nat × (Nat → Int32))} {s : zSt} {Q : Option Value ⊕ Nat → zSt → Prop} {x0 : Int} 
    (h : rng x0 ∧ ((x0 = 1 → Q rU s) ∧ (x0 ≠ 1 → (x0 = 2 → Q rU s) ∧ (x0 ≠ 2 → (x0 = 4 → Q rU s) ∧ (x0 ≠ 4 → (x0 = 8 → Q rU s) ∧ (x0 ≠ 8 → Q (rT 0) (zbump s))))))) :
    wp S 36 0 [(0, iv x0)] [] s Q := by
  refine i_iload_n (x := x0) r_36_0 (n_36_0 _) rfl ?_
  refine i_iconst r_36_1 (n_36_1 _) ?_
  obtain ⟨g1, h⟩ := h
  refine i_icmp (t := 32) r_36_2 (n_36_2 _) rfl (T_eq g1 ⟨by omega, by omega⟩) (fun c2 => ?_) (fun c2 => ?_)
  · replace h := h.1 c2
    exact i_return r_36_32 (n_36_32 _) rfl h
  · replace h := h.2 c2
    refine i_iload_n (x := x0) r_36_5 (n_36_5 _) rfl ?_
    refine i_iconst r_36_6 (n_36_6 _) ?_
    refine i_icmp (t := 32) r_36_7 (n_36_7 _) rfl (T_eq g1 ⟨by omega, by omega⟩) (fun c3 => ?_) (fun c3 => ?_)
    · replace h := h.1 c3
      exact i_return r_36_32 (n_36_32 _) rfl h
    · replace h := h.2 c3
      refine i_iload_n (x := x0) r_36_10 (n_36_10 _) rfl ?_
      refine i_iconst r_36_11 (n_36_11 _) ?_
      refine i_icmp (t := 32) r_36_12 (n_36_12 _) rfl (T_eq g1 ⟨by omega, by omega⟩) (fun c4 => ?_) (fun c4 => ?_)
      · replace h := h.1 c4
        exact i_return r_36_32 (n_36_32 _) rfl h
      · replace h := h.2 c4
        refine i_iload_n (x := x0) r_36_15 (n_36_15 _) rfl ?_
        refine i_bipush r_36_16 (n_36_16 _) rfl ?_
        refine i_icmp (t := 32) r_36_18 (n_36_18 _) rfl (T_eq g1 ⟨by omega, by omega⟩) (fun c5 => ?_) (fun c5 => ?_)
        · replace h := h.1 c5
          exact i_return r_36_32 (n_36_32 _) rfl h
        · replace h := h.2 c5
          exact i_throw r_36_21 (n_36_21 _) rfl (by decide) h
theorem K_RL_checkPack {S : Option (Nat × (Nat → Int32))} {s : zSt} {x0 : Int}  (h1 : rng x0) : wp S 36 0 [(0, iv x0)] [] s (fun o t => ((x0 = 1 ∨ x0 = 2 ∨ x0 = 4 ∨ x0 = 8) ∧ o = rU ∧ s = t) ∨ ((¬ (x0 = 1 ∨ x0 = 2 ∨ x0 = 4 ∨ x0 = 8)) ∧ o = rT 0 ∧ (zbump s) = t)) := by
  refine wp_W fun hW => ?_
  refine v_RL_checkPack_0  ?_
  repeat' (first | assumption | (intro _) | (exact .inl ⟨by omega, rfl, rfl⟩) | (exact .inr ⟨by omega, rfl, rfl⟩) | (refine ⟨?_, ?_⟩) | omega)
theorem r_37_0 : xfetch 37 0 = some (.aload_n 0, 1) := by decide +kernel
theorem n_37_0 : ∀ l, xpr 37 0 l = l := xpr_no (by decide +kernel)
theorem r_37_1 : xfetch 37 1 = some (.getfield 10, 3) := by decide +kernel
theorem n_37_1 : ∀ l, xpr 37 1 l = l := xpr_no (by decide +kernel)
theorem r_37_4 : xfetch 37 4 = some (.getfield 80, 3) := by decide +kernel
theorem n_37_4 : ∀ l, xpr 37 4 l = l := xpr_no (by decide +kernel)
theorem r_37_7 : xfetch 37 7 = some (.bipush 6, 2) := by decide +kernel
theorem n_37_7 : ∀ l, xpr 37 7 l = l := xpr_no (by decide +kernel)
theorem r_37_9 : xfetch 37 9 = some (.if_icmp .lt 14, 3) := by decide +kernel
theorem n_37_9 : ∀ l, xpr 37 9 l = l := xpr_no (by decide +kernel)
theorem r_37_12 : xfetch 37 12 = some (.new 137, 3) := by decide +kernel
theorem n_37_12 : ∀ l, xpr 37 12 l = l := xpr_no (by decide +kernel)
theorem r_37_23 : xfetch 37 23 = some (.return_, 1) := by decide +kernel
theorem n_37_23 : ∀ l, xpr 37 23 l = l := xpr_no (by decide +kernel)
theorem v_RL_checkRecordRoom_0 {S : Option (Nat × (Nat → Int32))} {s : zSt} {Q : Option Value ⊕ Nat → zSt → Prop}  
    (h : ((zI s 3 0) < 6 → Q rU s) ∧ (6 ≤ (zI s 3 0) → Q (rT 1) (zbump s))) :
    wp S 37 0 [(0, rf 2)] [] s Q := by
  refine i_aload_n (a := 2) r_37_0 (n_37_0 _) rfl ?_
  refine i_getR (a := 2) (b := 3) r_37_1 (n_37_1 _) rfl rfl rfl (by omega) lf_2 (by omega) ?_
  refine i_getI (a := 3) r_37_4 (n_37_4 _) rfl (by decide) lf_3 (fun q1 => ?_)
  refine i_bipush r_37_7 (n_37_7 _) rfl ?_
  refine i_icmp (t := 23) r_37_9 (n_37_9 _) rfl (T_lt q1 ⟨by omega, by omega⟩) (fun c2 => ?_) (fun c2 => ?_)
  · replace h := h.1 c2
    exact i_return r_37_23 (n_37_23 _) rfl h
  · replace h := h.2 c2
    exact i_throw r_37_12 (n_37_12 _) rfl (by decide) h
theorem K_RL_checkRecordRoom {S : Option (Nat × (Nat → Int32))} {s : zSt}    : wp S 37 0 [(0, rf 2)] [] s (fun o t => ((zI s 3 0 < 6) ∧ o = rU ∧ s = t) ∨ ((¬ (zI s 3 0 < 6)) ∧ o = rT 1 ∧ (zbump s) = t)) := by
  refine wp_W fun hW => ?_
  refine v_RL_checkRecordRoom_0  ?_
  repeat' (first | assumption | (intro _) | (exact .inl ⟨by omega, rfl, rfl⟩) | (exact .inr ⟨by omega, rfl, rfl⟩) | (refine ⟨?_, ?_⟩) | omega)
theorem r_54_0 : xfetch 54 0 = some (.iload_n 1, 1) := by decide +kernel
theorem n_54_0 : ∀ l, xpr 54 0 l = l := xpr_no (by decide +kernel)
theorem r_54_1 : xfetch 54 1 = some (.ifCond .lt 14, 3) := by decide +kernel
theorem n_54_1 : ∀ l, xpr 54 1 l = l := xpr_no (by decide +kernel)
theorem r_54_4 : xfetch 54 4 = some (.iload_n 1, 1) := by decide +kernel
theorem n_54_4 : ∀ l, xpr 54 4 l = l := xpr_no (by decide +kernel)
theorem r_54_5 : xfetch 54 5 = some (.aload_n 0, 1) := by decide +kernel
theorem n_54_5 : ∀ l, xpr 54 5 l = l := xpr_no (by decide +kernel)
theorem r_54_6 : xfetch 54 6 = some (.getfield 10, 3) := by decide +kernel
theorem n_54_6 : ∀ l, xpr 54 6 l = l := xpr_no (by decide +kernel)
theorem r_54_9 : xfetch 54 9 = some (.getfield 80, 3) := by decide +kernel
theorem n_54_9 : ∀ l, xpr 54 9 l = l := xpr_no (by decide +kernel)
theorem r_54_12 : xfetch 54 12 = some (.if_icmp .lt 14, 3) := by decide +kernel
theorem n_54_12 : ∀ l, xpr 54 12 l = l := xpr_no (by decide +kernel)
theorem r_54_15 : xfetch 54 15 = some (.new 157, 3) := by decide +kernel
theorem n_54_15 : ∀ l, xpr 54 15 l = l := xpr_no (by decide +kernel)
theorem r_54_26 : xfetch 54 26 = some (.return_, 1) := by decide +kernel
theorem n_54_26 : ∀ l, xpr 54 26 l = l := xpr_no (by decide +kernel)
theorem v_RL_checkRecord_0 {S : Option (Nat × (Nat → Int32))} {s : zSt} {Q : Option Value ⊕ Nat → zSt → Prop} {x1 : Int} 
    (h : rng x1 ∧ ((x1 < 0 → Q (rT 2) (zbump s)) ∧ (0 ≤ x1 → (x1 < (zI s 3 0) → Q rU s) ∧ ((zI s 3 0) ≤ x1 → Q (rT 2) (zbump s))))) :
    wp S 54 0 [(0, rf 2), (1, iv x1)] [] s Q := by
  refine i_iload_n (x := x1) r_54_0 (n_54_0 _) rfl ?_
  obtain ⟨g1, h⟩ := h
  refine i_if (t := 15) r_54_1 (n_54_1 _) rfl (T_lt g1 ⟨by omega, by omega⟩) (fun c2 => ?_) (fun c2 => ?_)
  · replace h := h.1 c2
    exact i_throw r_54_15 (n_54_15 _) rfl (by decide) h
  · replace h := h.2 c2
    refine i_iload_n (x := x1) r_54_4 (n_54_4 _) rfl ?_
    refine i_aload_n (a := 2) r_54_5 (n_54_5 _) rfl ?_
    refine i_getR (a := 2) (b := 3) r_54_6 (n_54_6 _) rfl rfl rfl (by omega) lf_2 (by omega) ?_
    refine i_getI (a := 3) r_54_9 (n_54_9 _) rfl (by decide) lf_3 (fun q3 => ?_)
    refine i_icmp (t := 26) r_54_12 (n_54_12 _) rfl (T_lt g1 q3) (fun c4 => ?_) (fun c4 => ?_)
    · replace h := h.1 c4
      exact i_return r_54_26 (n_54_26 _) rfl h
    · replace h := h.2 c4
      exact i_throw r_54_15 (n_54_15 _) rfl (by decide) h
theorem K_RL_checkRecord {S : Option (Nat × (Nat → Int32))} {s : zSt} {x1 : Int}  (h1 : rng x1) : wp S 54 0 [(0, rf 2), (1, iv x1)] [] s (fun o t => ((0 ≤ x1 ∧ x1 < zI s 3 0) ∧ o = rU ∧ s = t) ∨ ((¬ (0 ≤ x1 ∧ x1 < zI s 3 0)) ∧ o = rT 2 ∧ (zbump s) = t)) := by
  refine wp_W fun hW => ?_
  refine v_RL_checkRecord_0  ?_
  repeat' (first | assumption | (intro _) | (exact .inl ⟨by omega, rfl, rfl⟩) | (exact .inr ⟨by omega, rfl, rfl⟩) | (refine ⟨?_, ?_⟩) | omega)
theorem r_65_0 : xfetch 65 0 = some (.aload_n 0, 1) := by decide +kernel
theorem n_65_0 : ∀ l, xpr 65 0 l = l := xpr_no (by decide +kernel)
theorem r_65_1 : xfetch 65 1 = some (.iload_n 1, 1) := by decide +kernel
theorem n_65_1 : ∀ l, xpr 65 1 l = l := xpr_no (by decide +kernel)
theorem r_65_2 : xfetch 65 2 = some (.invokevirtual 95, 3) := by decide +kernel
theorem n_65_2 : ∀ l, xpr 65 2 l = l := xpr_no (by decide +kernel)
theorem r_65_5 : xfetch 65 5 = some (.iload_n 2, 1) := by decide +kernel
theorem n_65_5 : ∀ l, xpr 65 5 l = l := xpr_no (by decide +kernel)
theorem r_65_6 : xfetch 65 6 = some (.ifCond .lt 19, 3) := by decide +kernel
theorem n_65_6 : ∀ l, xpr 65 6 l = l := xpr_no (by decide +kernel)
theorem r_65_9 : xfetch 65 9 = some (.iload_n 2, 1) := by decide +kernel
theorem n_65_9 : ∀ l, xpr 65 9 l = l := xpr_no (by decide +kernel)
theorem r_65_10 : xfetch 65 10 = some (.aload_n 0, 1) := by decide +kernel
theorem n_65_10 : ∀ l, xpr 65 10 l = l := xpr_no (by decide +kernel)
theorem r_65_11 : xfetch 65 11 = some (.getfield 18, 3) := by decide +kernel
theorem n_65_11 : ∀ l, xpr 65 11 l = l := xpr_no (by decide +kernel)
theorem r_65_14 : xfetch 65 14 = some (.iload_n 1, 1) := by decide +kernel
theorem n_65_14 : ∀ l, xpr 65 14 l = l := xpr_no (by decide +kernel)
theorem r_65_15 : xfetch 65 15 = some (.aaload, 1) := by decide +kernel
theorem n_65_15 : ∀ l, xpr 65 15 l = l := xpr_no (by decide +kernel)
theorem r_65_16 : xfetch 65 16 = some (.getfield 120, 3) := by decide +kernel
theorem n_65_16 : ∀ l, xpr 65 16 l = l := xpr_no (by decide +kernel)
theorem r_65_19 : xfetch 65 19 = some (.getfield 124, 3) := by decide +kernel
theorem n_65_19 : ∀ l, xpr 65 19 l = l := xpr_no (by decide +kernel)
theorem r_65_22 : xfetch 65 22 = some (.if_icmp .lt 14, 3) := by decide +kernel
theorem n_65_22 : ∀ l, xpr 65 22 l = l := xpr_no (by decide +kernel)
theorem r_65_25 : xfetch 65 25 = some (.new 157, 3) := by decide +kernel
theorem n_65_25 : ∀ l, xpr 65 25 l = l := xpr_no (by decide +kernel)
theorem r_65_36 : xfetch 65 36 = some (.return_, 1) := by decide +kernel
theorem n_65_36 : ∀ l, xpr 65 36 l = l := xpr_no (by decide +kernel)
theorem v_RL_checkLeafOfRecord_0 {S : Option (Nat × (Nat → Int32))} {s : zSt} {Q : Option Value ⊕ Nat → zSt → Prop} {x1 : Int} {x2 : Int} 
    (h : rng x1 ∧ ((0 ≤ x1 ∧ x1 < zI s 3 0 → rng x2 ∧ ((x2 < 0 → Q (rT 2) (zbump s)) ∧ (0 ≤ x2 → (0 ≤ x1 ∧ x1 < 6) ∧ ((x2 < (zI s (67 + 11 * x1) 0) → Q rU s) ∧ ((zI s (67 + 11 * x1) 0) ≤ x2 → Q (rT 2) (zbump s)))))) ∧ ((¬ (0 ≤ x1 ∧ x1 < zI s 3 0) → Q (rT 2) (zbump s))))) :
    wp S 65 0 [(0, rf 2), (1, iv x1), (2, iv x2)] [] s Q := by
  refine i_aload_n (a := 2) r_65_0 (n_65_0 _) rfl ?_
  refine i_iload_n (x := x1) r_65_1 (n_65_1 _) rfl ?_
  obtain ⟨g1, h⟩ := h
  refine wp_virt (b := 2) (rest := []) (Ls := [(0, rf 2), (1, iv x1)]) r_65_2 (n_65_2 _) rfl ⟨rfl, rfl, by decide, by decide⟩ rfl rfl lf_2 ⟨rfl, Nat.le_of_ble_eq_true rfl, Nat.le_of_ble_eq_true rfl⟩ rfl (K_RL_checkRecord g1) ?_
  rintro _ _ (⟨c2, rfl, rfl⟩ | ⟨c2, rfl, rfl⟩)
  · replace h := h.1 c2
    refine .inl ⟨none, rfl, ?_⟩
    show wp S 65 5 [(0, rf 2), (1, iv x1), (2, iv x2)] [] s Q
    refine i_iload_n (x := x2) r_65_5 (n_65_5 _) rfl ?_
    obtain ⟨g3, h⟩ := h
    refine i_if (t := 25) r_65_6 (n_65_6 _) rfl (T_lt g3 ⟨by omega, by omega⟩) (fun c4 => ?_) (fun c4 => ?_)
    · replace h := h.1 c4
      exact i_throw r_65_25 (n_65_25 _) rfl (by decide) h
    · replace h := h.2 c4
      refine i_iload_n (x := x2) r_65_9 (n_65_9 _) rfl ?_
      refine i_aload_n (a := 2) r_65_10 (n_65_10 _) rfl ?_
      refine i_getR (a := 2) (b := 34) r_65_11 (n_65_11 _) rfl rfl rfl (by omega) lf_2 (by omega) ?_
      refine i_iload_n (x := x1) r_65_14 (n_65_14 _) rfl ?_
      obtain ⟨g5, h⟩ := h
      refine i_aaload (c := 4) (a := 34) (j := x1) (b := 62 + 11 * x1) r_65_15 (n_65_15 _) lf_34 ⟨by omega, by omega⟩ (by omega) (by omega) rfl (by omega) ?_
      have t6 := e_4 (j := x1) lf_34 (by omega) (by omega)
      rw [show 34 + 28 + 11 * x1 = 62 + 11 * x1 by omega] at t6
      refine i_getR (a := 62 + 11 * x1) (b := 67 + 11 * x1) r_65_16 (n_65_16 _) rfl rfl rfl (by omega) t6 (by omega) ?_
      have t7 := (t_4_4 t6)
      rw [show (62 + 11 * x1) + 5 = 67 + 11 * x1 by omega] at t7
      refine i_getI (a := 67 + 11 * x1) r_65_19 (n_65_19 _) rfl (by decide) t7 (fun q8 => ?_)
      refine i_icmp (t := 36) r_65_22 (n_65_22 _) rfl (T_lt g3 q8) (fun c9 => ?_) (fun c9 => ?_)
      · replace h := h.1 c9
        exact i_return r_65_36 (n_65_36 _) rfl h
      · replace h := h.2 c9
        exact i_throw r_65_25 (n_65_25 _) rfl (by decide) h
  · replace h := h.2 c2
    exact .inr ⟨_, rfl, .inl ⟨rfl, h⟩⟩
theorem K_RL_checkLeafOfRecord {S : Option (Nat × (Nat → Int32))} {s : zSt} {x1 : Int} {x2 : Int}  (h1 : rng x1) (h2 : rng x2) (h3 : (0 ≤ x1 → x1 < zI s 3 0 → x1 < 6)) : wp S 65 0 [(0, rf 2), (1, iv x1), (2, iv x2)] [] s (fun o t => (((0 ≤ x1 ∧ x1 < zI s 3 0) ∧ 0 ≤ x2 ∧ x2 < zI s (67 + 11 * x1) 0) ∧ o = rU ∧ s = t) ∨ ((¬ ((0 ≤ x1 ∧ x1 < zI s 3 0) ∧ 0 ≤ x2 ∧ x2 < zI s (67 + 11 * x1) 0)) ∧ o = rT 2 ∧ (zbump s) = t)) := by
  refine wp_W fun hW => ?_
  refine v_RL_checkLeafOfRecord_0  ?_
  repeat' (first | assumption | (intro _) | (exact .inl ⟨by omega, rfl, rfl⟩) | (exact .inr ⟨by omega, rfl, rfl⟩) | (refine ⟨?_, ?_⟩) | omega)
theorem r_105_0 : xfetch 105 0 = some (.aload_n 0, 1) := by decide +kernel
theorem n_105_0 : ∀ l, xpr 105 0 l = l := xpr_no (by decide +kernel)
theorem r_105_1 : xfetch 105 1 = some (.getfield 10, 3) := by decide +kernel
theorem n_105_1 : ∀ l, xpr 105 1 l = l := xpr_no (by decide +kernel)
theorem r_105_4 : xfetch 105 4 = some (.getfield 83, 3) := by decide +kernel
theorem n_105_4 : ∀ l, xpr 105 4 l = l := xpr_no (by decide +kernel)
theorem r_105_7 : xfetch 105 7 = some (.iload_n 1, 1) := by decide +kernel
theorem n_105_7 : ∀ l, xpr 105 7 l = l := xpr_no (by decide +kernel)
theorem r_105_8 : xfetch 105 8 = some (.aaload, 1) := by decide +kernel
theorem n_105_8 : ∀ l, xpr 105 8 l = l := xpr_no (by decide +kernel)
theorem r_105_9 : xfetch 105 9 = some (.getfield 133, 3) := by decide +kernel
theorem n_105_9 : ∀ l, xpr 105 9 l = l := xpr_no (by decide +kernel)
theorem r_105_12 : xfetch 105 12 = some (.iconst 1, 1) := by decide +kernel
theorem n_105_12 : ∀ l, xpr 105 12 l = l := xpr_no (by decide +kernel)
theorem r_105_13 : xfetch 105 13 = some (.if_icmp .ge 14, 3) := by decide +kernel
theorem n_105_13 : ∀ l, xpr 105 13 l = l := xpr_no (by decide +kernel)
theorem r_105_16 : xfetch 105 16 = some (.new 137, 3) := by decide +kernel
theorem n_105_16 : ∀ l, xpr 105 16 l = l := xpr_no (by decide +kernel)
theorem r_105_27 : xfetch 105 27 = some (.return_, 1) := by decide +kernel
theorem n_105_27 : ∀ l, xpr 105 27 l = l := xpr_no (by decide +kernel)
theorem v_RL_checkHasFields_0 {S : Option (Nat × (Nat → Int32))} {s : zSt} {Q : Option Value ⊕ Nat → zSt → Prop} {x1 : Int} 
    (h : (0 ≤ x1 ∧ x1 < 6) ∧ ((1 ≤ (zI s (7 + 4 * x1) 1) → Q rU s) ∧ ((zI s (7 + 4 * x1) 1) < 1 → Q (rT 1) (zbump s)))) :
    wp S 105 0 [(0, rf 2), (1, iv x1)] [] s Q := by
  refine i_aload_n (a := 2) r_105_0 (n_105_0 _) rfl ?_
  refine i_getR (a := 2) (b := 3) r_105_1 (n_105_1 _) rfl rfl rfl (by omega) lf_2 (by omega) ?_
  refine i_getR (a := 3) (b := 4) r_105_4 (n_105_4 _) rfl rfl rfl (by omega) lf_3 (by omega) ?_
  refine i_iload_n (x := x1) r_105_7 (n_105_7 _) rfl ?_
  obtain ⟨g1, h⟩ := h
  refine i_aaload (c := 1) (a := 4) (j := x1) (b := 7 + 4 * x1) r_105_8 (n_105_8 _) lf_4 ⟨by omega, by omega⟩ (by omega) (by omega) rfl (by omega) ?_
  have t2 := e_1 (j := x1) lf_4 (by omega) (by omega)
  rw [show 4 + 3 + 4 * x1 = 7 + 4 * x1 by omega] at t2
  refine i_getI (a := 7 + 4 * x1) r_105_9 (n_105_9 _) rfl (by decide) t2 (fun q3 => ?_)
  refine i_iconst r_105_12 (n_105_12 _) ?_
  refine i_icmp (t := 27) r_105_13 (n_105_13 _) rfl (T_ge q3 ⟨by omega, by omega⟩) (fun c4 => ?_) (fun c4 => ?_)
  · replace h := h.1 c4
    exact i_return r_105_27 (n_105_27 _) rfl h
  · replace h := h.2 c4
    exact i_throw r_105_16 (n_105_16 _) rfl (by decide) h
theorem K_RL_checkHasFields {S : Option (Nat × (Nat → Int32))} {s : zSt} {x1 : Int}  (h1 : (0 ≤ x1 ∧ x1 < 6)) : wp S 105 0 [(0, rf 2), (1, iv x1)] [] s (fun o t => ((1 ≤ zI s (7 + 4 * x1) 1) ∧ o = rU ∧ s = t) ∨ ((¬ (1 ≤ zI s (7 + 4 * x1) 1)) ∧ o = rT 1 ∧ (zbump s) = t)) := by
  refine wp_W fun hW => ?_
  refine v_RL_checkHasFields_0  ?_
  repeat' (first | assumption | (intro _) | (exact .inl ⟨by omega, rfl, rfl⟩) | (exact .inr ⟨by omega, rfl, rfl⟩) | (refine ⟨?_, ?_⟩) | omega)
theorem r_60_0 : xfetch 60 0 = some (.iload_n 0, 1) := by decide +kernel
theorem n_60_0 : ∀ l, xpr 60 0 l = l := xpr_no (by decide +kernel)
theorem r_60_1 : xfetch 60 1 = some (.ifCond .lt 8, 3) := by decide +kernel
theorem n_60_1 : ∀ l, xpr 60 1 l = l := xpr_no (by decide +kernel)
theorem r_60_4 : xfetch 60 4 = some (.iload_n 0, 1) := by decide +kernel
theorem n_60_4 : ∀ l, xpr 60 4 l = l := xpr_no (by decide +kernel)
theorem r_60_5 : xfetch 60 5 = some (.iload_n 1, 1) := by decide +kernel
theorem n_60_5 : ∀ l, xpr 60 5 l = l := xpr_no (by decide +kernel)
theorem r_60_6 : xfetch 60 6 = some (.if_icmp .le 14, 3) := by decide +kernel
theorem n_60_6 : ∀ l, xpr 60 6 l = l := xpr_no (by decide +kernel)
theorem r_60_9 : xfetch 60 9 = some (.new 102, 3) := by decide +kernel
theorem n_60_9 : ∀ l, xpr 60 9 l = l := xpr_no (by decide +kernel)
theorem r_60_20 : xfetch 60 20 = some (.return_, 1) := by decide +kernel
theorem n_60_20 : ∀ l, xpr 60 20 l = l := xpr_no (by decide +kernel)
theorem v_RL_checkWhat_0 {S : Option (Nat × (Nat → Int32))} {s : zSt} {Q : Option Value ⊕ Nat → zSt → Prop} {x0 : Int} {x1 : Int} 
    (h : rng x0 ∧ ((x0 < 0 → Q (rT 0) (zbump s)) ∧ (0 ≤ x0 → rng x1 ∧ ((x0 ≤ x1 → Q rU s) ∧ (x1 < x0 → Q (rT 0) (zbump s)))))) :
    wp S 60 0 [(0, iv x0), (1, iv x1)] [] s Q := by
  refine i_iload_n (x := x0) r_60_0 (n_60_0 _) rfl ?_
  obtain ⟨g1, h⟩ := h
  refine i_if (t := 9) r_60_1 (n_60_1 _) rfl (T_lt g1 ⟨by omega, by omega⟩) (fun c2 => ?_) (fun c2 => ?_)
  · replace h := h.1 c2
    exact i_throw r_60_9 (n_60_9 _) rfl (by decide) h
  · replace h := h.2 c2
    refine i_iload_n (x := x0) r_60_4 (n_60_4 _) rfl ?_
    refine i_iload_n (x := x1) r_60_5 (n_60_5 _) rfl ?_
    obtain ⟨g3, h⟩ := h
    refine i_icmp (t := 20) r_60_6 (n_60_6 _) rfl (T_le g1 g3) (fun c4 => ?_) (fun c4 => ?_)
    · replace h := h.1 c4
      exact i_return r_60_20 (n_60_20 _) rfl h
    · replace h := h.2 c4
      exact i_throw r_60_9 (n_60_9 _) rfl (by decide) h
theorem K_RL_checkWhat {S : Option (Nat × (Nat → Int32))} {s : zSt} {x0 : Int} {x1 : Int}  (h1 : rng x0) (h2 : rng x1) : wp S 60 0 [(0, iv x0), (1, iv x1)] [] s (fun o t => ((0 ≤ x0 ∧ x0 ≤ x1) ∧ o = rU ∧ s = t) ∨ ((¬ (0 ≤ x0 ∧ x0 ≤ x1)) ∧ o = rT 0 ∧ (zbump s) = t)) := by
  refine wp_W fun hW => ?_
  refine v_RL_checkWhat_0  ?_
  repeat' (first | assumption | (intro _) | (exact .inl ⟨by omega, rfl, rfl⟩) | (exact .inr ⟨by omega, rfl, rfl⟩) | (refine ⟨?_, ?_⟩) | omega)
theorem r_103_0 : xfetch 103 0 = some (.iload_n 0, 1) := by decide +kernel
theorem n_103_0 : ∀ l, xpr 103 0 l = l := xpr_no (by decide +kernel)
theorem r_103_1 : xfetch 103 1 = some (.ifCond .lt 9, 3) := by decide +kernel
theorem n_103_1 : ∀ l, xpr 103 1 l = l := xpr_no (by decide +kernel)
theorem r_103_4 : xfetch 103 4 = some (.iload_n 0, 1) := by decide +kernel
theorem n_103_4 : ∀ l, xpr 103 4 l = l := xpr_no (by decide +kernel)
theorem r_103_5 : xfetch 103 5 = some (.bipush 8, 2) := by decide +kernel
theorem n_103_5 : ∀ l, xpr 103 5 l = l := xpr_no (by decide +kernel)
theorem r_103_7 : xfetch 103 7 = some (.if_icmp .le 14, 3) := by decide +kernel
theorem n_103_7 : ∀ l, xpr 103 7 l = l := xpr_no (by decide +kernel)
theorem r_103_10 : xfetch 103 10 = some (.new 102, 3) := by decide +kernel
theorem n_103_10 : ∀ l, xpr 103 10 l = l := xpr_no (by decide +kernel)
theorem r_103_21 : xfetch 103 21 = some (.return_, 1) := by decide +kernel
theorem n_103_21 : ∀ l, xpr 103 21 l = l := xpr_no (by decide +kernel)
theorem v_RL_checkLayout_0 {S : Option (Nat × (Nat → Int32))} {s : zSt} {Q : Option Value ⊕ Nat → zSt → Prop} {x0 : Int} 
    (h : rng x0 ∧ ((x0 < 0 → Q (rT 0) (zbump s)) ∧ (0 ≤ x0 → (x0 ≤ 8 → Q rU s) ∧ (8 < x0 → Q (rT 0) (zbump s))))) :
    wp S 103 0 [(0, iv x0)] [] s Q := by
  refine i_iload_n (x := x0) r_103_0 (n_103_0 _) rfl ?_
  obtain ⟨g1, h⟩ := h
  refine i_if (t := 10) r_103_1 (n_103_1 _) rfl (T_lt g1 ⟨by omega, by omega⟩) (fun c2 => ?_) (fun c2 => ?_)
  · replace h := h.1 c2
    exact i_throw r_103_10 (n_103_10 _) rfl (by decide) h
  · replace h := h.2 c2
    refine i_iload_n (x := x0) r_103_4 (n_103_4 _) rfl ?_
    refine i_bipush r_103_5 (n_103_5 _) rfl ?_
    refine i_icmp (t := 21) r_103_7 (n_103_7 _) rfl (T_le g1 ⟨by omega, by omega⟩) (fun c3 => ?_) (fun c3 => ?_)
    · replace h := h.1 c3
      exact i_return r_103_21 (n_103_21 _) rfl h
    · replace h := h.2 c3
      exact i_throw r_103_10 (n_103_10 _) rfl (by decide) h
theorem K_RL_checkLayout {S : Option (Nat × (Nat → Int32))} {s : zSt} {x0 : Int}  (h1 : rng x0) : wp S 103 0 [(0, iv x0)] [] s (fun o t => ((0 ≤ x0 ∧ x0 ≤ 8) ∧ o = rU ∧ s = t) ∨ ((¬ (0 ≤ x0 ∧ x0 ≤ 8)) ∧ o = rT 0 ∧ (zbump s) = t)) := by
  refine wp_W fun hW => ?_
  refine v_RL_checkLayout_0  ?_
  repeat' (first | assumption | (intro _) | (exact .inl ⟨by omega, rfl, rfl⟩) | (exact .inr ⟨by omega, rfl, rfl⟩) | (refine ⟨?_, ?_⟩) | omega)
theorem r_104_0 : xfetch 104 0 = some (.iload_n 0, 1) := by decide +kernel
theorem n_104_0 : ∀ l, xpr 104 0 l = l := xpr_no (by decide +kernel)
theorem r_104_1 : xfetch 104 1 = some (.ifCond .lt 8, 3) := by decide +kernel
theorem n_104_1 : ∀ l, xpr 104 1 l = l := xpr_no (by decide +kernel)
theorem r_104_4 : xfetch 104 4 = some (.iload_n 0, 1) := by decide +kernel
theorem n_104_4 : ∀ l, xpr 104 4 l = l := xpr_no (by decide +kernel)
theorem r_104_5 : xfetch 104 5 = some (.iconst 1, 1) := by decide +kernel
theorem n_104_5 : ∀ l, xpr 104 5 l = l := xpr_no (by decide +kernel)
theorem r_104_6 : xfetch 104 6 = some (.if_icmp .le 14, 3) := by decide +kernel
theorem n_104_6 : ∀ l, xpr 104 6 l = l := xpr_no (by decide +kernel)
theorem r_104_9 : xfetch 104 9 = some (.new 102, 3) := by decide +kernel
theorem n_104_9 : ∀ l, xpr 104 9 l = l := xpr_no (by decide +kernel)
theorem r_104_20 : xfetch 104 20 = some (.return_, 1) := by decide +kernel
theorem n_104_20 : ∀ l, xpr 104 20 l = l := xpr_no (by decide +kernel)
theorem v_RL_checkOrder_0 {S : Option (Nat × (Nat → Int32))} {s : zSt} {Q : Option Value ⊕ Nat → zSt → Prop} {x0 : Int} 
    (h : rng x0 ∧ ((x0 < 0 → Q (rT 0) (zbump s)) ∧ (0 ≤ x0 → (x0 ≤ 1 → Q rU s) ∧ (1 < x0 → Q (rT 0) (zbump s))))) :
    wp S 104 0 [(0, iv x0)] [] s Q := by
  refine i_iload_n (x := x0) r_104_0 (n_104_0 _) rfl ?_
  obtain ⟨g1, h⟩ := h
  refine i_if (t := 9) r_104_1 (n_104_1 _) rfl (T_lt g1 ⟨by omega, by omega⟩) (fun c2 => ?_) (fun c2 => ?_)
  · replace h := h.1 c2
    exact i_throw r_104_9 (n_104_9 _) rfl (by decide) h
  · replace h := h.2 c2
    refine i_iload_n (x := x0) r_104_4 (n_104_4 _) rfl ?_
    refine i_iconst r_104_5 (n_104_5 _) ?_
    refine i_icmp (t := 20) r_104_6 (n_104_6 _) rfl (T_le g1 ⟨by omega, by omega⟩) (fun c3 => ?_) (fun c3 => ?_)
    · replace h := h.1 c3
      exact i_return r_104_20 (n_104_20 _) rfl h
    · replace h := h.2 c3
      exact i_throw r_104_9 (n_104_9 _) rfl (by decide) h
theorem K_RL_checkOrder {S : Option (Nat × (Nat → Int32))} {s : zSt} {x0 : Int}  (h1 : rng x0) : wp S 104 0 [(0, iv x0)] [] s (fun o t => ((0 ≤ x0 ∧ x0 ≤ 1) ∧ o = rU ∧ s = t) ∨ ((¬ (0 ≤ x0 ∧ x0 ≤ 1)) ∧ o = rT 0 ∧ (zbump s) = t)) := by
  refine wp_W fun hW => ?_
  refine v_RL_checkOrder_0  ?_
  repeat' (first | assumption | (intro _) | (exact .inl ⟨by omega, rfl, rfl⟩) | (exact .inr ⟨by omega, rfl, rfl⟩) | (refine ⟨?_, ?_⟩) | omega)
theorem r_112_0 : xfetch 112 0 = some (.iload_n 1, 1) := by decide +kernel
theorem n_112_0 : ∀ l, xpr 112 0 l = l := xpr_no (by decide +kernel)
theorem r_112_1 : xfetch 112 1 = some (.ifCond .lt 23, 3) := by decide +kernel
theorem n_112_1 : ∀ l, xpr 112 1 l = l := xpr_no (by decide +kernel)
theorem r_112_4 : xfetch 112 4 = some (.iload_n 1, 1) := by decide +kernel
theorem n_112_4 : ∀ l, xpr 112 4 l = l := xpr_no (by decide +kernel)
theorem r_112_5 : xfetch 112 5 = some (.iconst 3, 1) := by decide +kernel
theorem n_112_5 : ∀ l, xpr 112 5 l = l := xpr_no (by decide +kernel)
theorem r_112_6 : xfetch 112 6 = some (.if_icmp .ge 18, 3) := by decide +kernel
theorem n_112_6 : ∀ l, xpr 112 6 l = l := xpr_no (by decide +kernel)
theorem r_112_9 : xfetch 112 9 = some (.aload_n 0, 1) := by decide +kernel
theorem n_112_9 : ∀ l, xpr 112 9 l = l := xpr_no (by decide +kernel)
theorem r_112_10 : xfetch 112 10 = some (.getfield 10, 3) := by decide +kernel
theorem n_112_10 : ∀ l, xpr 112 10 l = l := xpr_no (by decide +kernel)
theorem r_112_13 : xfetch 112 13 = some (.getfield 256, 3) := by decide +kernel
theorem n_112_13 : ∀ l, xpr 112 13 l = l := xpr_no (by decide +kernel)
theorem r_112_16 : xfetch 112 16 = some (.iload_n 1, 1) := by decide +kernel
theorem n_112_16 : ∀ l, xpr 112 16 l = l := xpr_no (by decide +kernel)
theorem r_112_17 : xfetch 112 17 = some (.aaload, 1) := by decide +kernel
theorem n_112_17 : ∀ l, xpr 112 17 l = l := xpr_no (by decide +kernel)
theorem r_112_18 : xfetch 112 18 = some (.getfield 260, 3) := by decide +kernel
theorem n_112_18 : ∀ l, xpr 112 18 l = l := xpr_no (by decide +kernel)
theorem r_112_21 : xfetch 112 21 = some (.ifCond .ne 14, 3) := by decide +kernel
theorem n_112_21 : ∀ l, xpr 112 21 l = l := xpr_no (by decide +kernel)
theorem r_112_24 : xfetch 112 24 = some (.new 157, 3) := by decide +kernel
theorem n_112_24 : ∀ l, xpr 112 24 l = l := xpr_no (by decide +kernel)
theorem r_112_35 : xfetch 112 35 = some (.return_, 1) := by decide +kernel
theorem n_112_35 : ∀ l, xpr 112 35 l = l := xpr_no (by decide +kernel)
theorem v_RL_checkTable_0 {S : Option (Nat × (Nat → Int32))} {s : zSt} {Q : Option Value ⊕ Nat → zSt → Prop} {x1 : Int} 
    (h : rng x1 ∧ ((x1 < 0 → Q (rT 2) (zbump s)) ∧ (0 ≤ x1 → (3 ≤ x1 → Q (rT 2) (zbump s)) ∧ (x1 < 3 → (0 ≤ x1 ∧ x1 < 3) ∧ (((zI s (31 + x1) 0) ≠ 0 → Q rU s) ∧ ((zI s (31 + x1) 0) = 0 → Q (rT 2) (zbump s))))))) :
    wp S 112 0 [(0, rf 2), (1, iv x1)] [] s Q := by
  refine i_iload_n (x := x1) r_112_0 (n_112_0 _) rfl ?_
  obtain ⟨g1, h⟩ := h
  refine i_if (t := 24) r_112_1 (n_112_1 _) rfl (T_lt g1 ⟨by omega, by omega⟩) (fun c2 => ?_) (fun c2 => ?_)
  · replace h := h.1 c2
    exact i_throw r_112_24 (n_112_24 _) rfl (by decide) h
  · replace h := h.2 c2
    refine i_iload_n (x := x1) r_112_4 (n_112_4 _) rfl ?_
    refine i_iconst r_112_5 (n_112_5 _) ?_
    refine i_icmp (t := 24) r_112_6 (n_112_6 _) rfl (T_ge g1 ⟨by omega, by omega⟩) (fun c3 => ?_) (fun c3 => ?_)
    · replace h := h.1 c3
      exact i_throw r_112_24 (n_112_24 _) rfl (by decide) h
    · replace h := h.2 c3
      refine i_aload_n (a := 2) r_112_9 (n_112_9 _) rfl ?_
      refine i_getR (a := 2) (b := 3) r_112_10 (n_112_10 _) rfl rfl rfl (by omega) lf_2 (by omega) ?_
      refine i_getR (a := 3) (b := 5) r_112_13 (n_112_13 _) rfl rfl rfl (by omega) lf_3 (by omega) ?_
      refine i_iload_n (x := x1) r_112_16 (n_112_16 _) rfl ?_
      obtain ⟨g4, h⟩ := h
      refine i_aaload (c := 6) (a := 5) (j := x1) (b := 31 + x1) r_112_17 (n_112_17 _) lf_5 ⟨by omega, by omega⟩ (by omega) (by omega) rfl (by omega) ?_
      have t5 := e_6 (j := x1) lf_5 (by omega) (by omega)
      rw [show 5 + 26 + 1 * x1 = 31 + x1 by omega] at t5
      refine i_getI (a := 31 + x1) r_112_18 (n_112_18 _) rfl (by decide) t5 (fun q6 => ?_)
      refine i_if (t := 35) r_112_21 (n_112_21 _) rfl (T_ne q6 ⟨by omega, by omega⟩) (fun c7 => ?_) (fun c7 => ?_)
      · replace h := h.1 c7
        exact i_return r_112_35 (n_112_35 _) rfl h
      · replace h := h.2 c7
        exact i_throw r_112_24 (n_112_24 _) rfl (by decide) h
theorem K_RL_checkTable {S : Option (Nat × (Nat → Int32))} {s : zSt} {x1 : Int}  (h1 : rng x1) : wp S 112 0 [(0, rf 2), (1, iv x1)] [] s (fun o t => ((0 ≤ x1 ∧ x1 < 3 ∧ zI s (31 + x1) 0 ≠ 0) ∧ o = rU ∧ s = t) ∨ ((¬ (0 ≤ x1 ∧ x1 < 3 ∧ zI s (31 + x1) 0 ≠ 0)) ∧ o = rT 2 ∧ (zbump s) = t)) := by
  refine wp_W fun hW => ?_
  refine v_RL_checkTable_0  ?_
  repeat' (first | assumption | (intro _) | (exact .inl ⟨by omega, rfl, rfl⟩) | (exact .inr ⟨by omega, rfl, rfl⟩) | (refine ⟨?_, ?_⟩) | omega)
theorem r_118_0 : xfetch 118 0 = some (.aload_n 0, 1) := by decide +kernel
theorem n_118_0 : ∀ l, xpr 118 0 l = l := xpr_no (by decide +kernel)
theorem r_118_1 : xfetch 118 1 = some (.iload_n 1, 1) := by decide +kernel
theorem n_118_1 : ∀ l, xpr 118 1 l = l := xpr_no (by decide +kernel)
theorem r_118_2 : xfetch 118 2 = some (.invokevirtual 284, 3) := by decide +kernel
theorem n_118_2 : ∀ l, xpr 118 2 l = l := xpr_no (by decide +kernel)
theorem r_118_5 : xfetch 118 5 = some (.iload_n 2, 1) := by decide +kernel
theorem n_118_5 : ∀ l, xpr 118 5 l = l := xpr_no (by decide +kernel)
theorem r_118_6 : xfetch 118 6 = some (.ifCond .lt 19, 3) := by decide +kernel
theorem n_118_6 : ∀ l, xpr 118 6 l = l := xpr_no (by decide +kernel)
theorem r_118_9 : xfetch 118 9 = some (.iload_n 2, 1) := by decide +kernel
theorem n_118_9 : ∀ l, xpr 118 9 l = l := xpr_no (by decide +kernel)
theorem r_118_10 : xfetch 118 10 = some (.aload_n 0, 1) := by decide +kernel
theorem n_118_10 : ∀ l, xpr 118 10 l = l := xpr_no (by decide +kernel)
theorem r_118_11 : xfetch 118 11 = some (.getfield 10, 3) := by decide +kernel
theorem n_118_11 : ∀ l, xpr 118 11 l = l := xpr_no (by decide +kernel)
theorem r_118_14 : xfetch 118 14 = some (.getfield 256, 3) := by decide +kernel
theorem n_118_14 : ∀ l, xpr 118 14 l = l := xpr_no (by decide +kernel)
theorem r_118_17 : xfetch 118 17 = some (.iload_n 1, 1) := by decide +kernel
theorem n_118_17 : ∀ l, xpr 118 17 l = l := xpr_no (by decide +kernel)
theorem r_118_18 : xfetch 118 18 = some (.aaload, 1) := by decide +kernel
theorem n_118_18 : ∀ l, xpr 118 18 l = l := xpr_no (by decide +kernel)
theorem r_118_19 : xfetch 118 19 = some (.getfield 269, 3) := by decide +kernel
theorem n_118_19 : ∀ l, xpr 118 19 l = l := xpr_no (by decide +kernel)
theorem r_118_22 : xfetch 118 22 = some (.if_icmp .lt 14, 3) := by decide +kernel
theorem n_118_22 : ∀ l, xpr 118 22 l = l := xpr_no (by decide +kernel)
theorem r_118_25 : xfetch 118 25 = some (.new 157, 3) := by decide +kernel
theorem n_118_25 : ∀ l, xpr 118 25 l = l := xpr_no (by decide +kernel)
theorem r_118_36 : xfetch 118 36 = some (.return_, 1) := by decide +kernel
theorem n_118_36 : ∀ l, xpr 118 36 l = l := xpr_no (by decide +kernel)
theorem v_RL_checkRow_0 {S : Option (Nat × (Nat → Int32))} {s : zSt} {Q : Option Value ⊕ Nat → zSt → Prop} {x1 : Int} {x2 : Int} 
    (h : rng x1 ∧ ((0 ≤ x1 ∧ x1 < 3 ∧ zI s (31 + x1) 0 ≠ 0 → rng x2 ∧ ((x2 < 0 → Q (rT 2) (zbump s)) ∧ (0 ≤ x2 → (0 ≤ x1 ∧ x1 < 3) ∧ ((x2 < (zI s (31 + x1) 2) → Q rU s) ∧ ((zI s (31 + x1) 2) ≤ x2 → Q (rT 2) (zbump s)))))) ∧ ((¬ (0 ≤ x1 ∧ x1 < 3 ∧ zI s (31 + x1) 0 ≠ 0) → Q (rT 2) (zbump s))))) :
    wp S 118 0 [(0, rf 2), (1, iv x1), (2, iv x2)] [] s Q := by
  refine i_aload_n (a := 2) r_118_0 (n_118_0 _) rfl ?_
  refine i_iload_n (x := x1) r_118_1 (n_118_1 _) rfl ?_
  obtain ⟨g1, h⟩ := h
  refine wp_virt (b := 2) (rest := []) (Ls := [(0, rf 2), (1, iv x1)]) r_118_2 (n_118_2 _) rfl ⟨rfl, rfl, by decide, by decide⟩ rfl rfl lf_2 ⟨rfl, Nat.le_of_ble_eq_true rfl, Nat.le_of_ble_eq_true rfl⟩ rfl (K_RL_checkTable g1) ?_
  rintro _ _ (⟨c2, rfl, rfl⟩ | ⟨c2, rfl, rfl⟩)
  · replace h := h.1 c2
    refine .inl ⟨none, rfl, ?_⟩
    show wp S 118 5 [(0, rf 2), (1, iv x1), (2, iv x2)] [] s Q
    refine i_iload_n (x := x2) r_118_5 (n_118_5 _) rfl ?_
    obtain ⟨g3, h⟩ := h
    refine i_if (t := 25) r_118_6 (n_118_6 _) rfl (T_lt g3 ⟨by omega, by omega⟩) (fun c4 => ?_) (fun c4 => ?_)
    · replace h := h.1 c4
      exact i_throw r_118_25 (n_118_25 _) rfl (by decide) h
    · replace h := h.2 c4
      refine i_iload_n (x := x2) r_118_9 (n_118_9 _) rfl ?_
      refine i_aload_n (a := 2) r_118_10 (n_118_10 _) rfl ?_
      refine i_getR (a := 2) (b := 3) r_118_11 (n_118_11 _) rfl rfl rfl (by omega) lf_2 (by omega) ?_
      refine i_getR (a := 3) (b := 5) r_118_14 (n_118_14 _) rfl rfl rfl (by omega) lf_3 (by omega) ?_
      refine i_iload_n (x := x1) r_118_17 (n_118_17 _) rfl ?_
      obtain ⟨g5, h⟩ := h
      refine i_aaload (c := 6) (a := 5) (j := x1) (b := 31 + x1) r_118_18 (n_118_18 _) lf_5 ⟨by omega, by omega⟩ (by omega) (by omega) rfl (by omega) ?_
      have t6 := e_6 (j := x1) lf_5 (by omega) (by omega)
      rw [show 5 + 26 + 1 * x1 = 31 + x1 by omega] at t6
      refine i_getI (a := 31 + x1) r_118_19 (n_118_19 _) rfl (by decide) t6 (fun q7 => ?_)
      refine i_icmp (t := 36) r_118_22 (n_118_22 _) rfl (T_lt g3 q7) (fun c8 => ?_) (fun c8 => ?_)
      · replace h := h.1 c8
        exact i_return r_118_36 (n_118_36 _) rfl h
      · replace h := h.2 c8
        exact i_throw r_118_25 (n_118_25 _) rfl (by decide) h
  · replace h := h.2 c2
    exact .inr ⟨_, rfl, .inl ⟨rfl, h⟩⟩
theorem K_RL_checkRow {S : Option (Nat × (Nat → Int32))} {s : zSt} {x1 : Int} {x2 : Int}  (h1 : rng x1) (h2 : rng x2) : wp S 118 0 [(0, rf 2), (1, iv x1), (2, iv x2)] [] s (fun o t => (((0 ≤ x1 ∧ x1 < 3 ∧ zI s (31 + x1) 0 ≠ 0) ∧ 0 ≤ x2 ∧ x2 < zI s (31 + x1) 2) ∧ o = rU ∧ s = t) ∨ ((¬ ((0 ≤ x1 ∧ x1 < 3 ∧ zI s (31 + x1) 0 ≠ 0) ∧ 0 ≤ x2 ∧ x2 < zI s (31 + x1) 2)) ∧ o = rT 2 ∧ (zbump s) = t)) := by
  refine wp_W fun hW => ?_
  refine v_RL_checkRow_0  ?_
  repeat' (first | assumption | (intro _) | (exact .inl ⟨by omega, rfl, rfl⟩) | (exact .inr ⟨by omega, rfl, rfl⟩) | (refine ⟨?_, ?_⟩) | omega)
theorem r_119_0 : xfetch 119 0 = some (.aload_n 0, 1) := by decide +kernel
theorem n_119_0 : ∀ l, xpr 119 0 l = l := xpr_no (by decide +kernel)
theorem r_119_1 : xfetch 119 1 = some (.iload_n 1, 1) := by decide +kernel
theorem n_119_1 : ∀ l, xpr 119 1 l = l := xpr_no (by decide +kernel)
theorem r_119_2 : xfetch 119 2 = some (.invokevirtual 284, 3) := by decide +kernel
theorem n_119_2 : ∀ l, xpr 119 2 l = l := xpr_no (by decide +kernel)
theorem r_119_5 : xfetch 119 5 = some (.aload_n 0, 1) := by decide +kernel
theorem n_119_5 : ∀ l, xpr 119 5 l = l := xpr_no (by decide +kernel)
theorem r_119_6 : xfetch 119 6 = some (.aload_n 0, 1) := by decide +kernel
theorem n_119_6 : ∀ l, xpr 119 6 l = l := xpr_no (by decide +kernel)
theorem r_119_7 : xfetch 119 7 = some (.getfield 10, 3) := by decide +kernel
theorem n_119_7 : ∀ l, xpr 119 7 l = l := xpr_no (by decide +kernel)
theorem r_119_10 : xfetch 119 10 = some (.getfield 256, 3) := by decide +kernel
theorem n_119_10 : ∀ l, xpr 119 10 l = l := xpr_no (by decide +kernel)
theorem r_119_13 : xfetch 119 13 = some (.iload_n 1, 1) := by decide +kernel
theorem n_119_13 : ∀ l, xpr 119 13 l = l := xpr_no (by decide +kernel)
theorem r_119_14 : xfetch 119 14 = some (.aaload, 1) := by decide +kernel
theorem n_119_14 : ∀ l, xpr 119 14 l = l := xpr_no (by decide +kernel)
theorem r_119_15 : xfetch 119 15 = some (.getfield 266, 3) := by decide +kernel
theorem n_119_15 : ∀ l, xpr 119 15 l = l := xpr_no (by decide +kernel)
theorem r_119_18 : xfetch 119 18 = some (.iload_n 2, 1) := by decide +kernel
theorem n_119_18 : ∀ l, xpr 119 18 l = l := xpr_no (by decide +kernel)
theorem r_119_19 : xfetch 119 19 = some (.invokevirtual 166, 3) := by decide +kernel
theorem n_119_19 : ∀ l, xpr 119 19 l = l := xpr_no (by decide +kernel)
theorem r_119_22 : xfetch 119 22 = some (.return_, 1) := by decide +kernel
theorem n_119_22 : ∀ l, xpr 119 22 l = l := xpr_no (by decide +kernel)
theorem v_RL_checkLeafOfTable_0 {S : Option (Nat × (Nat → Int32))} {s : zSt} {Q : Option Value ⊕ Nat → zSt → Prop} {x1 : Int} {x2 : Int} 
    (h : rng x1 ∧ ((0 ≤ x1 ∧ x1 < 3 ∧ zI s (31 + x1) 0 ≠ 0 → (0 ≤ x1 ∧ x1 < 3) ∧ (rng x2 ∧ ((0 ≤ (zI s (31 + x1) 1) → (zI s (31 + x1) 1) < zI s 3 0 → (zI s (31 + x1) 1) < 6) ∧ (((0 ≤ (zI s (31 + x1) 1) ∧ (zI s (31 + x1) 1) < zI s 3 0) ∧ 0 ≤ x2 ∧ x2 < zI s (67 + 11 * (zI s (31 + x1) 1)) 0 → Q rU s) ∧ ((¬ ((0 ≤ (zI s (31 + x1) 1) ∧ (zI s (31 + x1) 1) < zI s 3 0) ∧ 0 ≤ x2 ∧ x2 < zI s (67 + 11 * (zI s (31 + x1) 1)) 0) → Q (rT 2) (zbump s))))))) ∧ ((¬ (0 ≤ x1 ∧ x1 < 3 ∧ zI s (31 + x1) 0 ≠ 0) → Q (rT 2) (zbump s))))) :
    wp S 119 0 [(0, rf 2), (1, iv x1), (2, iv x2)] [] s Q := by
  refine i_aload_n (a := 2) r_119_0 (n_119_0 _) rfl ?_
  refine i_iload_n (x := x1) r_119_1 (n_119_1 _) rfl ?_
  obtain ⟨g1, h⟩ := h
  refine wp_virt (b := 2) (rest := []) (Ls := [(0, rf 2), (1, iv x1)]) r_119_2 (n_119_2 _) rfl ⟨rfl, rfl, by decide, by decide⟩ rfl rfl lf_2 ⟨rfl, Nat.le_of_ble_eq_true rfl, Nat.le_of_ble_eq_true rfl⟩ rfl (K_RL_checkTable g1) ?_
  rintro _ _ (⟨c2, rfl, rfl⟩ | ⟨c2, rfl, rfl⟩)
  · replace h := h.1 c2
    refine .inl ⟨none, rfl, ?_⟩
    show wp S 119 5 [(0, rf 2), (1, iv x1), (2, iv x2)] [] s Q
    refine i_aload_n (a := 2) r_119_5 (n_119_5 _) rfl ?_
    refine i_aload_n (a := 2) r_119_6 (n_119_6 _) rfl ?_
    refine i_getR (a := 2) (b := 3) r_119_7 (n_119_7 _) rfl rfl rfl (by omega) lf_2 (by omega) ?_
    refine i_getR (a := 3) (b := 5) r_119_10 (n_119_10 _) rfl rfl rfl (by omega) lf_3 (by omega) ?_
    refine i_iload_n (x := x1) r_119_13 (n_119_13 _) rfl ?_
    obtain ⟨g3, h⟩ := h
    refine i_aaload (c := 6) (a := 5) (j := x1) (b := 31 + x1) r_119_14 (n_119_14 _) lf_5 ⟨by omega, by omega⟩ (by omega) (by omega) rfl (by omega) ?_
    have t4 := e_6 (j := x1) lf_5 (by omega) (by omega)
    rw [show 5 + 26 + 1 * x1 = 31 + x1 by omega] at t4
    refine i_getI (a := 31 + x1) r_119_15 (n_119_15 _) rfl (by decide) t4 (fun q5 => ?_)
    refine i_iload_n (x := x2) r_119_18 (n_119_18 _) rfl ?_
    obtain ⟨g6, h⟩ := h
    obtain ⟨g7, h⟩ := h
    refine wp_virt (b := 2) (rest := []) (Ls := [(0, rf 2), (1, iv (zI s (31 + x1) 1)), (2, iv x2)]) r_119_19 (n_119_19 _) rfl ⟨rfl, rfl, by decide, by decide⟩ rfl rfl lf_2 ⟨rfl, Nat.le_of_ble_eq_true rfl, Nat.le_of_ble_eq_true rfl⟩ rfl (K_RL_checkLeafOfRecord q5 g6 g7) ?_
    rintro _ _ (⟨c8, rfl, rfl⟩ | ⟨c8, rfl, rfl⟩)
    · replace h := h.1 c8
      refine .inl ⟨none, rfl, ?_⟩
      show wp S 119 22 [(0, rf 2), (1, iv x1), (2, iv x2)] [] s Q
      exact i_return r_119_22 (n_119_22 _) rfl h
    · replace h := h.2 c8
      exact .inr ⟨_, rfl, .inl ⟨rfl, h⟩⟩
  · replace h := h.2 c2
    exact .inr ⟨_, rfl, .inl ⟨rfl, h⟩⟩
theorem K_RL_checkLeafOfTable {S : Option (Nat × (Nat → Int32))} {s : zSt} {x1 : Int} {x2 : Int}  (h1 : rng x1) (h2 : rng x2) (h3 : (0 ≤ x1 → x1 < 3 → zI s (31 + x1) 0 ≠ 0 → 0 ≤ zI s (31 + x1) 1 ∧ zI s (31 + x1) 1 < zI s 3 0 ∧ zI s (31 + x1) 1 < 6)) : wp S 119 0 [(0, rf 2), (1, iv x1), (2, iv x2)] [] s (fun o t => (((0 ≤ x1 ∧ x1 < 3 ∧ zI s (31 + x1) 0 ≠ 0) ∧ 0 ≤ x2 ∧ x2 < zI s (67 + 11 * zI s (31 + x1) 1) 0) ∧ o = rU ∧ s = t) ∨ ((¬ ((0 ≤ x1 ∧ x1 < 3 ∧ zI s (31 + x1) 0 ≠ 0) ∧ 0 ≤ x2 ∧ x2 < zI s (67 + 11 * zI s (31 + x1) 1) 0)) ∧ o = rT 2 ∧ (zbump s) = t)) := by
  refine wp_W fun hW => ?_
  refine v_RL_checkLeafOfTable_0  ?_
  repeat' (first | assumption | (intro _) | (exact .inl ⟨by omega, rfl, rfl⟩) | (exact .inr ⟨by omega, rfl, rfl⟩) | (refine ⟨?_, ?_⟩) | omega)
theorem r_117_0 : xfetch 117 0 = some (.aload_n 0, 1) := by decide +kernel
theorem n_117_0 : ∀ l, xpr 117 0 l = l := xpr_no (by decide +kernel)
theorem r_117_1 : xfetch 117 1 = some (.iload_n 1, 1) := by decide +kernel
theorem n_117_1 : ∀ l, xpr 117 1 l = l := xpr_no (by decide +kernel)
theorem r_117_2 : xfetch 117 2 = some (.iload_n 2, 1) := by decide +kernel
theorem n_117_2 : ∀ l, xpr 117 2 l = l := xpr_no (by decide +kernel)
theorem r_117_3 : xfetch 117 3 = some (.invokevirtual 351, 3) := by decide +kernel
theorem n_117_3 : ∀ l, xpr 117 3 l = l := xpr_no (by decide +kernel)
theorem r_117_6 : xfetch 117 6 = some (.aload_n 0, 1) := by decide +kernel
theorem n_117_6 : ∀ l, xpr 117 6 l = l := xpr_no (by decide +kernel)
theorem r_117_7 : xfetch 117 7 = some (.iload_n 1, 1) := by decide +kernel
theorem n_117_7 : ∀ l, xpr 117 7 l = l := xpr_no (by decide +kernel)
theorem r_117_8 : xfetch 117 8 = some (.iload_n 3, 1) := by decide +kernel
theorem n_117_8 : ∀ l, xpr 117 8 l = l := xpr_no (by decide +kernel)
theorem r_117_9 : xfetch 117 9 = some (.invokevirtual 338, 3) := by decide +kernel
theorem n_117_9 : ∀ l, xpr 117 9 l = l := xpr_no (by decide +kernel)
theorem r_117_12 : xfetch 117 12 = some (.return_, 1) := by decide +kernel
theorem n_117_12 : ∀ l, xpr 117 12 l = l := xpr_no (by decide +kernel)
theorem v_RL_checkPlace_0 {S : Option (Nat × (Nat → Int32))} {s : zSt} {Q : Option Value ⊕ Nat → zSt → Prop} {x1 : Int} {x2 : Int} {x3 : Int} 
    (h : rng x1 ∧ (rng x2 ∧ (((0 ≤ x1 ∧ x1 < 3 ∧ zI s (31 + x1) 0 ≠ 0) ∧ 0 ≤ x2 ∧ x2 < zI s (31 + x1) 2 → rng x3 ∧ ((0 ≤ x1 → x1 < 3 → zI s (31 + x1) 0 ≠ 0 → 0 ≤ zI s (31 + x1) 1 ∧ zI s (31 + x1) 1 < zI s 3 0 ∧ zI s (31 + x1) 1 < 6) ∧ (((0 ≤ x1 ∧ x1 < 3 ∧ zI s (31 + x1) 0 ≠ 0) ∧ 0 ≤ x3 ∧ x3 < zI s (67 + 11 * zI s (31 + x1) 1) 0 → Q rU s) ∧ ((¬ ((0 ≤ x1 ∧ x1 < 3 ∧ zI s (31 + x1) 0 ≠ 0) ∧ 0 ≤ x3 ∧ x3 < zI s (67 + 11 * zI s (31 + x1) 1) 0) → Q (rT 2) (zbump s)))))) ∧ ((¬ ((0 ≤ x1 ∧ x1 < 3 ∧ zI s (31 + x1) 0 ≠ 0) ∧ 0 ≤ x2 ∧ x2 < zI s (31 + x1) 2) → Q (rT 2) (zbump s)))))) :
    wp S 117 0 [(0, rf 2), (1, iv x1), (2, iv x2), (3, iv x3)] [] s Q := by
  refine i_aload_n (a := 2) r_117_0 (n_117_0 _) rfl ?_
  refine i_iload_n (x := x1) r_117_1 (n_117_1 _) rfl ?_
  refine i_iload_n (x := x2) r_117_2 (n_117_2 _) rfl ?_
  obtain ⟨g1, h⟩ := h
  obtain ⟨g2, h⟩ := h
  refine wp_virt (b := 2) (rest := []) (Ls := [(0, rf 2), (1, iv x1), (2, iv x2)]) r_117_3 (n_117_3 _) rfl ⟨rfl, rfl, by decide, by decide⟩ rfl rfl lf_2 ⟨rfl, Nat.le_of_ble_eq_true rfl, Nat.le_of_ble_eq_true rfl⟩ rfl (K_RL_checkRow g1 g2) ?_
  rintro _ _ (⟨c3, rfl, rfl⟩ | ⟨c3, rfl, rfl⟩)
  · replace h := h.1 c3
    refine .inl ⟨none, rfl, ?_⟩
    show wp S 117 6 [(0, rf 2), (1, iv x1), (2, iv x2), (3, iv x3)] [] s Q
    refine i_aload_n (a := 2) r_117_6 (n_117_6 _) rfl ?_
    refine i_iload_n (x := x1) r_117_7 (n_117_7 _) rfl ?_
    refine i_iload_n (x := x3) r_117_8 (n_117_8 _) rfl ?_
    obtain ⟨g4, h⟩ := h
    obtain ⟨g5, h⟩ := h
    refine wp_virt (b := 2) (rest := []) (Ls := [(0, rf 2), (1, iv x1), (2, iv x3)]) r_117_9 (n_117_9 _) rfl ⟨rfl, rfl, by decide, by decide⟩ rfl rfl lf_2 ⟨rfl, Nat.le_of_ble_eq_true rfl, Nat.le_of_ble_eq_true rfl⟩ rfl (K_RL_checkLeafOfTable g1 g4 g5) ?_
    rintro _ _ (⟨c6, rfl, rfl⟩ | ⟨c6, rfl, rfl⟩)
    · replace h := h.1 c6
      refine .inl ⟨none, rfl, ?_⟩
      show wp S 117 12 [(0, rf 2), (1, iv x1), (2, iv x2), (3, iv x3)] [] s Q
      exact i_return r_117_12 (n_117_12 _) rfl h
    · replace h := h.2 c6
      exact .inr ⟨_, rfl, .inl ⟨rfl, h⟩⟩
  · replace h := h.2 c3
    exact .inr ⟨_, rfl, .inl ⟨rfl, h⟩⟩
theorem K_RL_checkPlace {S : Option (Nat × (Nat → Int32))} {s : zSt} {x1 : Int} {x2 : Int} {x3 : Int}  (h1 : rng x1) (h2 : rng x2) (h3 : rng x3) (h4 : (0 ≤ x1 → x1 < 3 → zI s (31 + x1) 0 ≠ 0 → 0 ≤ zI s (31 + x1) 1 ∧ zI s (31 + x1) 1 < zI s 3 0 ∧ zI s (31 + x1) 1 < 6)) : wp S 117 0 [(0, rf 2), (1, iv x1), (2, iv x2), (3, iv x3)] [] s (fun o t => ((((0 ≤ x1 ∧ x1 < 3 ∧ zI s (31 + x1) 0 ≠ 0) ∧ 0 ≤ x2 ∧ x2 < zI s (31 + x1) 2) ∧ 0 ≤ x3 ∧ x3 < zI s (67 + 11 * zI s (31 + x1) 1) 0) ∧ o = rU ∧ s = t) ∨ ((¬ (((0 ≤ x1 ∧ x1 < 3 ∧ zI s (31 + x1) 0 ≠ 0) ∧ 0 ≤ x2 ∧ x2 < zI s (31 + x1) 2) ∧ 0 ≤ x3 ∧ x3 < zI s (67 + 11 * zI s (31 + x1) 1) 0)) ∧ o = rT 2 ∧ (zbump s) = t)) := by
  refine wp_W fun hW => ?_
  refine v_RL_checkPlace_0  ?_
  repeat' (first | assumption | (intro _) | (exact .inl ⟨by omega, rfl, rfl⟩) | (exact .inr ⟨by omega, rfl, rfl⟩) | (refine ⟨?_, ?_⟩) | omega)
theorem r_162_0 : xfetch 162 0 = some (.iload_n 0, 1) := by decide +kernel
theorem n_162_0 : ∀ l, xpr 162 0 l = l := xpr_no (by decide +kernel)
theorem r_162_1 : xfetch 162 1 = some (.bipush 16, 2) := by decide +kernel
theorem n_162_1 : ∀ l, xpr 162 1 l = l := xpr_no (by decide +kernel)
theorem r_162_3 : xfetch 162 3 = some (.if_icmp .eq 26, 3) := by decide +kernel
theorem n_162_3 : ∀ l, xpr 162 3 l = l := xpr_no (by decide +kernel)
theorem r_162_6 : xfetch 162 6 = some (.iload_n 0, 1) := by decide +kernel
theorem n_162_6 : ∀ l, xpr 162 6 l = l := xpr_no (by decide +kernel)
theorem r_162_7 : xfetch 162 7 = some (.bipush 32, 2) := by decide +kernel
theorem n_162_7 : ∀ l, xpr 162 7 l = l := xpr_no (by decide +kernel)
theorem r_162_9 : xfetch 162 9 = some (.if_icmp .eq 20, 3) := by decide +kernel
theorem n_162_9 : ∀ l, xpr 162 9 l = l := xpr_no (by decide +kernel)
theorem r_162_12 : xfetch 162 12 = some (.iload_n 0, 1) := by decide +kernel
theorem n_162_12 : ∀ l, xpr 162 12 l = l := xpr_no (by decide +kernel)
theorem r_162_13 : xfetch 162 13 = some (.bipush 64, 2) := by decide +kernel
theorem n_162_13 : ∀ l, xpr 162 13 l = l := xpr_no (by decide +kernel)
theorem r_162_15 : xfetch 162 15 = some (.if_icmp .eq 14, 3) := by decide +kernel
theorem n_162_15 : ∀ l, xpr 162 15 l = l := xpr_no (by decide +kernel)
theorem r_162_18 : xfetch 162 18 = some (.new 102, 3) := by decide +kernel
theorem n_162_18 : ∀ l, xpr 162 18 l = l := xpr_no (by decide +kernel)
theorem r_162_29 : xfetch 162 29 = some (.return_, 1) := by decide +kernel
theorem n_162_29 : ∀ l, xpr 162 29 l = l := xpr_no (by decide +kernel)
theorem v_RL_checkLine_0 {S : Option (Nat × (Nat → Int32))} {s : zSt} {Q : Option Value ⊕ Nat → zSt → Prop} {x0 : Int} 
    (h : rng x0 ∧ ((x0 = 16 → Q rU s) ∧ (x0 ≠ 16 → (x0 = 32 → Q rU s) ∧ (x0 ≠ 32 → (x0 = 64 → Q rU s) ∧ (x0 ≠ 64 → Q (rT 0) (zbump s)))))) :
    wp S 162 0 [(0, iv x0)] [] s Q := by
  refine i_iload_n (x := x0) r_162_0 (n_162_0 _) rfl ?_
  refine i_bipush r_162_1 (n_162_1 _) rfl ?_
  obtain ⟨g1, h⟩ := h
  refine i_icmp (t := 29) r_162_3 (n_162_3 _) rfl (T_eq g1 ⟨by omega, by omega⟩) (fun c2 => ?_) (fun c2 => ?_)
  · replace h := h.1 c2
    exact i_return r_162_29 (n_162_29 _) rfl h
  · replace h := h.2 c2
    refine i_iload_n (x := x0) r_162_6 (n_162_6 _) rfl ?_
    refine i_bipush r_162_7 (n_162_7 _) rfl ?_
    refine i_icmp (t := 29) r_162_9 (n_162_9 _) rfl (T_eq g1 ⟨by omega, by omega⟩) (fun c3 => ?_) (fun c3 => ?_)
    · replace h := h.1 c3
      exact i_return r_162_29 (n_162_29 _) rfl h
    · replace h := h.2 c3
      refine i_iload_n (x := x0) r_162_12 (n_162_12 _) rfl ?_
      refine i_bipush r_162_13 (n_162_13 _) rfl ?_
      refine i_icmp (t := 29) r_162_15 (n_162_15 _) rfl (T_eq g1 ⟨by omega, by omega⟩) (fun c4 => ?_) (fun c4 => ?_)
      · replace h := h.1 c4
        exact i_return r_162_29 (n_162_29 _) rfl h
      · replace h := h.2 c4
        exact i_throw r_162_18 (n_162_18 _) rfl (by decide) h
theorem K_RL_checkLine {S : Option (Nat × (Nat → Int32))} {s : zSt} {x0 : Int}  (h1 : rng x0) : wp S 162 0 [(0, iv x0)] [] s (fun o t => ((x0 = 16 ∨ x0 = 32 ∨ x0 = 64) ∧ o = rU ∧ s = t) ∨ ((¬ (x0 = 16 ∨ x0 = 32 ∨ x0 = 64)) ∧ o = rT 0 ∧ (zbump s) = t)) := by
  refine wp_W fun hW => ?_
  refine v_RL_checkLine_0  ?_
  repeat' (first | assumption | (intro _) | (exact .inl ⟨by omega, rfl, rfl⟩) | (exact .inr ⟨by omega, rfl, rfl⟩) | (refine ⟨?_, ?_⟩) | omega)
theorem r_135_0 : xfetch 135 0 = some (.iload_n 0, 1) := by decide +kernel
theorem n_135_0 : ∀ l, xpr 135 0 l = l := xpr_no (by decide +kernel)
theorem r_135_1 : xfetch 135 1 = some (.ifCond .lt 10, 3) := by decide +kernel
theorem n_135_1 : ∀ l, xpr 135 1 l = l := xpr_no (by decide +kernel)
theorem r_135_4 : xfetch 135 4 = some (.iload_n 0, 1) := by decide +kernel
theorem n_135_4 : ∀ l, xpr 135 4 l = l := xpr_no (by decide +kernel)
theorem r_135_5 : xfetch 135 5 = some (.sipush 1024, 3) := by decide +kernel
theorem n_135_5 : ∀ l, xpr 135 5 l = l := xpr_no (by decide +kernel)
theorem r_135_8 : xfetch 135 8 = some (.if_icmp .lt 14, 3) := by decide +kernel
theorem n_135_8 : ∀ l, xpr 135 8 l = l := xpr_no (by decide +kernel)
theorem r_135_11 : xfetch 135 11 = some (.new 157, 3) := by decide +kernel
theorem n_135_11 : ∀ l, xpr 135 11 l = l := xpr_no (by decide +kernel)
theorem r_135_22 : xfetch 135 22 = some (.return_, 1) := by decide +kernel
theorem n_135_22 : ∀ l, xpr 135 22 l = l := xpr_no (by decide +kernel)
theorem v_RL_checkAddress_0 {S : Option (Nat × (Nat → Int32))} {s : zSt} {Q : Option Value ⊕ Nat → zSt → Prop} {x0 : Int} 
    (h : rng x0 ∧ ((x0 < 0 → Q (rT 2) (zbump s)) ∧ (0 ≤ x0 → (x0 < 1024 → Q rU s) ∧ (1024 ≤ x0 → Q (rT 2) (zbump s))))) :
    wp S 135 0 [(0, iv x0)] [] s Q := by
  refine i_iload_n (x := x0) r_135_0 (n_135_0 _) rfl ?_
  obtain ⟨g1, h⟩ := h
  refine i_if (t := 11) r_135_1 (n_135_1 _) rfl (T_lt g1 ⟨by omega, by omega⟩) (fun c2 => ?_) (fun c2 => ?_)
  · replace h := h.1 c2
    exact i_throw r_135_11 (n_135_11 _) rfl (by decide) h
  · replace h := h.2 c2
    refine i_iload_n (x := x0) r_135_4 (n_135_4 _) rfl ?_
    refine i_sipush r_135_5 (n_135_5 _) rfl ?_
    refine i_icmp (t := 22) r_135_8 (n_135_8 _) rfl (T_lt g1 ⟨by omega, by omega⟩) (fun c3 => ?_) (fun c3 => ?_)
    · replace h := h.1 c3
      exact i_return r_135_22 (n_135_22 _) rfl h
    · replace h := h.2 c3
      exact i_throw r_135_11 (n_135_11 _) rfl (by decide) h
theorem K_RL_checkAddress {S : Option (Nat × (Nat → Int32))} {s : zSt} {x0 : Int}  (h1 : rng x0) : wp S 135 0 [(0, iv x0)] [] s (fun o t => ((0 ≤ x0 ∧ x0 < 1024) ∧ o = rU ∧ s = t) ∨ ((¬ (0 ≤ x0 ∧ x0 < 1024)) ∧ o = rT 2 ∧ (zbump s) = t)) := by
  refine wp_W fun hW => ?_
  refine v_RL_checkAddress_0  ?_
  repeat' (first | assumption | (intro _) | (exact .inl ⟨by omega, rfl, rfl⟩) | (exact .inr ⟨by omega, rfl, rfl⟩) | (refine ⟨?_, ?_⟩) | omega)
theorem r_184_0 : xfetch 184 0 = some (.iconst 1, 1) := by decide +kernel
theorem n_184_0 : ∀ l, xpr 184 0 l = l := xpr_no (by decide +kernel)
theorem r_184_1 : xfetch 184 1 = some (.bipush 26, 2) := by decide +kernel
theorem n_184_1 : ∀ l, xpr 184 1 l = l := xpr_no (by decide +kernel)
theorem r_184_3 : xfetch 184 3 = some (.iload_n 0, 1) := by decide +kernel
theorem n_184_3 : ∀ l, xpr 184 3 l = l := xpr_no (by decide +kernel)
theorem r_184_4 : xfetch 184 4 = some (.imul, 1) := by decide +kernel
theorem n_184_4 : ∀ l, xpr 184 4 l = l := xpr_no (by decide +kernel)
theorem r_184_5 : xfetch 184 5 = some (.iadd, 1) := by decide +kernel
theorem n_184_5 : ∀ l, xpr 184 5 l = l := xpr_no (by decide +kernel)
theorem r_184_6 : xfetch 184 6 = some (.ireturn, 1) := by decide +kernel
theorem n_184_6 : ∀ l, xpr 184 6 l = l := xpr_no (by decide +kernel)
theorem v_Model_record_0 {S : Option (Nat × (Nat → Int32))} {s : zSt} {Q : Option Value ⊕ Nat → zSt → Prop} {x0 : Int} 
    (h : Q (rI (1 + (26 * x0))) s) :
    wp S 184 0 [(0, iv x0)] [] s Q := by
  refine i_iconst r_184_0 (n_184_0 _) ?_
  refine i_bipush r_184_1 (n_184_1 _) rfl ?_
  refine i_iload_n (x := x0) r_184_3 (n_184_3 _) rfl ?_
  refine i_imul r_184_4 (n_184_4 _) ?_
  refine i_iadd r_184_5 (n_184_5 _) ?_
  exact i_ireturn r_184_6 (n_184_6 _) rfl h
theorem K_Model_record {S : Option (Nat × (Nat → Int32))} {s : zSt} {x0 : Int}   : wp S 184 0 [(0, iv x0)] [] s (fun o t => o = rI (1 + (26 * x0)) ∧ s = t) := by
  refine wp_W fun hW => ?_
  refine v_Model_record_0  ?_
  exact ⟨rfl, rfl⟩
theorem r_190_0 : xfetch 190 0 = some (.iconst 1, 1) := by decide +kernel
theorem n_190_0 : ∀ l, xpr 190 0 l = l := xpr_no (by decide +kernel)
theorem r_190_1 : xfetch 190 1 = some (.bipush 26, 2) := by decide +kernel
theorem n_190_1 : ∀ l, xpr 190 1 l = l := xpr_no (by decide +kernel)
theorem r_190_3 : xfetch 190 3 = some (.iload_n 0, 1) := by decide +kernel
theorem n_190_3 : ∀ l, xpr 190 3 l = l := xpr_no (by decide +kernel)
theorem r_190_4 : xfetch 190 4 = some (.imul, 1) := by decide +kernel
theorem n_190_4 : ∀ l, xpr 190 4 l = l := xpr_no (by decide +kernel)
theorem r_190_5 : xfetch 190 5 = some (.iadd, 1) := by decide +kernel
theorem n_190_5 : ∀ l, xpr 190 5 l = l := xpr_no (by decide +kernel)
theorem r_190_6 : xfetch 190 6 = some (.iconst 2, 1) := by decide +kernel
theorem n_190_6 : ∀ l, xpr 190 6 l = l := xpr_no (by decide +kernel)
theorem r_190_7 : xfetch 190 7 = some (.iadd, 1) := by decide +kernel
theorem n_190_7 : ∀ l, xpr 190 7 l = l := xpr_no (by decide +kernel)
theorem r_190_8 : xfetch 190 8 = some (.iconst 3, 1) := by decide +kernel
theorem n_190_8 : ∀ l, xpr 190 8 l = l := xpr_no (by decide +kernel)
theorem r_190_9 : xfetch 190 9 = some (.iload_n 1, 1) := by decide +kernel
theorem n_190_9 : ∀ l, xpr 190 9 l = l := xpr_no (by decide +kernel)
theorem r_190_10 : xfetch 190 10 = some (.imul, 1) := by decide +kernel
theorem n_190_10 : ∀ l, xpr 190 10 l = l := xpr_no (by decide +kernel)
theorem r_190_11 : xfetch 190 11 = some (.iadd, 1) := by decide +kernel
theorem n_190_11 : ∀ l, xpr 190 11 l = l := xpr_no (by decide +kernel)
theorem r_190_12 : xfetch 190 12 = some (.ireturn, 1) := by decide +kernel
theorem n_190_12 : ∀ l, xpr 190 12 l = l := xpr_no (by decide +kernel)
theorem v_Model_field_0 {S : Option (Nat × (Nat → Int32))} {s : zSt} {Q : Option Value ⊕ Nat → zSt → Prop} {x0 : Int} {x1 : Int} 
    (h : Q (rI (((1 + (26 * x0)) + 2) + (3 * x1))) s) :
    wp S 190 0 [(0, iv x0), (1, iv x1)] [] s Q := by
  refine i_iconst r_190_0 (n_190_0 _) ?_
  refine i_bipush r_190_1 (n_190_1 _) rfl ?_
  refine i_iload_n (x := x0) r_190_3 (n_190_3 _) rfl ?_
  refine i_imul r_190_4 (n_190_4 _) ?_
  refine i_iadd r_190_5 (n_190_5 _) ?_
  refine i_iconst r_190_6 (n_190_6 _) ?_
  refine i_iadd r_190_7 (n_190_7 _) ?_
  refine i_iconst r_190_8 (n_190_8 _) ?_
  refine i_iload_n (x := x1) r_190_9 (n_190_9 _) rfl ?_
  refine i_imul r_190_10 (n_190_10 _) ?_
  refine i_iadd r_190_11 (n_190_11 _) ?_
  exact i_ireturn r_190_12 (n_190_12 _) rfl h
theorem K_Model_field {S : Option (Nat × (Nat → Int32))} {s : zSt} {x0 : Int} {x1 : Int}   : wp S 190 0 [(0, iv x0), (1, iv x1)] [] s (fun o t => o = rI (((1 + (26 * x0)) + 2) + (3 * x1)) ∧ s = t) := by
  refine wp_W fun hW => ?_
  refine v_Model_field_0  ?_
  exact ⟨rfl, rfl⟩
theorem r_189_0 : xfetch 189 0 = some (.aload_n 0, 1) := by decide +kernel
theorem n_189_0 : ∀ l, xpr 189 0 l = l := xpr_no (by decide +kernel)
theorem r_189_1 : xfetch 189 1 = some (.getfield 7, 3) := by decide +kernel
theorem n_189_1 : ∀ l, xpr 189 1 l = l := xpr_no (by decide +kernel)
theorem r_189_4 : xfetch 189 4 = some (.iload_n 1, 1) := by decide +kernel
theorem n_189_4 : ∀ l, xpr 189 4 l = l := xpr_no (by decide +kernel)
theorem r_189_5 : xfetch 189 5 = some (.invokestatic 92, 3) := by decide +kernel
theorem n_189_5 : ∀ l, xpr 189 5 l = l := xpr_no (by decide +kernel)
theorem r_189_8 : xfetch 189 8 = some (.iconst 1, 1) := by decide +kernel
theorem n_189_8 : ∀ l, xpr 189 8 l = l := xpr_no (by decide +kernel)
theorem r_189_9 : xfetch 189 9 = some (.iadd, 1) := by decide +kernel
theorem n_189_9 : ∀ l, xpr 189 9 l = l := xpr_no (by decide +kernel)
theorem r_189_10 : xfetch 189 10 = some (.iaload, 1) := by decide +kernel
theorem n_189_10 : ∀ l, xpr 189 10 l = l := xpr_no (by decide +kernel)
theorem r_189_11 : xfetch 189 11 = some (.ireturn, 1) := by decide +kernel
theorem n_189_11 : ∀ l, xpr 189 11 l = l := xpr_no (by decide +kernel)
theorem v_Model_fieldsOf_0 {S : Option (Nat × (Nat → Int32))} {s : zSt} {Q : Option Value ⊕ Nat → zSt → Prop} {x1 : Int} 
    (h : (0 ≤ ((1 + (26 * x1)) + 1) ∧ ((1 + (26 * x1)) + 1) < 1199) ∧ (Q (rI (zI s 253 ((1 + (26 * x1)) + 1))) s)) :
    wp S 189 0 [(0, rf 252), (1, iv x1)] [] s Q := by
  refine i_aload_n (a := 252) r_189_0 (n_189_0 _) rfl ?_
  refine i_getR (a := 252) (b := 253) r_189_1 (n_189_1 _) rfl rfl rfl (by omega) lf_252 (by omega) ?_
  refine i_iload_n (x := x1) r_189_4 (n_189_4 _) rfl ?_
  refine wp_stat (rest := [rf 253]) (Ls := [(0, iv x1)]) r_189_5 (n_189_5 _) rfl ⟨rfl, by decide, by decide, by decide⟩ rfl rfl ⟨rfl, Nat.le_of_ble_eq_true rfl, Nat.le_of_ble_eq_true rfl⟩ rfl K_Model_record ?_
  rintro _ _ ⟨rfl, rfl⟩
  refine .inl ⟨some (iv (1 + (26 * x1))), rfl, ?_⟩
  show wp S 189 8 [(0, rf 252), (1, iv x1)] [iv (1 + (26 * x1)), rf 253] s Q
  refine i_iconst r_189_8 (n_189_8 _) ?_
  refine i_iadd r_189_9 (n_189_9 _) ?_
  obtain ⟨g2, h⟩ := h
  refine i_iaload (a := 253) (j := (1 + (26 * x1)) + 1) r_189_10 (n_189_10 _) lf_253 ⟨by omega, by omega⟩ (by omega) (by omega) (fun q3 => ?_)
  exact i_ireturn r_189_11 (n_189_11 _) rfl h
theorem K_Model_fieldsOf {S : Option (Nat × (Nat → Int32))} {s : zSt} {x1 : Int}  (h1 : (0 ≤ ((1 + (26 * x1)) + 1) ∧ ((1 + (26 * x1)) + 1) < 1199)) : wp S 189 0 [(0, rf 252), (1, iv x1)] [] s (fun o t => o = rI (zI s 253 ((1 + (26 * x1)) + 1)) ∧ s = t) := by
  refine wp_W fun hW => ?_
  refine v_Model_fieldsOf_0  ?_
  exact ⟨h1, rfl, rfl⟩
theorem r_187_0 : xfetch 187 0 = some (.iload_n 0, 1) := by decide +kernel
theorem n_187_0 : ∀ l, xpr 187 0 l = l := xpr_no (by decide +kernel)
theorem r_187_1 : xfetch 187 1 = some (.iload_n 1, 1) := by decide +kernel
theorem n_187_1 : ∀ l, xpr 187 1 l = l := xpr_no (by decide +kernel)
theorem r_187_2 : xfetch 187 2 = some (.if_icmp .lt 12, 3) := by decide +kernel
theorem n_187_2 : ∀ l, xpr 187 2 l = l := xpr_no (by decide +kernel)
theorem r_187_5 : xfetch 187 5 = some (.iload_n 0, 1) := by decide +kernel
theorem n_187_5 : ∀ l, xpr 187 5 l = l := xpr_no (by decide +kernel)
theorem r_187_6 : xfetch 187 6 = some (.iload_n 2, 1) := by decide +kernel
theorem n_187_6 : ∀ l, xpr 187 6 l = l := xpr_no (by decide +kernel)
theorem r_187_7 : xfetch 187 7 = some (.if_icmp .gt 7, 3) := by decide +kernel
theorem n_187_7 : ∀ l, xpr 187 7 l = l := xpr_no (by decide +kernel)
theorem r_187_10 : xfetch 187 10 = some (.iconst 1, 1) := by decide +kernel
theorem n_187_10 : ∀ l, xpr 187 10 l = l := xpr_no (by decide +kernel)
theorem r_187_11 : xfetch 187 11 = some (.goto 4, 3) := by decide +kernel
theorem n_187_11 : ∀ l, xpr 187 11 l = l := xpr_no (by decide +kernel)
theorem r_187_14 : xfetch 187 14 = some (.iconst 0, 1) := by decide +kernel
theorem n_187_14 : ∀ l, xpr 187 14 l = l := xpr_no (by decide +kernel)
theorem r_187_15 : xfetch 187 15 = some (.ireturn, 1) := by decide +kernel
theorem n_187_15 : ∀ l, xpr 187 15 l = l := xpr_no (by decide +kernel)
theorem v_Model_within_0 {S : Option (Nat × (Nat → Int32))} {s : zSt} {Q : Option Value ⊕ Nat → zSt → Prop} {x0 : Int} {x1 : Int} {x2 : Int} 
    (h : rng x0 ∧ (rng x1 ∧ ((x0 < x1 → Q (rI 0) s) ∧ (x1 ≤ x0 → rng x2 ∧ ((x2 < x0 → Q (rI 0) s) ∧ (x0 ≤ x2 → Q (rI 1) s)))))) :
    wp S 187 0 [(0, iv x0), (1, iv x1), (2, iv x2)] [] s Q := by
  refine i_iload_n (x := x0) r_187_0 (n_187_0 _) rfl ?_
  refine i_iload_n (x := x1) r_187_1 (n_187_1 _) rfl ?_
  obtain ⟨g1, h⟩ := h
  obtain ⟨g2, h⟩ := h
  refine i_icmp (t := 14) r_187_2 (n_187_2 _) rfl (T_lt g1 g2) (fun c3 => ?_) (fun c3 => ?_)
  · replace h := h.1 c3
    refine i_iconst r_187_14 (n_187_14 _) ?_
    exact i_zreturn r_187_15 (n_187_15 _) rfl (by decide) h
  · replace h := h.2 c3
    refine i_iload_n (x := x0) r_187_5 (n_187_5 _) rfl ?_
    refine i_iload_n (x := x2) r_187_6 (n_187_6 _) rfl ?_
    obtain ⟨g4, h⟩ := h
    refine i_icmp (t := 14) r_187_7 (n_187_7 _) rfl (T_gt g1 g4) (fun c5 => ?_) (fun c5 => ?_)
    · replace h := h.1 c5
      refine i_iconst r_187_14 (n_187_14 _) ?_
      exact i_zreturn r_187_15 (n_187_15 _) rfl (by decide) h
    · replace h := h.2 c5
      refine i_iconst r_187_10 (n_187_10 _) ?_
      refine i_goto (t := 15) r_187_11 (n_187_11 _) rfl ?_
      exact i_zreturn r_187_15 (n_187_15 _) rfl (by decide) h
theorem K_Model_within {S : Option (Nat × (Nat → Int32))} {s : zSt} {x0 : Int} {x1 : Int} {x2 : Int}  (h1 : rng x0) (h2 : rng x1) (h3 : rng x2) : wp S 187 0 [(0, iv x0), (1, iv x1), (2, iv x2)] [] s (fun o t => o = rI (bi (x1 ≤ x0 ∧ x0 ≤ x2)) ∧ s = t) := by
  refine wp_W fun hW => ?_
  refine v_Model_within_0  ?_
  repeat' (first | assumption | rfl | (intro _) | (refine ⟨?_, ?_⟩) | omega | exact congrArg rI (bi_F (by omega)).symm | exact congrArg rI (bi_T (by omega)).symm)
theorem r_179_0 : xfetch 179 0 = some (.aload_n 0, 1) := by decide +kernel
theorem n_179_0 : ∀ l, xpr 179 0 l = l := xpr_no (by decide +kernel)
theorem r_179_1 : xfetch 179 1 = some (.iload_n 1, 1) := by decide +kernel
theorem n_179_1 : ∀ l, xpr 179 1 l = l := xpr_no (by decide +kernel)
theorem r_179_2 : xfetch 179 2 = some (.putfield 77, 3) := by decide +kernel
theorem n_179_2 : ∀ l, xpr 179 2 l = l := xpr_no (by decide +kernel)
theorem r_179_5 : xfetch 179 5 = some (.iload_n 1, 1) := by decide +kernel
theorem n_179_5 : ∀ l, xpr 179 5 l = l := xpr_no (by decide +kernel)
theorem r_179_6 : xfetch 179 6 = some (.ifCond .le 7, 3) := by decide +kernel
theorem n_179_6 : ∀ l, xpr 179 6 l = l := xpr_no (by decide +kernel)
theorem r_179_9 : xfetch 179 9 = some (.iconst 1, 1) := by decide +kernel
theorem n_179_9 : ∀ l, xpr 179 9 l = l := xpr_no (by decide +kernel)
theorem r_179_10 : xfetch 179 10 = some (.goto 4, 3) := by decide +kernel
theorem n_179_10 : ∀ l, xpr 179 10 l = l := xpr_no (by decide +kernel)
theorem r_179_13 : xfetch 179 13 = some (.iconst 0, 1) := by decide +kernel
theorem n_179_13 : ∀ l, xpr 179 13 l = l := xpr_no (by decide +kernel)
theorem r_179_14 : xfetch 179 14 = some (.ireturn, 1) := by decide +kernel
theorem n_179_14 : ∀ l, xpr 179 14 l = l := xpr_no (by decide +kernel)
theorem v_Model_refused_0 {S : Option (Nat × (Nat → Int32))} {s : zSt} {Q : Option Value ⊕ Nat → zSt → Prop} {x1 : Int} 
    (h : rng x1 ∧ ((x1 ≤ 0 → Q (rI 0) (zwI s 252 3 x1)) ∧ (0 < x1 → Q (rI 1) (zwI s 252 3 x1)))) :
    wp S 179 0 [(0, rf 252), (1, iv x1)] [] s Q := by
  refine i_aload_n (a := 252) r_179_0 (n_179_0 _) rfl ?_
  refine i_iload_n (x := x1) r_179_1 (n_179_1 _) rfl ?_
  obtain ⟨g1, h⟩ := h
  refine i_putI (a := 252) (x := x1) r_179_2 (n_179_2 _) rfl (.inl rfl) rfl lf_252 g1 ?_
  refine i_iload_n (x := x1) r_179_5 (n_179_5 _) rfl ?_
  refine i_if (t := 13) r_179_6 (n_179_6 _) rfl (T_le g1 ⟨by omega, by omega⟩) (fun c2 => ?_) (fun c2 => ?_)
  · replace h := h.1 c2
    refine i_iconst r_179_13 (n_179_13 _) ?_
    exact i_zreturn r_179_14 (n_179_14 _) rfl (by decide) h
  · replace h := h.2 c2
    refine i_iconst r_179_9 (n_179_9 _) ?_
    refine i_goto (t := 14) r_179_10 (n_179_10 _) rfl ?_
    exact i_zreturn r_179_14 (n_179_14 _) rfl (by decide) h
theorem K_Model_refused {S : Option (Nat × (Nat → Int32))} {s : zSt} {x1 : Int}  (h1 : rng x1) : wp S 179 0 [(0, rf 252), (1, iv x1)] [] s (fun o t => o = rI (bi (0 < x1)) ∧ (zwI s 252 3 x1) = t) := by
  refine wp_W fun hW => ?_
  refine v_Model_refused_0  ?_
  repeat' (first | assumption | rfl | (intro _) | (refine ⟨?_, ?_⟩) | omega | exact congrArg rI (bi_F (by omega)).symm | exact congrArg rI (bi_T (by omega)).symm)
theorem K_Model_refusedB {S : Option (Nat × (Nat → Int32))} {s : zSt} {P : Prop}   : wp S 179 0 [(0, rf 252), (1, iv (bi P))] [] s (fun o t => o = rI (bi P) ∧ (zwI s 252 3 (bi P)) = t) := by
  refine wp_W fun hW => ?_
  refine v_Model_refused_0  ?_
  exact ⟨bi_rng _, fun z => ⟨congrArg rI (by have := bi_01 P; omega), rfl⟩, fun z => ⟨congrArg rI (by have := bi_01 P; omega), rfl⟩⟩
theorem K_Model_refused0 {S : Option (Nat × (Nat → Int32))} {s : zSt}    : wp S 179 0 [(0, rf 252), (1, iv 0)] [] s (fun o t => o = rI 0 ∧ (zwI s 252 3 0) = t) := by
  refine wp_W fun hW => ?_
  refine v_Model_refused_0  ?_
  exact ⟨⟨by decide, by decide⟩, fun z => ⟨rfl, rfl⟩, fun z => absurd z (by decide)⟩
theorem K_Model_refused1 {S : Option (Nat × (Nat → Int32))} {s : zSt} {x1 : Int}  (h1 : rng x1) (h2 : 0 < x1) : wp S 179 0 [(0, rf 252), (1, iv x1)] [] s (fun o t => o = rI 1 ∧ (zwI s 252 3 x1) = t) := by
  refine wp_W fun hW => ?_
  refine v_Model_refused_0  ?_
  exact ⟨h1, fun z => absurd z (by omega), fun z => ⟨rfl, rfl⟩⟩
theorem r_213_0 : xfetch 213 0 = some (.iload_n 1, 1) := by decide +kernel
theorem n_213_0 : ∀ l, xpr 213 0 l = l := xpr_no (by decide +kernel)
theorem r_213_1 : xfetch 213 1 = some (.ifCond .eq 7, 3) := by decide +kernel
theorem n_213_1 : ∀ l, xpr 213 1 l = l := xpr_no (by decide +kernel)
theorem r_213_4 : xfetch 213 4 = some (.iconst 0, 1) := by decide +kernel
theorem n_213_4 : ∀ l, xpr 213 4 l = l := xpr_no (by decide +kernel)
theorem r_213_5 : xfetch 213 5 = some (.goto 4, 3) := by decide +kernel
theorem n_213_5 : ∀ l, xpr 213 5 l = l := xpr_no (by decide +kernel)
theorem r_213_8 : xfetch 213 8 = some (.iconst 1, 1) := by decide +kernel
theorem n_213_8 : ∀ l, xpr 213 8 l = l := xpr_no (by decide +kernel)
theorem r_213_9 : xfetch 213 9 = some (.ireturn, 1) := by decide +kernel
theorem n_213_9 : ∀ l, xpr 213 9 l = l := xpr_no (by decide +kernel)
theorem v_Model_need_0 {S : Option (Nat × (Nat → Int32))} {s : zSt} {Q : Option Value ⊕ Nat → zSt → Prop} {x1 : Int} 
    (h : rng x1 ∧ ((x1 = 0 → Q (rI 1) s) ∧ (x1 ≠ 0 → Q (rI 0) s))) :
    wp S 213 0 [(0, rf 252), (1, iv x1)] [] s Q := by
  refine i_iload_n (x := x1) r_213_0 (n_213_0 _) rfl ?_
  obtain ⟨g1, h⟩ := h
  refine i_if (t := 8) r_213_1 (n_213_1 _) rfl (T_eq g1 ⟨by omega, by omega⟩) (fun c2 => ?_) (fun c2 => ?_)
  · replace h := h.1 c2
    refine i_iconst r_213_8 (n_213_8 _) ?_
    exact i_ireturn r_213_9 (n_213_9 _) rfl h
  · replace h := h.2 c2
    refine i_iconst r_213_4 (n_213_4 _) ?_
    refine i_goto (t := 9) r_213_5 (n_213_5 _) rfl ?_
    exact i_ireturn r_213_9 (n_213_9 _) rfl h
theorem K_Model_need {S : Option (Nat × (Nat → Int32))} {s : zSt} {x1 : Int}  (h1 : rng x1) : wp S 213 0 [(0, rf 252), (1, iv x1)] [] s (fun o t => o = rI (bi (x1 = 0)) ∧ s = t) := by
  refine wp_W fun hW => ?_
  refine v_Model_need_0  ?_
  repeat' (first | assumption | rfl | (intro _) | (refine ⟨?_, ?_⟩) | omega | exact congrArg rI (bi_F (by omega)).symm | exact congrArg rI (bi_T (by omega)).symm)
theorem K_Model_needB {S : Option (Nat × (Nat → Int32))} {s : zSt} {P : Prop}   : wp S 213 0 [(0, rf 252), (1, iv (bi P))] [] s (fun o t => o = rI (bi (¬ P)) ∧ s = t) := by
  refine wp_W fun hW => ?_
  refine v_Model_need_0  ?_
  exact ⟨bi_rng _, fun z => ⟨congrArg rI (bi_T (bi_0.mp z)).symm, rfl⟩, fun z => ⟨congrArg rI (bi_F (fun g => z (bi_0.mpr g))).symm, rfl⟩⟩
theorem K_Model_need0 {S : Option (Nat × (Nat → Int32))} {s : zSt}    : wp S 213 0 [(0, rf 252), (1, iv 0)] [] s (fun o t => o = rI 1 ∧ s = t) := by
  refine wp_W fun hW => ?_
  refine v_Model_need_0  ?_
  exact ⟨⟨by decide, by decide⟩, fun z => ⟨rfl, rfl⟩, fun z => absurd rfl z⟩
theorem K_Model_need1 {S : Option (Nat × (Nat → Int32))} {s : zSt} {x1 : Int}  (h1 : rng x1) (h2 : x1 ≠ 0) : wp S 213 0 [(0, rf 252), (1, iv x1)] [] s (fun o t => o = rI 0 ∧ s = t) := by
  refine wp_W fun hW => ?_
  refine v_Model_need_0  ?_
  exact ⟨h1, fun z => absurd z h2, fun z => ⟨rfl, rfl⟩⟩
theorem r_186_0 : xfetch 186 0 = some (.iload_n 1, 1) := by decide +kernel
theorem n_186_0 : ∀ l, xpr 186 0 l = l := xpr_no (by decide +kernel)
theorem r_186_1 : xfetch 186 1 = some (.iconst 0, 1) := by decide +kernel
theorem n_186_1 : ∀ l, xpr 186 1 l = l := xpr_no (by decide +kernel)
theorem r_186_2 : xfetch 186 2 = some (.aload_n 0, 1) := by decide +kernel
theorem n_186_2 : ∀ l, xpr 186 2 l = l := xpr_no (by decide +kernel)
theorem r_186_3 : xfetch 186 3 = some (.getfield 7, 3) := by decide +kernel
theorem n_186_3 : ∀ l, xpr 186 3 l = l := xpr_no (by decide +kernel)
theorem r_186_6 : xfetch 186 6 = some (.iconst 0, 1) := by decide +kernel
theorem n_186_6 : ∀ l, xpr 186 6 l = l := xpr_no (by decide +kernel)
theorem r_186_7 : xfetch 186 7 = some (.iaload, 1) := by decide +kernel
theorem n_186_7 : ∀ l, xpr 186 7 l = l := xpr_no (by decide +kernel)
theorem r_186_8 : xfetch 186 8 = some (.iconst 1, 1) := by decide +kernel
theorem n_186_8 : ∀ l, xpr 186 8 l = l := xpr_no (by decide +kernel)
theorem r_186_9 : xfetch 186 9 = some (.isub, 1) := by decide +kernel
theorem n_186_9 : ∀ l, xpr 186 9 l = l := xpr_no (by decide +kernel)
theorem r_186_10 : xfetch 186 10 = some (.invokestatic 88, 3) := by decide +kernel
theorem n_186_10 : ∀ l, xpr 186 10 l = l := xpr_no (by decide +kernel)
theorem r_186_13 : xfetch 186 13 = some (.ireturn, 1) := by decide +kernel
theorem n_186_13 : ∀ l, xpr 186 13 l = l := xpr_no (by decide +kernel)
theorem v_Model_isRecord_0 {S : Option (Nat × (Nat → Int32))} {s : zSt} {Q : Option Value ⊕ Nat → zSt → Prop} {x1 : Int} 
    (h : rng x1 ∧ (rng ((zI s 253 0) - 1) ∧ (Q (rI (bi (0 ≤ x1 ∧ x1 ≤ ((zI s 253 0) - 1)))) s))) :
    wp S 186 0 [(0, rf 252), (1, iv x1)] [] s Q := by
  refine i_iload_n (x := x1) r_186_0 (n_186_0 _) rfl ?_
  refine i_iconst r_186_1 (n_186_1 _) ?_
  refine i_aload_n (a := 252) r_186_2 (n_186_2 _) rfl ?_
  refine i_getR (a := 252) (b := 253) r_186_3 (n_186_3 _) rfl rfl rfl (by omega) lf_252 (by omega) ?_
  refine i_iconst r_186_6 (n_186_6 _) ?_
  refine i_iaload (a := 253) (j := 0) r_186_7 (n_186_7 _) lf_253 ⟨by omega, by omega⟩ (by omega) (by omega) (fun q1 => ?_)
  refine i_iconst r_186_8 (n_186_8 _) ?_
  refine i_isub r_186_9 (n_186_9 _) ?_
  obtain ⟨g2, h⟩ := h
  obtain ⟨g3, h⟩ := h
  refine wp_stat (rest := []) (Ls := [(0, iv x1), (1, iv 0), (2, iv ((zI s 253 0) - 1))]) r_186_10 (n_186_10 _) rfl ⟨rfl, by decide, by decide, by decide⟩ rfl rfl ⟨rfl, Nat.le_of_ble_eq_true rfl, Nat.le_of_ble_eq_true rfl⟩ rfl (K_Model_within g2 ⟨by omega, by omega⟩ g3) ?_
  rintro _ _ ⟨rfl, rfl⟩
  refine .inl ⟨some (iv (bi (0 ≤ x1 ∧ x1 ≤ ((zI s 253 0) - 1)))), rfl, ?_⟩
  show wp S 186 13 [(0, rf 252), (1, iv x1)] [iv (bi (0 ≤ x1 ∧ x1 ≤ ((zI s 253 0) - 1)))] s Q
  exact i_zreturn r_186_13 (n_186_13 _) rfl (bi_01 _) h
theorem K_Model_isRecord {S : Option (Nat × (Nat → Int32))} {s : zSt} {x1 : Int}  (h1 : rng x1) (h2 : rng ((zI s 253 0) - 1)) : wp S 186 0 [(0, rf 252), (1, iv x1)] [] s (fun o t => o = rI (bi (0 ≤ x1 ∧ x1 ≤ ((zI s 253 0) - 1))) ∧ s = t) := by
  refine wp_W fun hW => ?_
  refine v_Model_isRecord_0  ?_
  exact ⟨h1, h2, rfl, rfl⟩
theorem r_192_0 : xfetch 192 0 = some (.iload_n 0, 1) := by decide +kernel
theorem n_192_0 : ∀ l, xpr 192 0 l = l := xpr_no (by decide +kernel)
theorem r_192_1 : xfetch 192 1 = some (.bipush 21, 2) := by decide +kernel
theorem n_192_1 : ∀ l, xpr 192 1 l = l := xpr_no (by decide +kernel)
theorem r_192_3 : xfetch 192 3 = some (.bipush 36, 2) := by decide +kernel
theorem n_192_3 : ∀ l, xpr 192 3 l = l := xpr_no (by decide +kernel)
theorem r_192_5 : xfetch 192 5 = some (.invokestatic 88, 3) := by decide +kernel
theorem n_192_5 : ∀ l, xpr 192 5 l = l := xpr_no (by decide +kernel)
theorem r_192_8 : xfetch 192 8 = some (.ireturn, 1) := by decide +kernel
theorem n_192_8 : ∀ l, xpr 192 8 l = l := xpr_no (by decide +kernel)
theorem v_Model_isBits_0 {S : Option (Nat × (Nat → Int32))} {s : zSt} {Q : Option Value ⊕ Nat → zSt → Prop} {x0 : Int} 
    (h : rng x0 ∧ (Q (rI (bi (21 ≤ x0 ∧ x0 ≤ 36))) s)) :
    wp S 192 0 [(0, iv x0)] [] s Q := by
  refine i_iload_n (x := x0) r_192_0 (n_192_0 _) rfl ?_
  refine i_bipush r_192_1 (n_192_1 _) rfl ?_
  refine i_bipush r_192_3 (n_192_3 _) rfl ?_
  obtain ⟨g1, h⟩ := h
  refine wp_stat (rest := []) (Ls := [(0, iv x0), (1, iv 21), (2, iv 36)]) r_192_5 (n_192_5 _) rfl ⟨rfl, by decide, by decide, by decide⟩ rfl rfl ⟨rfl, Nat.le_of_ble_eq_true rfl, Nat.le_of_ble_eq_true rfl⟩ rfl (K_Model_within g1 ⟨by omega, by omega⟩ ⟨by omega, by omega⟩) ?_
  rintro _ _ ⟨rfl, rfl⟩
  refine .inl ⟨some (iv (bi (21 ≤ x0 ∧ x0 ≤ 36))), rfl, ?_⟩
  show wp S 192 8 [(0, iv x0)] [iv (bi (21 ≤ x0 ∧ x0 ≤ 36))] s Q
  exact i_zreturn r_192_8 (n_192_8 _) rfl (bi_01 _) h
theorem K_Model_isBits {S : Option (Nat × (Nat → Int32))} {s : zSt} {x0 : Int}  (h1 : rng x0) : wp S 192 0 [(0, iv x0)] [] s (fun o t => o = rI (bi (21 ≤ x0 ∧ x0 ≤ 36)) ∧ s = t) := by
  refine wp_W fun hW => ?_
  refine v_Model_isBits_0  ?_
  exact ⟨h1, rfl, rfl⟩
theorem r_197_0 : xfetch 197 0 = some (.iload_n 0, 1) := by decide +kernel
theorem n_197_0 : ∀ l, xpr 197 0 l = l := xpr_no (by decide +kernel)
theorem r_197_1 : xfetch 197 1 = some (.tableswitch 64 0 7 #[47, 49, 51, 53, 55, 57, 59, 62], 47) := by decide +kernel
theorem n_197_1 : ∀ l, xpr 197 1 l = l := xpr_no (by decide +kernel)
theorem r_197_48 : xfetch 197 48 = some (.iconst 1, 1) := by decide +kernel
theorem n_197_48 : ∀ l, xpr 197 48 l = l := xpr_no (by decide +kernel)
theorem r_197_49 : xfetch 197 49 = some (.ireturn, 1) := by decide +kernel
theorem n_197_49 : ∀ l, xpr 197 49 l = l := xpr_no (by decide +kernel)
theorem r_197_50 : xfetch 197 50 = some (.iconst 1, 1) := by decide +kernel
theorem n_197_50 : ∀ l, xpr 197 50 l = l := xpr_no (by decide +kernel)
theorem r_197_51 : xfetch 197 51 = some (.ireturn, 1) := by decide +kernel
theorem n_197_51 : ∀ l, xpr 197 51 l = l := xpr_no (by decide +kernel)
theorem r_197_52 : xfetch 197 52 = some (.iconst 2, 1) := by decide +kernel
theorem n_197_52 : ∀ l, xpr 197 52 l = l := xpr_no (by decide +kernel)
theorem r_197_53 : xfetch 197 53 = some (.ireturn, 1) := by decide +kernel
theorem n_197_53 : ∀ l, xpr 197 53 l = l := xpr_no (by decide +kernel)
theorem r_197_54 : xfetch 197 54 = some (.iconst 2, 1) := by decide +kernel
theorem n_197_54 : ∀ l, xpr 197 54 l = l := xpr_no (by decide +kernel)
theorem r_197_55 : xfetch 197 55 = some (.ireturn, 1) := by decide +kernel
theorem n_197_55 : ∀ l, xpr 197 55 l = l := xpr_no (by decide +kernel)
theorem r_197_56 : xfetch 197 56 = some (.iconst 4, 1) := by decide +kernel
theorem n_197_56 : ∀ l, xpr 197 56 l = l := xpr_no (by decide +kernel)
theorem r_197_57 : xfetch 197 57 = some (.ireturn, 1) := by decide +kernel
theorem n_197_57 : ∀ l, xpr 197 57 l = l := xpr_no (by decide +kernel)
theorem r_197_58 : xfetch 197 58 = some (.iconst 4, 1) := by decide +kernel
theorem n_197_58 : ∀ l, xpr 197 58 l = l := xpr_no (by decide +kernel)
theorem r_197_59 : xfetch 197 59 = some (.ireturn, 1) := by decide +kernel
theorem n_197_59 : ∀ l, xpr 197 59 l = l := xpr_no (by decide +kernel)
theorem r_197_60 : xfetch 197 60 = some (.bipush 8, 2) := by decide +kernel
theorem n_197_60 : ∀ l, xpr 197 60 l = l := xpr_no (by decide +kernel)
theorem r_197_62 : xfetch 197 62 = some (.ireturn, 1) := by decide +kernel
theorem n_197_62 : ∀ l, xpr 197 62 l = l := xpr_no (by decide +kernel)
theorem r_197_63 : xfetch 197 63 = some (.iconst 1, 1) := by decide +kernel
theorem n_197_63 : ∀ l, xpr 197 63 l = l := xpr_no (by decide +kernel)
theorem r_197_64 : xfetch 197 64 = some (.ireturn, 1) := by decide +kernel
theorem n_197_64 : ∀ l, xpr 197 64 l = l := xpr_no (by decide +kernel)
theorem r_197_65 : xfetch 197 65 = some (.iconst 2, 1) := by decide +kernel
theorem n_197_65 : ∀ l, xpr 197 65 l = l := xpr_no (by decide +kernel)
theorem r_197_66 : xfetch 197 66 = some (.ireturn, 1) := by decide +kernel
theorem n_197_66 : ∀ l, xpr 197 66 l = l := xpr_no (by decide +kernel)
theorem v_Model_bytesOf_0 {S : Option (Nat × (Nat → Int32))} {s : zSt} {Q : Option Value ⊕ Nat → zSt → Prop} {x0 : Int} 
    (h : rng x0 ∧ ((x0 = 0 → Q (rI 1) s) ∧ ((x0 = 1 → Q (rI 1) s) ∧ ((x0 = 2 → Q (rI 2) s) ∧ ((x0 = 3 → Q (rI 2) s) ∧ ((x0 = 4 → Q (rI 4) s) ∧ ((x0 = 5 → Q (rI 4) s) ∧ ((x0 = 6 → Q (rI 8) s) ∧ ((x0 = 7 → Q (rI 1) s) ∧ (((x0 < 0 ∨ 7 < x0) → Q (rI 2) s))))))))))) :
    wp S 197 0 [(0, iv x0)] [] s Q := by
  refine i_iload_n (x := x0) r_197_0 (n_197_0 _) rfl ?_
  obtain ⟨g1, h⟩ := h
  rcases (by omega : x0 = 0 ∨ x0 = 1 ∨ x0 = 2 ∨ x0 = 3 ∨ x0 = 4 ∨ x0 = 5 ∨ x0 = 6 ∨ x0 = 7 ∨ (x0 < 0 ∨ 7 < x0)) with c2 | c2 | c2 | c2 | c2 | c2 | c2 | c2 | c2
  · replace h := h.1 c2
    refine i_sw_hit (kk := 0) (t := 48) r_197_1 (n_197_1 _) (by omega) g1 (by omega) rfl rfl ?_
    refine i_iconst r_197_48 (n_197_48 _) ?_
    exact i_ireturn r_197_49 (n_197_49 _) rfl h
  · replace h := h.2.1 c2
    refine i_sw_hit (kk := 1) (t := 50) r_197_1 (n_197_1 _) (by omega) g1 (by omega) rfl rfl ?_
    refine i_iconst r_197_50 (n_197_50 _) ?_
    exact i_ireturn r_197_51 (n_197_51 _) rfl h
  · replace h := h.2.2.1 c2
    refine i_sw_hit (kk := 2) (t := 52) r_197_1 (n_197_1 _) (by omega) g1 (by omega) rfl rfl ?_
    refine i_iconst r_197_52 (n_197_52 _) ?_
    exact i_ireturn r_197_53 (n_197_53 _) rfl h
  · replace h := h.2.2.2.1 c2
    refine i_sw_hit (kk := 3) (t := 54) r_197_1 (n_197_1 _) (by omega) g1 (by omega) rfl rfl ?_
    refine i_iconst r_197_54 (n_197_54 _) ?_
    exact i_ireturn r_197_55 (n_197_55 _) rfl h
  · replace h := h.2.2.2.2.1 c2
    refine i_sw_hit (kk := 4) (t := 56) r_197_1 (n_197_1 _) (by omega) g1 (by omega) rfl rfl ?_
    refine i_iconst r_197_56 (n_197_56 _) ?_
    exact i_ireturn r_197_57 (n_197_57 _) rfl h
  · replace h := h.2.2.2.2.2.1 c2
    refine i_sw_hit (kk := 5) (t := 58) r_197_1 (n_197_1 _) (by omega) g1 (by omega) rfl rfl ?_
    refine i_iconst r_197_58 (n_197_58 _) ?_
    exact i_ireturn r_197_59 (n_197_59 _) rfl h
  · replace h := h.2.2.2.2.2.2.1 c2
    refine i_sw_hit (kk := 6) (t := 60) r_197_1 (n_197_1 _) (by omega) g1 (by omega) rfl rfl ?_
    refine i_bipush r_197_60 (n_197_60 _) rfl ?_
    exact i_ireturn r_197_62 (n_197_62 _) rfl h
  · replace h := h.2.2.2.2.2.2.2.1 c2
    refine i_sw_hit (kk := 7) (t := 63) r_197_1 (n_197_1 _) (by omega) g1 (by omega) rfl rfl ?_
    refine i_iconst r_197_63 (n_197_63 _) ?_
    exact i_ireturn r_197_64 (n_197_64 _) rfl h
  · replace h := h.2.2.2.2.2.2.2.2 c2
    refine i_sw_out (t := 65) r_197_1 (n_197_1 _) c2 g1 rfl ?_
    refine i_iconst r_197_65 (n_197_65 _) ?_
    exact i_ireturn r_197_66 (n_197_66 _) rfl h
theorem K_Model_bytesOf {S : Option (Nat × (Nat → Int32))} {s : zSt} {x0 : Int}  (h1 : rng x0) : wp S 197 0 [(0, iv x0)] [] s (fun o t => o = rI (zby x0) ∧ s = t) := by
  refine wp_W fun hW => ?_
  refine v_Model_bytesOf_0  ?_
  refine ⟨h1, ?_⟩
  repeat' (first | (refine ⟨?_, ?_⟩) | rfl | (intro z) | exact congrArg rI (by unfold zby; omega))
theorem r_199_0 : xfetch 199 0 = some (.iload_n 1, 1) := by decide +kernel
theorem n_199_0 : ∀ l, xpr 199 0 l = l := xpr_no (by decide +kernel)
theorem r_199_1 : xfetch 199 1 = some (.bipush 100, 2) := by decide +kernel
theorem n_199_1 : ∀ l, xpr 199 1 l = l := xpr_no (by decide +kernel)
theorem r_199_3 : xfetch 199 3 = some (.if_icmp .lt 15, 3) := by decide +kernel
theorem n_199_3 : ∀ l, xpr 199 3 l = l := xpr_no (by decide +kernel)
theorem r_199_6 : xfetch 199 6 = some (.aload_n 0, 1) := by decide +kernel
theorem n_199_6 : ∀ l, xpr 199 6 l = l := xpr_no (by decide +kernel)
theorem r_199_7 : xfetch 199 7 = some (.getfield 22, 3) := by decide +kernel
theorem n_199_7 : ∀ l, xpr 199 7 l = l := xpr_no (by decide +kernel)
theorem r_199_10 : xfetch 199 10 = some (.iload_n 1, 1) := by decide +kernel
theorem n_199_10 : ∀ l, xpr 199 10 l = l := xpr_no (by decide +kernel)
theorem r_199_11 : xfetch 199 11 = some (.bipush 100, 2) := by decide +kernel
theorem n_199_11 : ∀ l, xpr 199 11 l = l := xpr_no (by decide +kernel)
theorem r_199_13 : xfetch 199 13 = some (.isub, 1) := by decide +kernel
theorem n_199_13 : ∀ l, xpr 199 13 l = l := xpr_no (by decide +kernel)
theorem r_199_14 : xfetch 199 14 = some (.iaload, 1) := by decide +kernel
theorem n_199_14 : ∀ l, xpr 199 14 l = l := xpr_no (by decide +kernel)
theorem r_199_15 : xfetch 199 15 = some (.goto 7, 3) := by decide +kernel
theorem n_199_15 : ∀ l, xpr 199 15 l = l := xpr_no (by decide +kernel)
theorem r_199_18 : xfetch 199 18 = some (.iload_n 1, 1) := by decide +kernel
theorem n_199_18 : ∀ l, xpr 199 18 l = l := xpr_no (by decide +kernel)
theorem r_199_19 : xfetch 199 19 = some (.invokestatic 96, 3) := by decide +kernel
theorem n_199_19 : ∀ l, xpr 199 19 l = l := xpr_no (by decide +kernel)
theorem r_199_22 : xfetch 199 22 = some (.ireturn, 1) := by decide +kernel
theorem n_199_22 : ∀ l, xpr 199 22 l = l := xpr_no (by decide +kernel)
theorem v_Model_elementSize_0 {S : Option (Nat × (Nat → Int32))} {s : zSt} {Q : Option Value ⊕ Nat → zSt → Prop} {x1 : Int} 
    (h : rng x1 ∧ ((x1 < 100 → Q (rI (zby x1)) s) ∧ (100 ≤ x1 → (0 ≤ (x1 - 100) ∧ (x1 - 100) < 6) ∧ (Q (rI (zI s 257 (x1 - 100))) s)))) :
    wp S 199 0 [(0, rf 252), (1, iv x1)] [] s Q := by
  refine i_iload_n (x := x1) r_199_0 (n_199_0 _) rfl ?_
  refine i_bipush r_199_1 (n_199_1 _) rfl ?_
  obtain ⟨g1, h⟩ := h
  refine i_icmp (t := 18) r_199_3 (n_199_3 _) rfl (T_lt g1 ⟨by omega, by omega⟩) (fun c2 => ?_) (fun c2 => ?_)
  · replace h := h.1 c2
    refine i_iload_n (x := x1) r_199_18 (n_199_18 _) rfl ?_
    refine wp_stat (rest := []) (Ls := [(0, iv x1)]) r_199_19 (n_199_19 _) rfl ⟨rfl, by decide, by decide, by decide⟩ rfl rfl ⟨rfl, Nat.le_of_ble_eq_true rfl, Nat.le_of_ble_eq_true rfl⟩ rfl (K_Model_bytesOf g1) ?_
    rintro _ _ ⟨rfl, rfl⟩
    refine .inl ⟨some (iv (zby x1)), rfl, ?_⟩
    show wp S 199 22 [(0, rf 252), (1, iv x1)] [iv (zby x1)] s Q
    exact i_ireturn r_199_22 (n_199_22 _) rfl h
  · replace h := h.2 c2
    refine i_aload_n (a := 252) r_199_6 (n_199_6 _) rfl ?_
    refine i_getR (a := 252) (b := 257) r_199_7 (n_199_7 _) rfl rfl rfl (by omega) lf_252 (by omega) ?_
    refine i_iload_n (x := x1) r_199_10 (n_199_10 _) rfl ?_
    refine i_bipush r_199_11 (n_199_11 _) rfl ?_
    refine i_isub r_199_13 (n_199_13 _) ?_
    obtain ⟨g4, h⟩ := h
    refine i_iaload (a := 257) (j := x1 - 100) r_199_14 (n_199_14 _) lf_257 ⟨by omega, by omega⟩ (by omega) (by omega) (fun q5 => ?_)
    refine i_goto (t := 22) r_199_15 (n_199_15 _) rfl ?_
    exact i_ireturn r_199_22 (n_199_22 _) rfl h
theorem K_Model_elementSize {S : Option (Nat × (Nat → Int32))} {s : zSt} {x1 : Int}  (h1 : rng x1) (h2 : x1 < 106) : wp S 199 0 [(0, rf 252), (1, iv x1)] [] s (fun o t => o = rI (zel x1 (zI s 257 (x1 - 100))) ∧ s = t) := by
  refine wp_W fun hW => ?_
  refine v_Model_elementSize_0  ?_
  refine ⟨h1, fun z => ⟨congrArg rI ?_, rfl⟩, fun z => ⟨⟨by omega, by omega⟩, congrArg rI ?_, rfl⟩⟩
  · unfold zel; rw [if_pos z]
  · unfold zel; rw [if_neg (by omega)]
theorem r_196_0 : xfetch 196 0 = some (.iload_n 1, 1) := by decide +kernel
theorem n_196_0 : ∀ l, xpr 196 0 l = l := xpr_no (by decide +kernel)
theorem r_196_1 : xfetch 196 1 = some (.bipush 100, 2) := by decide +kernel
theorem n_196_1 : ∀ l, xpr 196 1 l = l := xpr_no (by decide +kernel)
theorem r_196_3 : xfetch 196 3 = some (.if_icmp .lt 15, 3) := by decide +kernel
theorem n_196_3 : ∀ l, xpr 196 3 l = l := xpr_no (by decide +kernel)
theorem r_196_6 : xfetch 196 6 = some (.aload_n 0, 1) := by decide +kernel
theorem n_196_6 : ∀ l, xpr 196 6 l = l := xpr_no (by decide +kernel)
theorem r_196_7 : xfetch 196 7 = some (.getfield 25, 3) := by decide +kernel
theorem n_196_7 : ∀ l, xpr 196 7 l = l := xpr_no (by decide +kernel)
theorem r_196_10 : xfetch 196 10 = some (.iload_n 1, 1) := by decide +kernel
theorem n_196_10 : ∀ l, xpr 196 10 l = l := xpr_no (by decide +kernel)
theorem r_196_11 : xfetch 196 11 = some (.bipush 100, 2) := by decide +kernel
theorem n_196_11 : ∀ l, xpr 196 11 l = l := xpr_no (by decide +kernel)
theorem r_196_13 : xfetch 196 13 = some (.isub, 1) := by decide +kernel
theorem n_196_13 : ∀ l, xpr 196 13 l = l := xpr_no (by decide +kernel)
theorem r_196_14 : xfetch 196 14 = some (.iaload, 1) := by decide +kernel
theorem n_196_14 : ∀ l, xpr 196 14 l = l := xpr_no (by decide +kernel)
theorem r_196_15 : xfetch 196 15 = some (.goto 7, 3) := by decide +kernel
theorem n_196_15 : ∀ l, xpr 196 15 l = l := xpr_no (by decide +kernel)
theorem r_196_18 : xfetch 196 18 = some (.iload_n 1, 1) := by decide +kernel
theorem n_196_18 : ∀ l, xpr 196 18 l = l := xpr_no (by decide +kernel)
theorem r_196_19 : xfetch 196 19 = some (.invokestatic 96, 3) := by decide +kernel
theorem n_196_19 : ∀ l, xpr 196 19 l = l := xpr_no (by decide +kernel)
theorem r_196_22 : xfetch 196 22 = some (.ireturn, 1) := by decide +kernel
theorem n_196_22 : ∀ l, xpr 196 22 l = l := xpr_no (by decide +kernel)
theorem v_Model_naturalAlign_0 {S : Option (Nat × (Nat → Int32))} {s : zSt} {Q : Option Value ⊕ Nat → zSt → Prop} {x1 : Int} 
    (h : rng x1 ∧ ((x1 < 100 → Q (rI (zby x1)) s) ∧ (100 ≤ x1 → (0 ≤ (x1 - 100) ∧ (x1 - 100) < 6) ∧ (Q (rI (zI s 258 (x1 - 100))) s)))) :
    wp S 196 0 [(0, rf 252), (1, iv x1)] [] s Q := by
  refine i_iload_n (x := x1) r_196_0 (n_196_0 _) rfl ?_
  refine i_bipush r_196_1 (n_196_1 _) rfl ?_
  obtain ⟨g1, h⟩ := h
  refine i_icmp (t := 18) r_196_3 (n_196_3 _) rfl (T_lt g1 ⟨by omega, by omega⟩) (fun c2 => ?_) (fun c2 => ?_)
  · replace h := h.1 c2
    refine i_iload_n (x := x1) r_196_18 (n_196_18 _) rfl ?_
    refine wp_stat (rest := []) (Ls := [(0, iv x1)]) r_196_19 (n_196_19 _) rfl ⟨rfl, by decide, by decide, by decide⟩ rfl rfl ⟨rfl, Nat.le_of_ble_eq_true rfl, Nat.le_of_ble_eq_true rfl⟩ rfl (K_Model_bytesOf g1) ?_
    rintro _ _ ⟨rfl, rfl⟩
    refine .inl ⟨some (iv (zby x1)), rfl, ?_⟩
    show wp S 196 22 [(0, rf 252), (1, iv x1)] [iv (zby x1)] s Q
    exact i_ireturn r_196_22 (n_196_22 _) rfl h
  · replace h := h.2 c2
    refine i_aload_n (a := 252) r_196_6 (n_196_6 _) rfl ?_
    refine i_getR (a := 252) (b := 258) r_196_7 (n_196_7 _) rfl rfl rfl (by omega) lf_252 (by omega) ?_
    refine i_iload_n (x := x1) r_196_10 (n_196_10 _) rfl ?_
    refine i_bipush r_196_11 (n_196_11 _) rfl ?_
    refine i_isub r_196_13 (n_196_13 _) ?_
    obtain ⟨g4, h⟩ := h
    refine i_iaload (a := 258) (j := x1 - 100) r_196_14 (n_196_14 _) lf_258 ⟨by omega, by omega⟩ (by omega) (by omega) (fun q5 => ?_)
    refine i_goto (t := 22) r_196_15 (n_196_15 _) rfl ?_
    exact i_ireturn r_196_22 (n_196_22 _) rfl h
theorem K_Model_naturalAlign {S : Option (Nat × (Nat → Int32))} {s : zSt} {x1 : Int}  (h1 : rng x1) (h2 : x1 < 106) : wp S 196 0 [(0, rf 252), (1, iv x1)] [] s (fun o t => o = rI (zel x1 (zI s 258 (x1 - 100))) ∧ s = t) := by
  refine wp_W fun hW => ?_
  refine v_Model_naturalAlign_0  ?_
  refine ⟨h1, fun z => ⟨congrArg rI ?_, rfl⟩, fun z => ⟨⟨by omega, by omega⟩, congrArg rI ?_, rfl⟩⟩
  · unfold zel; rw [if_pos z]
  · unfold zel; rw [if_neg (by omega)]
theorem r_198_0 : xfetch 198 0 = some (.iload_n 0, 1) := by decide +kernel
theorem n_198_0 : ∀ l, xpr 198 0 l = l := xpr_no (by decide +kernel)
theorem r_198_1 : xfetch 198 1 = some (.iload_n 1, 1) := by decide +kernel
theorem n_198_1 : ∀ l, xpr 198 1 l = l := xpr_no (by decide +kernel)
theorem r_198_2 : xfetch 198 2 = some (.iadd, 1) := by decide +kernel
theorem n_198_2 : ∀ l, xpr 198 2 l = l := xpr_no (by decide +kernel)
theorem r_198_3 : xfetch 198 3 = some (.iconst 1, 1) := by decide +kernel
theorem n_198_3 : ∀ l, xpr 198 3 l = l := xpr_no (by decide +kernel)
theorem r_198_4 : xfetch 198 4 = some (.isub, 1) := by decide +kernel
theorem n_198_4 : ∀ l, xpr 198 4 l = l := xpr_no (by decide +kernel)
theorem r_198_5 : xfetch 198 5 = some (.iload_n 1, 1) := by decide +kernel
theorem n_198_5 : ∀ l, xpr 198 5 l = l := xpr_no (by decide +kernel)
theorem r_198_6 : xfetch 198 6 = some (.idiv, 1) := by decide +kernel
theorem n_198_6 : ∀ l, xpr 198 6 l = l := xpr_no (by decide +kernel)
theorem r_198_7 : xfetch 198 7 = some (.iload_n 1, 1) := by decide +kernel
theorem n_198_7 : ∀ l, xpr 198 7 l = l := xpr_no (by decide +kernel)
theorem r_198_8 : xfetch 198 8 = some (.imul, 1) := by decide +kernel
theorem n_198_8 : ∀ l, xpr 198 8 l = l := xpr_no (by decide +kernel)
theorem r_198_9 : xfetch 198 9 = some (.ireturn, 1) := by decide +kernel
theorem n_198_9 : ∀ l, xpr 198 9 l = l := xpr_no (by decide +kernel)
theorem v_Model_up_0 {S : Option (Nat × (Nat → Int32))} {s : zSt} {Q : Option Value ⊕ Nat → zSt → Prop} {x0 : Int} {x1 : Int} 
    (h : rng ((x0 + x1) - 1) ∧ (rng x1 ∧ (0 ≤ ((x0 + x1) - 1) ∧ (0 < x1 ∧ (Q (rI ((((x0 + x1) - 1) / x1) * x1)) s))))) :
    wp S 198 0 [(0, iv x0), (1, iv x1)] [] s Q := by
  refine i_iload_n (x := x0) r_198_0 (n_198_0 _) rfl ?_
  refine i_iload_n (x := x1) r_198_1 (n_198_1 _) rfl ?_
  refine i_iadd r_198_2 (n_198_2 _) ?_
  refine i_iconst r_198_3 (n_198_3 _) ?_
  refine i_isub r_198_4 (n_198_4 _) ?_
  refine i_iload_n (x := x1) r_198_5 (n_198_5 _) rfl ?_
  obtain ⟨g1, h⟩ := h
  obtain ⟨g2, h⟩ := h
  obtain ⟨g3, h⟩ := h
  obtain ⟨g4, h⟩ := h
  refine i_idiv r_198_6 (n_198_6 _) g1 g2 (by omega) (by omega) ?_
  refine i_iload_n (x := x1) r_198_7 (n_198_7 _) rfl ?_
  refine i_imul r_198_8 (n_198_8 _) ?_
  exact i_ireturn r_198_9 (n_198_9 _) rfl h
theorem K_Model_up {S : Option (Nat × (Nat → Int32))} {s : zSt} {x0 : Int} {x1 : Int}  (h1 : rng (x0 + x1 - 1)) (h2 : rng x1) (h3 : 0 ≤ x0 + x1 - 1) (h4 : 0 < x1) : wp S 198 0 [(0, iv x0), (1, iv x1)] [] s (fun o t => o = rI (zup x0 x1) ∧ s = t) := by
  refine wp_W fun hW => ?_
  refine v_Model_up_0  ?_
  exact ⟨h1, h2, h3, h4, rfl, rfl⟩
theorem r_181_0 : xfetch 181 0 = some (.iload_n 0, 1) := by decide +kernel
theorem n_181_0 : ∀ l, xpr 181 0 l = l := xpr_no (by decide +kernel)
theorem r_181_1 : xfetch 181 1 = some (.iconst 1, 1) := by decide +kernel
theorem n_181_1 : ∀ l, xpr 181 1 l = l := xpr_no (by decide +kernel)
theorem r_181_2 : xfetch 181 2 = some (.if_icmp .eq 19, 3) := by decide +kernel
theorem n_181_2 : ∀ l, xpr 181 2 l = l := xpr_no (by decide +kernel)
theorem r_181_5 : xfetch 181 5 = some (.iload_n 0, 1) := by decide +kernel
theorem n_181_5 : ∀ l, xpr 181 5 l = l := xpr_no (by decide +kernel)
theorem r_181_6 : xfetch 181 6 = some (.iconst 2, 1) := by decide +kernel
theorem n_181_6 : ∀ l, xpr 181 6 l = l := xpr_no (by decide +kernel)
theorem r_181_7 : xfetch 181 7 = some (.if_icmp .eq 14, 3) := by decide +kernel
theorem n_181_7 : ∀ l, xpr 181 7 l = l := xpr_no (by decide +kernel)
theorem r_181_10 : xfetch 181 10 = some (.iload_n 0, 1) := by decide +kernel
theorem n_181_10 : ∀ l, xpr 181 10 l = l := xpr_no (by decide +kernel)
theorem r_181_11 : xfetch 181 11 = some (.iconst 4, 1) := by decide +kernel
theorem n_181_11 : ∀ l, xpr 181 11 l = l := xpr_no (by decide +kernel)
theorem r_181_12 : xfetch 181 12 = some (.if_icmp .eq 9, 3) := by decide +kernel
theorem n_181_12 : ∀ l, xpr 181 12 l = l := xpr_no (by decide +kernel)
theorem r_181_15 : xfetch 181 15 = some (.iload_n 0, 1) := by decide +kernel
theorem n_181_15 : ∀ l, xpr 181 15 l = l := xpr_no (by decide +kernel)
theorem r_181_16 : xfetch 181 16 = some (.bipush 8, 2) := by decide +kernel
theorem n_181_16 : ∀ l, xpr 181 16 l = l := xpr_no (by decide +kernel)
theorem r_181_18 : xfetch 181 18 = some (.if_icmp .ne 7, 3) := by decide +kernel
theorem n_181_18 : ∀ l, xpr 181 18 l = l := xpr_no (by decide +kernel)
theorem r_181_21 : xfetch 181 21 = some (.iconst 1, 1) := by decide +kernel
theorem n_181_21 : ∀ l, xpr 181 21 l = l := xpr_no (by decide +kernel)
theorem r_181_22 : xfetch 181 22 = some (.goto 4, 3) := by decide +kernel
theorem n_181_22 : ∀ l, xpr 181 22 l = l := xpr_no (by decide +kernel)
theorem r_181_25 : xfetch 181 25 = some (.iconst 0, 1) := by decide +kernel
theorem n_181_25 : ∀ l, xpr 181 25 l = l := xpr_no (by decide +kernel)
theorem r_181_26 : xfetch 181 26 = some (.ireturn, 1) := by decide +kernel
theorem n_181_26 : ∀ l, xpr 181 26 l = l := xpr_no (by decide +kernel)
theorem v_Model_isPack_0 {S : Option (Nat × (Nat → Int32))} {s : zSt} {Q : Option Value ⊕ Nat → zSt → Prop} {x0 : Int} 
    (h : rng x0 ∧ ((x0 = 1 → Q (rI 1) s) ∧ (x0 ≠ 1 → (x0 = 2 → Q (rI 1) s) ∧ (x0 ≠ 2 → (x0 = 4 → Q (rI 1) s) ∧ (x0 ≠ 4 → (x0 ≠ 8 → Q (rI 0) s) ∧ (x0 = 8 → Q (rI 1) s)))))) :
    wp S 181 0 [(0, iv x0)] [] s Q := by
  refine i_iload_n (x := x0) r_181_0 (n_181_0 _) rfl ?_
  refine i_iconst r_181_1 (n_181_1 _) ?_
  obtain ⟨g1, h⟩ := h
  refine i_icmp (t := 21) r_181_2 (n_181_2 _) rfl (T_eq g1 ⟨by omega, by omega⟩) (fun c2 => ?_) (fun c2 => ?_)
  · replace h := h.1 c2
    refine i_iconst r_181_21 (n_181_21 _) ?_
    refine i_goto (t := 26) r_181_22 (n_181_22 _) rfl ?_
    exact i_zreturn r_181_26 (n_181_26 _) rfl (by decide) h
  · replace h := h.2 c2
    refine i_iload_n (x := x0) r_181_5 (n_181_5 _) rfl ?_
    refine i_iconst r_181_6 (n_181_6 _) ?_
    refine i_icmp (t := 21) r_181_7 (n_181_7 _) rfl (T_eq g1 ⟨by omega, by omega⟩) (fun c3 => ?_) (fun c3 => ?_)
    · replace h := h.1 c3
      refine i_iconst r_181_21 (n_181_21 _) ?_
      refine i_goto (t := 26) r_181_22 (n_181_22 _) rfl ?_
      exact i_zreturn r_181_26 (n_181_26 _) rfl (by decide) h
    · replace h := h.2 c3
      refine i_iload_n (x := x0) r_181_10 (n_181_10 _) rfl ?_
      refine i_iconst r_181_11 (n_181_11 _) ?_
      refine i_icmp (t := 21) r_181_12 (n_181_12 _) rfl (T_eq g1 ⟨by omega, by omega⟩) (fun c4 => ?_) (fun c4 => ?_)
      · replace h := h.1 c4
        refine i_iconst r_181_21 (n_181_21 _) ?_
        refine i_goto (t := 26) r_181_22 (n_181_22 _) rfl ?_
        exact i_zreturn r_181_26 (n_181_26 _) rfl (by decide) h
      · replace h := h.2 c4
        refine i_iload_n (x := x0) r_181_15 (n_181_15 _) rfl ?_
        refine i_bipush r_181_16 (n_181_16 _) rfl ?_
        refine i_icmp (t := 25) r_181_18 (n_181_18 _) rfl (T_ne g1 ⟨by omega, by omega⟩) (fun c5 => ?_) (fun c5 => ?_)
        · replace h := h.1 c5
          refine i_iconst r_181_25 (n_181_25 _) ?_
          exact i_zreturn r_181_26 (n_181_26 _) rfl (by decide) h
        · replace h := h.2 c5
          refine i_iconst r_181_21 (n_181_21 _) ?_
          refine i_goto (t := 26) r_181_22 (n_181_22 _) rfl ?_
          exact i_zreturn r_181_26 (n_181_26 _) rfl (by decide) h
theorem K_Model_isPack {S : Option (Nat × (Nat → Int32))} {s : zSt} {x0 : Int}  (h1 : rng x0) : wp S 181 0 [(0, iv x0)] [] s (fun o t => o = rI (bi (x0 = 1 ∨ x0 = 2 ∨ x0 = 4 ∨ x0 = 8)) ∧ s = t) := by
  refine wp_W fun hW => ?_
  refine v_Model_isPack_0  ?_
  repeat' (first | assumption | rfl | (intro _) | (refine ⟨?_, ?_⟩) | omega | exact congrArg rI (bi_F (by omega)).symm | exact congrArg rI (bi_T (by omega)).symm)
theorem r_191_0 : xfetch 191 0 = some (.iload_n 2, 1) := by decide +kernel
theorem n_191_0 : ∀ l, xpr 191 0 l = l := xpr_no (by decide +kernel)
theorem r_191_1 : xfetch 191 1 = some (.iconst 0, 1) := by decide +kernel
theorem n_191_1 : ∀ l, xpr 191 1 l = l := xpr_no (by decide +kernel)
theorem r_191_2 : xfetch 191 2 = some (.bipush 7, 2) := by decide +kernel
theorem n_191_2 : ∀ l, xpr 191 2 l = l := xpr_no (by decide +kernel)
theorem r_191_4 : xfetch 191 4 = some (.invokestatic 88, 3) := by decide +kernel
theorem n_191_4 : ∀ l, xpr 191 4 l = l := xpr_no (by decide +kernel)
theorem r_191_7 : xfetch 191 7 = some (.ifCond .ne 34, 3) := by decide +kernel
theorem n_191_7 : ∀ l, xpr 191 7 l = l := xpr_no (by decide +kernel)
theorem r_191_10 : xfetch 191 10 = some (.iload_n 2, 1) := by decide +kernel
theorem n_191_10 : ∀ l, xpr 191 10 l = l := xpr_no (by decide +kernel)
theorem r_191_11 : xfetch 191 11 = some (.invokestatic 109, 3) := by decide +kernel
theorem n_191_11 : ∀ l, xpr 191 11 l = l := xpr_no (by decide +kernel)
theorem r_191_14 : xfetch 191 14 = some (.ifCond .ne 27, 3) := by decide +kernel
theorem n_191_14 : ∀ l, xpr 191 14 l = l := xpr_no (by decide +kernel)
theorem r_191_17 : xfetch 191 17 = some (.iload_n 2, 1) := by decide +kernel
theorem n_191_17 : ∀ l, xpr 191 17 l = l := xpr_no (by decide +kernel)
theorem r_191_18 : xfetch 191 18 = some (.bipush 100, 2) := by decide +kernel
theorem n_191_18 : ∀ l, xpr 191 18 l = l := xpr_no (by decide +kernel)
theorem r_191_20 : xfetch 191 20 = some (.bipush 99, 2) := by decide +kernel
theorem n_191_20 : ∀ l, xpr 191 20 l = l := xpr_no (by decide +kernel)
theorem r_191_22 : xfetch 191 22 = some (.iload_n 1, 1) := by decide +kernel
theorem n_191_22 : ∀ l, xpr 191 22 l = l := xpr_no (by decide +kernel)
theorem r_191_23 : xfetch 191 23 = some (.iadd, 1) := by decide +kernel
theorem n_191_23 : ∀ l, xpr 191 23 l = l := xpr_no (by decide +kernel)
theorem r_191_24 : xfetch 191 24 = some (.invokestatic 88, 3) := by decide +kernel
theorem n_191_24 : ∀ l, xpr 191 24 l = l := xpr_no (by decide +kernel)
theorem r_191_27 : xfetch 191 27 = some (.ifCond .eq 18, 3) := by decide +kernel
theorem n_191_27 : ∀ l, xpr 191 27 l = l := xpr_no (by decide +kernel)
theorem r_191_30 : xfetch 191 30 = some (.aload_n 0, 1) := by decide +kernel
theorem n_191_30 : ∀ l, xpr 191 30 l = l := xpr_no (by decide +kernel)
theorem r_191_31 : xfetch 191 31 = some (.iload_n 2, 1) := by decide +kernel
theorem n_191_31 : ∀ l, xpr 191 31 l = l := xpr_no (by decide +kernel)
theorem r_191_32 : xfetch 191 32 = some (.bipush 100, 2) := by decide +kernel
theorem n_191_32 : ∀ l, xpr 191 32 l = l := xpr_no (by decide +kernel)
theorem r_191_34 : xfetch 191 34 = some (.isub, 1) := by decide +kernel
theorem n_191_34 : ∀ l, xpr 191 34 l = l := xpr_no (by decide +kernel)
theorem r_191_35 : xfetch 191 35 = some (.invokevirtual 99, 3) := by decide +kernel
theorem n_191_35 : ∀ l, xpr 191 35 l = l := xpr_no (by decide +kernel)
theorem r_191_38 : xfetch 191 38 = some (.ifCond .le 7, 3) := by decide +kernel
theorem n_191_38 : ∀ l, xpr 191 38 l = l := xpr_no (by decide +kernel)
theorem r_191_41 : xfetch 191 41 = some (.iconst 1, 1) := by decide +kernel
theorem n_191_41 : ∀ l, xpr 191 41 l = l := xpr_no (by decide +kernel)
theorem r_191_42 : xfetch 191 42 = some (.goto 4, 3) := by decide +kernel
theorem n_191_42 : ∀ l, xpr 191 42 l = l := xpr_no (by decide +kernel)
theorem r_191_45 : xfetch 191 45 = some (.iconst 0, 1) := by decide +kernel
theorem n_191_45 : ∀ l, xpr 191 45 l = l := xpr_no (by decide +kernel)
theorem r_191_46 : xfetch 191 46 = some (.ireturn, 1) := by decide +kernel
theorem n_191_46 : ∀ l, xpr 191 46 l = l := xpr_no (by decide +kernel)
theorem v_Model_isTypeOf_0 {S : Option (Nat × (Nat → Int32))} {s : zSt} {Q : Option Value ⊕ Nat → zSt → Prop} {x1 : Int} {x2 : Int} 
    (h : rng x2 ∧ ((0 ≤ x2 ∧ x2 ≤ 7 → Q (rI 1) s) ∧ (¬ (0 ≤ x2 ∧ x2 ≤ 7) → (21 ≤ x2 ∧ x2 ≤ 36 → Q (rI 1) s) ∧ (¬ (21 ≤ x2 ∧ x2 ≤ 36) → rng (99 + x1) ∧ ((¬ (100 ≤ x2 ∧ x2 ≤ (99 + x1)) → Q (rI 0) s) ∧ (100 ≤ x2 ∧ x2 ≤ (99 + x1) → (0 ≤ ((1 + (26 * (x2 - 100))) + 1) ∧ ((1 + (26 * (x2 - 100))) + 1) < 1199) ∧ (((zI s 253 ((1 + (26 * (x2 - 100))) + 1)) ≤ 0 → Q (rI 0) s) ∧ (0 < (zI s 253 ((1 + (26 * (x2 - 100))) + 1)) → Q (rI 1) s)))))))) :
    wp S 191 0 [(0, rf 252), (1, iv x1), (2, iv x2)] [] s Q := by
  refine i_iload_n (x := x2) r_191_0 (n_191_0 _) rfl ?_
  refine i_iconst r_191_1 (n_191_1 _) ?_
  refine i_bipush r_191_2 (n_191_2 _) rfl ?_
  obtain ⟨g1, h⟩ := h
  refine wp_stat (rest := []) (Ls := [(0, iv x2), (1, iv 0), (2, iv 7)]) r_191_4 (n_191_4 _) rfl ⟨rfl, by decide, by decide, by decide⟩ rfl rfl ⟨rfl, Nat.le_of_ble_eq_true rfl, Nat.le_of_ble_eq_true rfl⟩ rfl (K_Model_within g1 ⟨by omega, by omega⟩ ⟨by omega, by omega⟩) ?_
  rintro _ _ ⟨rfl, rfl⟩
  refine .inl ⟨some (iv (bi (0 ≤ x2 ∧ x2 ≤ 7))), rfl, ?_⟩
  show wp S 191 7 [(0, rf 252), (1, iv x1), (2, iv x2)] [iv (bi (0 ≤ x2 ∧ x2 ≤ 7))] s Q
  refine i_if (t := 41) r_191_7 (n_191_7 _) rfl (TB_ne) (fun c3 => ?_) (fun c3 => ?_)
  · replace h := h.1 c3
    refine i_iconst r_191_41 (n_191_41 _) ?_
    refine i_goto (t := 46) r_191_42 (n_191_42 _) rfl ?_
    exact i_zreturn r_191_46 (n_191_46 _) rfl (by decide) h
  · replace h := h.2 c3
    refine i_iload_n (x := x2) r_191_10 (n_191_10 _) rfl ?_
    refine wp_stat (rest := []) (Ls := [(0, iv x2)]) r_191_11 (n_191_11 _) rfl ⟨rfl, by decide, by decide, by decide⟩ rfl rfl ⟨rfl, Nat.le_of_ble_eq_true rfl, Nat.le_of_ble_eq_true rfl⟩ rfl (K_Model_isBits g1) ?_
    rintro _ _ ⟨rfl, rfl⟩
    refine .inl ⟨some (iv (bi (21 ≤ x2 ∧ x2 ≤ 36))), rfl, ?_⟩
    show wp S 191 14 [(0, rf 252), (1, iv x1), (2, iv x2)] [iv (bi (21 ≤ x2 ∧ x2 ≤ 36))] s Q
    refine i_if (t := 41) r_191_14 (n_191_14 _) rfl (TB_ne) (fun c5 => ?_) (fun c5 => ?_)
    · replace h := h.1 c5
      refine i_iconst r_191_41 (n_191_41 _) ?_
      refine i_goto (t := 46) r_191_42 (n_191_42 _) rfl ?_
      exact i_zreturn r_191_46 (n_191_46 _) rfl (by decide) h
    · replace h := h.2 c5
      refine i_iload_n (x := x2) r_191_17 (n_191_17 _) rfl ?_
      refine i_bipush r_191_18 (n_191_18 _) rfl ?_
      refine i_bipush r_191_20 (n_191_20 _) rfl ?_
      refine i_iload_n (x := x1) r_191_22 (n_191_22 _) rfl ?_
      refine i_iadd r_191_23 (n_191_23 _) ?_
      obtain ⟨g6, h⟩ := h
      refine wp_stat (rest := []) (Ls := [(0, iv x2), (1, iv 100), (2, iv (99 + x1))]) r_191_24 (n_191_24 _) rfl ⟨rfl, by decide, by decide, by decide⟩ rfl rfl ⟨rfl, Nat.le_of_ble_eq_true rfl, Nat.le_of_ble_eq_true rfl⟩ rfl (K_Model_within g1 ⟨by omega, by omega⟩ g6) ?_
      rintro _ _ ⟨rfl, rfl⟩
      refine .inl ⟨some (iv (bi (100 ≤ x2 ∧ x2 ≤ (99 + x1)))), rfl, ?_⟩
      show wp S 191 27 [(0, rf 252), (1, iv x1), (2, iv x2)] [iv (bi (100 ≤ x2 ∧ x2 ≤ (99 + x1)))] s Q
      refine i_if (t := 45) r_191_27 (n_191_27 _) rfl (TB_eq) (fun c8 => ?_) (fun c8 => ?_)
      · replace h := h.1 c8
        refine i_iconst r_191_45 (n_191_45 _) ?_
        exact i_zreturn r_191_46 (n_191_46 _) rfl (by decide) h
      · replace h := h.2 c8
        refine i_aload_n (a := 252) r_191_30 (n_191_30 _) rfl ?_
        refine i_iload_n (x := x2) r_191_31 (n_191_31 _) rfl ?_
        refine i_bipush r_191_32 (n_191_32 _) rfl ?_
        refine i_isub r_191_34 (n_191_34 _) ?_
        obtain ⟨g9, h⟩ := h
        refine wp_virt (b := 252) (rest := []) (Ls := [(0, rf 252), (1, iv (x2 - 100))]) r_191_35 (n_191_35 _) rfl ⟨rfl, rfl, by decide, by decide⟩ rfl rfl lf_252 ⟨rfl, Nat.le_of_ble_eq_true rfl, Nat.le_of_ble_eq_true rfl⟩ rfl (K_Model_fieldsOf g9) ?_
        rintro _ _ ⟨rfl, rfl⟩
        refine .inl ⟨some (iv (zI s 253 ((1 + (26 * (x2 - 100))) + 1))), rfl, ?_⟩
        show wp S 191 38 [(0, rf 252), (1, iv x1), (2, iv x2)] [iv (zI s 253 ((1 + (26 * (x2 - 100))) + 1))] s Q
        refine wp_rd (a := 253) (j := ((1 + (26 * (x2 - 100))) + 1)) (fun q11 => ?_)
        refine i_if (t := 45) r_191_38 (n_191_38 _) rfl (T_le q11 ⟨by omega, by omega⟩) (fun c12 => ?_) (fun c12 => ?_)
        · replace h := h.1 c12
          refine i_iconst r_191_45 (n_191_45 _) ?_
          exact i_zreturn r_191_46 (n_191_46 _) rfl (by decide) h
        · replace h := h.2 c12
          refine i_iconst r_191_41 (n_191_41 _) ?_
          refine i_goto (t := 46) r_191_42 (n_191_42 _) rfl ?_
          exact i_zreturn r_191_46 (n_191_46 _) rfl (by decide) h
theorem K_Model_isTypeOf {S : Option (Nat × (Nat → Int32))} {s : zSt} {x1 : Int} {x2 : Int}  (h1 : rng x2) (h2 : rng (99 + x1)) (h3 : (100 ≤ x2 → x2 ≤ 99 + x1 → x2 < 106)) : wp S 191 0 [(0, rf 252), (1, iv x1), (2, iv x2)] [] s (fun o t => o = rI (bi ((0 ≤ x2 ∧ x2 ≤ 7) ∨ (21 ≤ x2 ∧ x2 ≤ 36) ∨ (100 ≤ x2 ∧ x2 ≤ 99 + x1 ∧ 0 < zI s 253 (1 + 26 * (x2 - 100) + 1)))) ∧ s = t) := by
  refine wp_W fun hW => ?_
  refine v_Model_isTypeOf_0  ?_
  repeat' (first | assumption | rfl | (intro _) | (refine ⟨?_, ?_⟩) | omega | (have z3 := h3 (by omega) (by omega); omega) | exact congrArg rI (bi_F (by omega)).symm | exact congrArg rI (bi_T (by omega)).symm)
theorem r_211_0 : xfetch 211 0 = some (.iload_n 2, 1) := by decide +kernel
theorem n_211_0 : ∀ l, xpr 211 0 l = l := xpr_no (by decide +kernel)
theorem r_211_1 : xfetch 211 1 = some (.iconst 0, 1) := by decide +kernel
theorem n_211_1 : ∀ l, xpr 211 1 l = l := xpr_no (by decide +kernel)
theorem r_211_2 : xfetch 211 2 = some (.aload_n 0, 1) := by decide +kernel
theorem n_211_2 : ∀ l, xpr 211 2 l = l := xpr_no (by decide +kernel)
theorem r_211_3 : xfetch 211 3 = some (.getfield 19, 3) := by decide +kernel
theorem n_211_3 : ∀ l, xpr 211 3 l = l := xpr_no (by decide +kernel)
theorem r_211_6 : xfetch 211 6 = some (.iload_n 1, 1) := by decide +kernel
theorem n_211_6 : ∀ l, xpr 211 6 l = l := xpr_no (by decide +kernel)
theorem r_211_7 : xfetch 211 7 = some (.iaload, 1) := by decide +kernel
theorem n_211_7 : ∀ l, xpr 211 7 l = l := xpr_no (by decide +kernel)
theorem r_211_8 : xfetch 211 8 = some (.iconst 1, 1) := by decide +kernel
theorem n_211_8 : ∀ l, xpr 211 8 l = l := xpr_no (by decide +kernel)
theorem r_211_9 : xfetch 211 9 = some (.isub, 1) := by decide +kernel
theorem n_211_9 : ∀ l, xpr 211 9 l = l := xpr_no (by decide +kernel)
theorem r_211_10 : xfetch 211 10 = some (.invokestatic 88, 3) := by decide +kernel
theorem n_211_10 : ∀ l, xpr 211 10 l = l := xpr_no (by decide +kernel)
theorem r_211_13 : xfetch 211 13 = some (.ireturn, 1) := by decide +kernel
theorem n_211_13 : ∀ l, xpr 211 13 l = l := xpr_no (by decide +kernel)
theorem v_Model_isLeaf_0 {S : Option (Nat × (Nat → Int32))} {s : zSt} {Q : Option Value ⊕ Nat → zSt → Prop} {x1 : Int} {x2 : Int} 
    (h : (0 ≤ x1 ∧ x1 < 6) ∧ (rng x2 ∧ (rng ((zI s 256 x1) - 1) ∧ (Q (rI (bi (0 ≤ x2 ∧ x2 ≤ ((zI s 256 x1) - 1)))) s)))) :
    wp S 211 0 [(0, rf 252), (1, iv x1), (2, iv x2)] [] s Q := by
  refine i_iload_n (x := x2) r_211_0 (n_211_0 _) rfl ?_
  refine i_iconst r_211_1 (n_211_1 _) ?_
  refine i_aload_n (a := 252) r_211_2 (n_211_2 _) rfl ?_
  refine i_getR (a := 252) (b := 256) r_211_3 (n_211_3 _) rfl rfl rfl (by omega) lf_252 (by omega) ?_
  refine i_iload_n (x := x1) r_211_6 (n_211_6 _) rfl ?_
  obtain ⟨g1, h⟩ := h
  refine i_iaload (a := 256) (j := x1) r_211_7 (n_211_7 _) lf_256 ⟨by omega, by omega⟩ (by omega) (by omega) (fun q2 => ?_)
  refine i_iconst r_211_8 (n_211_8 _) ?_
  refine i_isub r_211_9 (n_211_9 _) ?_
  obtain ⟨g3, h⟩ := h
  obtain ⟨g4, h⟩ := h
  refine wp_stat (rest := []) (Ls := [(0, iv x2), (1, iv 0), (2, iv ((zI s 256 x1) - 1))]) r_211_10 (n_211_10 _) rfl ⟨rfl, by decide, by decide, by decide⟩ rfl rfl ⟨rfl, Nat.le_of_ble_eq_true rfl, Nat.le_of_ble_eq_true rfl⟩ rfl (K_Model_within g3 ⟨by omega, by omega⟩ g4) ?_
  rintro _ _ ⟨rfl, rfl⟩
  refine .inl ⟨some (iv (bi (0 ≤ x2 ∧ x2 ≤ ((zI s 256 x1) - 1)))), rfl, ?_⟩
  show wp S 211 13 [(0, rf 252), (1, iv x1), (2, iv x2)] [iv (bi (0 ≤ x2 ∧ x2 ≤ ((zI s 256 x1) - 1)))] s Q
  exact i_zreturn r_211_13 (n_211_13 _) rfl (bi_01 _) h
theorem K_Model_isLeaf {S : Option (Nat × (Nat → Int32))} {s : zSt} {x1 : Int} {x2 : Int}  (h1 : (0 ≤ x1 ∧ x1 < 6)) (h2 : rng x2) (h3 : rng ((zI s 256 x1) - 1)) : wp S 211 0 [(0, rf 252), (1, iv x1), (2, iv x2)] [] s (fun o t => o = rI (bi (0 ≤ x2 ∧ x2 ≤ ((zI s 256 x1) - 1))) ∧ s = t) := by
  refine wp_W fun hW => ?_
  refine v_Model_isLeaf_0  ?_
  exact ⟨h1, h2, h3, rfl, rfl⟩
theorem r_218_0 : xfetch 218 0 = some (.aload_n 0, 1) := by decide +kernel
theorem n_218_0 : ∀ l, xpr 218 0 l = l := xpr_no (by decide +kernel)
theorem r_218_1 : xfetch 218 1 = some (.getfield 46, 3) := by decide +kernel
theorem n_218_1 : ∀ l, xpr 218 1 l = l := xpr_no (by decide +kernel)
theorem r_218_4 : xfetch 218 4 = some (.iload_n 1, 1) := by decide +kernel
theorem n_218_4 : ∀ l, xpr 218 4 l = l := xpr_no (by decide +kernel)
theorem r_218_5 : xfetch 218 5 = some (.iaload, 1) := by decide +kernel
theorem n_218_5 : ∀ l, xpr 218 5 l = l := xpr_no (by decide +kernel)
theorem r_218_6 : xfetch 218 6 = some (.istore_n 3, 1) := by decide +kernel
theorem n_218_6 : ∀ l, xpr 218 6 l = l := xpr_no (by decide +kernel)
theorem r_218_7 : xfetch 218 7 = some (.aload_n 0, 1) := by decide +kernel
theorem n_218_7 : ∀ l, xpr 218 7 l = l := xpr_no (by decide +kernel)
theorem r_218_8 : xfetch 218 8 = some (.getfield 46, 3) := by decide +kernel
theorem n_218_8 : ∀ l, xpr 218 8 l = l := xpr_no (by decide +kernel)
theorem r_218_11 : xfetch 218 11 = some (.iload_n 1, 1) := by decide +kernel
theorem n_218_11 : ∀ l, xpr 218 11 l = l := xpr_no (by decide +kernel)
theorem r_218_12 : xfetch 218 12 = some (.aload_n 0, 1) := by decide +kernel
theorem n_218_12 : ∀ l, xpr 218 12 l = l := xpr_no (by decide +kernel)
theorem r_218_13 : xfetch 218 13 = some (.getfield 46, 3) := by decide +kernel
theorem n_218_13 : ∀ l, xpr 218 13 l = l := xpr_no (by decide +kernel)
theorem r_218_16 : xfetch 218 16 = some (.iload_n 2, 1) := by decide +kernel
theorem n_218_16 : ∀ l, xpr 218 16 l = l := xpr_no (by decide +kernel)
theorem r_218_17 : xfetch 218 17 = some (.iaload, 1) := by decide +kernel
theorem n_218_17 : ∀ l, xpr 218 17 l = l := xpr_no (by decide +kernel)
theorem r_218_18 : xfetch 218 18 = some (.iastore, 1) := by decide +kernel
theorem n_218_18 : ∀ l, xpr 218 18 l = l := xpr_no (by decide +kernel)
theorem r_218_19 : xfetch 218 19 = some (.aload_n 0, 1) := by decide +kernel
theorem n_218_19 : ∀ l, xpr 218 19 l = l := xpr_no (by decide +kernel)
theorem r_218_20 : xfetch 218 20 = some (.getfield 46, 3) := by decide +kernel
theorem n_218_20 : ∀ l, xpr 218 20 l = l := xpr_no (by decide +kernel)
theorem r_218_23 : xfetch 218 23 = some (.iload_n 2, 1) := by decide +kernel
theorem n_218_23 : ∀ l, xpr 218 23 l = l := xpr_no (by decide +kernel)
theorem r_218_24 : xfetch 218 24 = some (.iload_n 3, 1) := by decide +kernel
theorem n_218_24 : ∀ l, xpr 218 24 l = l := xpr_no (by decide +kernel)
theorem r_218_25 : xfetch 218 25 = some (.iastore, 1) := by decide +kernel
theorem n_218_25 : ∀ l, xpr 218 25 l = l := xpr_no (by decide +kernel)
theorem r_218_26 : xfetch 218 26 = some (.return_, 1) := by decide +kernel
theorem n_218_26 : ∀ l, xpr 218 26 l = l := xpr_no (by decide +kernel)
theorem v_Model_swaps_0 {S : Option (Nat × (Nat → Int32))} {s : zSt} {Q : Option Value ⊕ Nat → zSt → Prop} {x1 : Int} {x2 : Int} 
    (h : (0 ≤ x1 ∧ x1 < 8) ∧ ((0 ≤ x2 ∧ x2 < 8) ∧ (Q rU (zwI (zwI s 265 x1 (zI s 265 x2)) 265 x2 (zI s 265 x1))))) :
    wp S 218 0 [(0, rf 252), (1, iv x1), (2, iv x2)] [] s Q := by
  refine i_aload_n (a := 252) r_218_0 (n_218_0 _) rfl ?_
  refine i_getR (a := 252) (b := 265) r_218_1 (n_218_1 _) rfl rfl rfl (by omega) lf_252 (by omega) ?_
  refine i_iload_n (x := x1) r_218_4 (n_218_4 _) rfl ?_
  obtain ⟨g1, h⟩ := h
  refine i_iaload (a := 265) (j := x1) r_218_5 (n_218_5 _) lf_265 ⟨by omega, by omega⟩ (by omega) (by omega) (fun q2 => ?_)
  refine i_istore_n (l' := [(0, rf 252), (1, iv x1), (2, iv x2), (3, iv (zI s 265 x1))]) r_218_6 (n_218_6 _) (by decide) rfl ?_
  refine i_aload_n (a := 252) r_218_7 (n_218_7 _) rfl ?_
  refine i_getR (a := 252) (b := 265) r_218_8 (n_218_8 _) rfl rfl rfl (by omega) lf_252 (by omega) ?_
  refine i_iload_n (x := x1) r_218_11 (n_218_11 _) rfl ?_
  refine i_aload_n (a := 252) r_218_12 (n_218_12 _) rfl ?_
  refine i_getR (a := 252) (b := 265) r_218_13 (n_218_13 _) rfl rfl rfl (by omega) lf_252 (by omega) ?_
  refine i_iload_n (x := x2) r_218_16 (n_218_16 _) rfl ?_
  obtain ⟨g3, h⟩ := h
  refine i_iaload (a := 265) (j := x2) r_218_17 (n_218_17 _) lf_265 ⟨by omega, by omega⟩ (by omega) (by omega) (fun q4 => ?_)
  refine i_iastore (a := 265) (j := x1) (x := zI s 265 x2) r_218_18 (n_218_18 _) lf_265 ⟨by omega, by omega⟩ (by omega) (by omega) q4 ?_
  refine i_aload_n (a := 252) r_218_19 (n_218_19 _) rfl ?_
  refine i_getR (a := 252) (b := 265) r_218_20 (n_218_20 _) rfl rfl rfl (by omega) lf_252 (by omega) ?_
  refine i_iload_n (x := x2) r_218_23 (n_218_23 _) rfl ?_
  refine i_iload_n (x := zI s 265 x1) r_218_24 (n_218_24 _) rfl ?_
  refine i_iastore (a := 265) (j := x2) (x := zI s 265 x1) r_218_25 (n_218_25 _) lf_265 ⟨by omega, by omega⟩ (by omega) (by omega) q2 ?_
  exact i_return r_218_26 (n_218_26 _) rfl h
theorem K_Model_swaps {S : Option (Nat × (Nat → Int32))} {s : zSt} {x1 : Int} {x2 : Int}  (h1 : (0 ≤ x1 ∧ x1 < 8)) (h2 : (0 ≤ x2 ∧ x2 < 8)) : wp S 218 0 [(0, rf 252), (1, iv x1), (2, iv x2)] [] s (fun o t => o = rU ∧ (zwI (zwI s 265 x1 (zI s 265 x2)) 265 x2 (zI s 265 x1)) = t) := by
  refine wp_W fun hW => ?_
  refine v_Model_swaps_0  ?_
  exact ⟨h1, h2, rfl, rfl⟩
theorem r_201_0 : xfetch 201 0 = some (.bipush 40, 2) := by decide +kernel
theorem n_201_0 : ∀ l, xpr 201 0 l = l := xpr_no (by decide +kernel)
theorem r_201_2 : xfetch 201 2 = some (.iload_n 1, 1) := by decide +kernel
theorem n_201_2 : ∀ l, xpr 201 2 l = l := xpr_no (by decide +kernel)
theorem r_201_3 : xfetch 201 3 = some (.imul, 1) := by decide +kernel
theorem n_201_3 : ∀ l, xpr 201 3 l = l := xpr_no (by decide +kernel)
theorem r_201_4 : xfetch 201 4 = some (.aload_n 0, 1) := by decide +kernel
theorem n_201_4 : ∀ l, xpr 201 4 l = l := xpr_no (by decide +kernel)
theorem r_201_5 : xfetch 201 5 = some (.getfield 19, 3) := by decide +kernel
theorem n_201_5 : ∀ l, xpr 201 5 l = l := xpr_no (by decide +kernel)
theorem r_201_8 : xfetch 201 8 = some (.iload_n 1, 1) := by decide +kernel
theorem n_201_8 : ∀ l, xpr 201 8 l = l := xpr_no (by decide +kernel)
theorem r_201_9 : xfetch 201 9 = some (.iaload, 1) := by decide +kernel
theorem n_201_9 : ∀ l, xpr 201 9 l = l := xpr_no (by decide +kernel)
theorem r_201_10 : xfetch 201 10 = some (.iadd, 1) := by decide +kernel
theorem n_201_10 : ∀ l, xpr 201 10 l = l := xpr_no (by decide +kernel)
theorem r_201_11 : xfetch 201 11 = some (.istore_n 3, 1) := by decide +kernel
theorem n_201_11 : ∀ l, xpr 201 11 l = l := xpr_no (by decide +kernel)
theorem r_201_12 : xfetch 201 12 = some (.aload_n 0, 1) := by decide +kernel
theorem n_201_12 : ∀ l, xpr 201 12 l = l := xpr_no (by decide +kernel)
theorem r_201_13 : xfetch 201 13 = some (.getfield 40, 3) := by decide +kernel
theorem n_201_13 : ∀ l, xpr 201 13 l = l := xpr_no (by decide +kernel)
theorem r_201_16 : xfetch 201 16 = some (.bipush 32, 2) := by decide +kernel
theorem n_201_16 : ∀ l, xpr 201 16 l = l := xpr_no (by decide +kernel)
theorem r_201_18 : xfetch 201 18 = some (.iload_n 3, 1) := by decide +kernel
theorem n_201_18 : ∀ l, xpr 201 18 l = l := xpr_no (by decide +kernel)
theorem r_201_19 : xfetch 201 19 = some (.imul, 1) := by decide +kernel
theorem n_201_19 : ∀ l, xpr 201 19 l = l := xpr_no (by decide +kernel)
theorem r_201_20 : xfetch 201 20 = some (.aload_n 0, 1) := by decide +kernel
theorem n_201_20 : ∀ l, xpr 201 20 l = l := xpr_no (by decide +kernel)
theorem r_201_21 : xfetch 201 21 = some (.getfield 43, 3) := by decide +kernel
theorem n_201_21 : ∀ l, xpr 201 21 l = l := xpr_no (by decide +kernel)
theorem r_201_24 : xfetch 201 24 = some (.iload_n 3, 1) := by decide +kernel
theorem n_201_24 : ∀ l, xpr 201 24 l = l := xpr_no (by decide +kernel)
theorem r_201_25 : xfetch 201 25 = some (.iaload, 1) := by decide +kernel
theorem n_201_25 : ∀ l, xpr 201 25 l = l := xpr_no (by decide +kernel)
theorem r_201_26 : xfetch 201 26 = some (.iadd, 1) := by decide +kernel
theorem n_201_26 : ∀ l, xpr 201 26 l = l := xpr_no (by decide +kernel)
theorem r_201_27 : xfetch 201 27 = some (.iload_n 2, 1) := by decide +kernel
theorem n_201_27 : ∀ l, xpr 201 27 l = l := xpr_no (by decide +kernel)
theorem r_201_28 : xfetch 201 28 = some (.iastore, 1) := by decide +kernel
theorem n_201_28 : ∀ l, xpr 201 28 l = l := xpr_no (by decide +kernel)
theorem r_201_29 : xfetch 201 29 = some (.aload_n 0, 1) := by decide +kernel
theorem n_201_29 : ∀ l, xpr 201 29 l = l := xpr_no (by decide +kernel)
theorem r_201_30 : xfetch 201 30 = some (.getfield 43, 3) := by decide +kernel
theorem n_201_30 : ∀ l, xpr 201 30 l = l := xpr_no (by decide +kernel)
theorem r_201_33 : xfetch 201 33 = some (.iload_n 3, 1) := by decide +kernel
theorem n_201_33 : ∀ l, xpr 201 33 l = l := xpr_no (by decide +kernel)
theorem r_201_34 : xfetch 201 34 = some (.dup2, 1) := by decide +kernel
theorem n_201_34 : ∀ l, xpr 201 34 l = l := xpr_no (by decide +kernel)
theorem r_201_35 : xfetch 201 35 = some (.iaload, 1) := by decide +kernel
theorem n_201_35 : ∀ l, xpr 201 35 l = l := xpr_no (by decide +kernel)
theorem r_201_36 : xfetch 201 36 = some (.iconst 1, 1) := by decide +kernel
theorem n_201_36 : ∀ l, xpr 201 36 l = l := xpr_no (by decide +kernel)
theorem r_201_37 : xfetch 201 37 = some (.iadd, 1) := by decide +kernel
theorem n_201_37 : ∀ l, xpr 201 37 l = l := xpr_no (by decide +kernel)
theorem r_201_38 : xfetch 201 38 = some (.iastore, 1) := by decide +kernel
theorem n_201_38 : ∀ l, xpr 201 38 l = l := xpr_no (by decide +kernel)
theorem r_201_39 : xfetch 201 39 = some (.return_, 1) := by decide +kernel
theorem n_201_39 : ∀ l, xpr 201 39 l = l := xpr_no (by decide +kernel)
theorem v_Model_adds_0 {S : Option (Nat × (Nat → Int32))} {s : zSt} {Q : Option Value ⊕ Nat → zSt → Prop} {x1 : Int} {x2 : Int} 
    (h : (0 ≤ x1 ∧ x1 < 6) ∧ ((0 ≤ ((40 * x1) + (zI s 256 x1)) ∧ ((40 * x1) + (zI s 256 x1)) < 240) ∧ ((0 ≤ ((32 * ((40 * x1) + (zI s 256 x1))) + (zI s 264 ((40 * x1) + (zI s 256 x1)))) ∧ ((32 * ((40 * x1) + (zI s 256 x1))) + (zI s 264 ((40 * x1) + (zI s 256 x1)))) < 7680) ∧ (rng x2 ∧ (rng ((zI s 264 ((40 * x1) + (zI s 256 x1))) + 1) ∧ (Q rU (zwI (zwI s 263 ((32 * ((40 * x1) + (zI s 256 x1))) + (zI s 264 ((40 * x1) + (zI s 256 x1)))) x2) 264 ((40 * x1) + (zI s 256 x1)) ((zI s 264 ((40 * x1) + (zI s 256 x1))) + 1)))))))) :
    wp S 201 0 [(0, rf 252), (1, iv x1), (2, iv x2)] [] s Q := by
  refine i_bipush r_201_0 (n_201_0 _) rfl ?_
  refine i_iload_n (x := x1) r_201_2 (n_201_2 _) rfl ?_
  refine i_imul r_201_3 (n_201_3 _) ?_
  refine i_aload_n (a := 252) r_201_4 (n_201_4 _) rfl ?_
  refine i_getR (a := 252) (b := 256) r_201_5 (n_201_5 _) rfl rfl rfl (by omega) lf_252 (by omega) ?_
  refine i_iload_n (x := x1) r_201_8 (n_201_8 _) rfl ?_
  obtain ⟨g1, h⟩ := h
  refine i_iaload (a := 256) (j := x1) r_201_9 (n_201_9 _) lf_256 ⟨by omega, by omega⟩ (by omega) (by omega) (fun q2 => ?_)
  refine i_iadd r_201_10 (n_201_10 _) ?_
  refine i_istore_n (l' := [(0, rf 252), (1, iv x1), (2, iv x2), (3, iv ((40 * x1) + (zI s 256 x1)))]) r_201_11 (n_201_11 _) (by decide) rfl ?_
  refine i_aload_n (a := 252) r_201_12 (n_201_12 _) rfl ?_
  refine i_getR (a := 252) (b := 263) r_201_13 (n_201_13 _) rfl rfl rfl (by omega) lf_252 (by omega) ?_
  refine i_bipush r_201_16 (n_201_16 _) rfl ?_
  refine i_iload_n (x := (40 * x1) + (zI s 256 x1)) r_201_18 (n_201_18 _) rfl ?_
  refine i_imul r_201_19 (n_201_19 _) ?_
  refine i_aload_n (a := 252) r_201_20 (n_201_20 _) rfl ?_
  refine i_getR (a := 252) (b := 264) r_201_21 (n_201_21 _) rfl rfl rfl (by omega) lf_252 (by omega) ?_
  refine i_iload_n (x := (40 * x1) + (zI s 256 x1)) r_201_24 (n_201_24 _) rfl ?_
  obtain ⟨g3, h⟩ := h
  refine i_iaload (a := 264) (j := (40 * x1) + (zI s 256 x1)) r_201_25 (n_201_25 _) lf_264 ⟨by omega, by omega⟩ (by omega) (by omega) (fun q4 => ?_)
  refine i_iadd r_201_26 (n_201_26 _) ?_
  refine i_iload_n (x := x2) r_201_27 (n_201_27 _) rfl ?_
  obtain ⟨g5, h⟩ := h
  obtain ⟨g6, h⟩ := h
  refine i_iastore (a := 263) (j := (32 * ((40 * x1) + (zI s 256 x1))) + (zI s 264 ((40 * x1) + (zI s 256 x1)))) (x := x2) r_201_28 (n_201_28 _) lf_263 ⟨by omega, by omega⟩ (by omega) (by omega) g6 ?_
  refine i_aload_n (a := 252) r_201_29 (n_201_29 _) rfl ?_
  refine i_getR (a := 252) (b := 264) r_201_30 (n_201_30 _) rfl rfl rfl (by omega) lf_252 (by omega) ?_
  refine i_iload_n (x := (40 * x1) + (zI s 256 x1)) r_201_33 (n_201_33 _) rfl ?_
  refine i_dup2 r_201_34 (n_201_34 _) rfl rfl ?_
  refine i_iaload (a := 264) (j := (40 * x1) + (zI s 256 x1)) r_201_35 (n_201_35 _) lf_264 ⟨by omega, by omega⟩ (by omega) (by omega) (fun q7 => ?_)
  have e8 : zI (zwI s 263 ((32 * ((40 * x1) + (zI s 256 x1))) + (zI s 264 ((40 * x1) + (zI s 256 x1)))) x2) 264 ((40 * x1) + (zI s 256 x1)) = zI s 264 ((40 * x1) + (zI s 256 x1)) := zI_ne (by omega)
  rw [e8] at q7 ⊢
  refine i_iconst r_201_36 (n_201_36 _) ?_
  refine i_iadd r_201_37 (n_201_37 _) ?_
  obtain ⟨g9, h⟩ := h
  refine i_iastore (a := 264) (j := (40 * x1) + (zI s 256 x1)) (x := (zI s 264 ((40 * x1) + (zI s 256 x1))) + 1) r_201_38 (n_201_38 _) lf_264 ⟨by omega, by omega⟩ (by omega) (by omega) g9 ?_
  exact i_return r_201_39 (n_201_39 _) rfl h
theorem K_Model_adds {S : Option (Nat × (Nat → Int32))} {s : zSt} {x1 : Int} {x2 : Int}  (h1 : (0 ≤ x1 ∧ x1 < 6)) (h2 : (0 ≤ ((40 * x1) + (zI s 256 x1)) ∧ ((40 * x1) + (zI s 256 x1)) < 240)) (h3 : (0 ≤ ((32 * ((40 * x1) + (zI s 256 x1))) + (zI s 264 ((40 * x1) + (zI s 256 x1)))) ∧ ((32 * ((40 * x1) + (zI s 256 x1))) + (zI s 264 ((40 * x1) + (zI s 256 x1)))) < 7680)) (h4 : rng x2) (h5 : rng ((zI s 264 ((40 * x1) + (zI s 256 x1))) + 1)) : wp S 201 0 [(0, rf 252), (1, iv x1), (2, iv x2)] [] s (fun o t => o = rU ∧ (zwI (zwI s 263 ((32 * ((40 * x1) + (zI s 256 x1))) + (zI s 264 ((40 * x1) + (zI s 256 x1)))) x2) 264 ((40 * x1) + (zI s 256 x1)) ((zI s 264 ((40 * x1) + (zI s 256 x1))) + 1)) = t) := by
  refine wp_W fun hW => ?_
  refine v_Model_adds_0  ?_
  exact ⟨h1, h2, h3, h4, h5, rfl, rfl⟩
theorem r_275_0 : xfetch 275 0 = some (.aload_n 0, 1) := by decide +kernel
theorem n_275_0 : ∀ l, xpr 275 0 l = l := xpr_no (by decide +kernel)
theorem r_275_1 : xfetch 275 1 = some (.ldc2_w 300, 3) := by decide +kernel
theorem n_275_1 : ∀ l, xpr 275 1 l = l := xpr_no (by decide +kernel)
theorem r_275_4 : xfetch 275 4 = some (.aload_n 0, 1) := by decide +kernel
theorem n_275_4 : ∀ l, xpr 275 4 l = l := xpr_no (by decide +kernel)
theorem r_275_5 : xfetch 275 5 = some (.getfield 302, 3) := by decide +kernel
theorem n_275_5 : ∀ l, xpr 275 5 l = l := xpr_no (by decide +kernel)
theorem r_275_8 : xfetch 275 8 = some (.lmul, 1) := by decide +kernel
theorem n_275_8 : ∀ l, xpr 275 8 l = l := xpr_no (by decide +kernel)
theorem r_275_9 : xfetch 275 9 = some (.lload_n 1, 1) := by decide +kernel
theorem n_275_9 : ∀ l, xpr 275 9 l = l := xpr_no (by decide +kernel)
theorem r_275_10 : xfetch 275 10 = some (.ladd, 1) := by decide +kernel
theorem n_275_10 : ∀ l, xpr 275 10 l = l := xpr_no (by decide +kernel)
theorem r_275_11 : xfetch 275 11 = some (.putfield 302, 3) := by decide +kernel
theorem n_275_11 : ∀ l, xpr 275 11 l = l := xpr_no (by decide +kernel)
theorem r_275_14 : xfetch 275 14 = some (.return_, 1) := by decide +kernel
theorem n_275_14 : ∀ l, xpr 275 14 l = l := xpr_no (by decide +kernel)
theorem v_Model_mix_0 {S : Option (Nat × (Nat → Int32))} {s : zSt} {Q : Option Value ⊕ Nat → zSt → Prop} {u1 : Int64} 
    (h : Q rU (zwL s 252 29 ((31 * (zL s 252 29)) + u1))) :
    wp S 275 0 [(0, rf 252), (1, .long u1)] [] s Q := by
  refine i_aload_n (a := 252) r_275_0 (n_275_0 _) rfl ?_
  refine i_ldc2 r_275_1 (n_275_1 _) rfl ?_
  refine i_aload_n (a := 252) r_275_4 (n_275_4 _) rfl ?_
  refine i_getL (a := 252) r_275_5 (n_275_5 _) rfl rfl lf_252 ?_
  refine i_lmul r_275_8 (n_275_8 _) ?_
  refine i_lload_n (u := u1) r_275_9 (n_275_9 _) rfl ?_
  refine i_ladd r_275_10 (n_275_10 _) ?_
  refine i_putL (a := 252) r_275_11 (n_275_11 _) rfl rfl rfl lf_252 ?_
  exact i_return r_275_14 (n_275_14 _) rfl h
theorem K_Model_mix {S : Option (Nat × (Nat → Int32))} {s : zSt} {u1 : Int64}   : wp S 275 0 [(0, rf 252), (1, .long u1)] [] s (fun o t => o = rU ∧ (zwL s 252 29 ((31 * (zL s 252 29)) + u1)) = t) := by
  refine wp_W fun hW => ?_
  refine v_Model_mix_0  ?_
  exact ⟨rfl, rfl⟩
theorem r_177_0 : xfetch 177 0 = some (.aload_n 0, 1) := by decide +kernel
theorem n_177_0 : ∀ l, xpr 177 0 l = l := xpr_no (by decide +kernel)
theorem r_177_1 : xfetch 177 1 = some (.getfield 77, 3) := by decide +kernel
theorem n_177_1 : ∀ l, xpr 177 1 l = l := xpr_no (by decide +kernel)
theorem r_177_4 : xfetch 177 4 = some (.ireturn, 1) := by decide +kernel
theorem n_177_4 : ∀ l, xpr 177 4 l = l := xpr_no (by decide +kernel)
theorem v_Model_thrown_0 {S : Option (Nat × (Nat → Int32))} {s : zSt} {Q : Option Value ⊕ Nat → zSt → Prop}  
    (h : Q (rI (zI s 252 3)) s) :
    wp S 177 0 [(0, rf 252)] [] s Q := by
  refine i_aload_n (a := 252) r_177_0 (n_177_0 _) rfl ?_
  refine i_getI (a := 252) r_177_1 (n_177_1 _) rfl (by decide) lf_252 (fun q1 => ?_)
  exact i_ireturn r_177_4 (n_177_4 _) rfl h
theorem K_Model_thrown {S : Option (Nat × (Nat → Int32))} {s : zSt}    : wp S 177 0 [(0, rf 252)] [] s (fun o t => o = rI (zI s 252 3) ∧ s = t) := by
  refine wp_W fun hW => ?_
  refine v_Model_thrown_0  ?_
  exact ⟨rfl, rfl⟩
theorem r_225_0 : xfetch 225 0 = some (.iload_n 1, 1) := by decide +kernel
theorem n_225_0 : ∀ l, xpr 225 0 l = l := xpr_no (by decide +kernel)
theorem r_225_1 : xfetch 225 1 = some (.aload_n 0, 1) := by decide +kernel
theorem n_225_1 : ∀ l, xpr 225 1 l = l := xpr_no (by decide +kernel)
theorem r_225_2 : xfetch 225 2 = some (.getfield 179, 3) := by decide +kernel
theorem n_225_2 : ∀ l, xpr 225 2 l = l := xpr_no (by decide +kernel)
theorem r_225_5 : xfetch 225 5 = some (.if_icmp .ge 12, 3) := by decide +kernel
theorem n_225_5 : ∀ l, xpr 225 5 l = l := xpr_no (by decide +kernel)
theorem r_225_8 : xfetch 225 8 = some (.aload_n 0, 1) := by decide +kernel
theorem n_225_8 : ∀ l, xpr 225 8 l = l := xpr_no (by decide +kernel)
theorem r_225_9 : xfetch 225 9 = some (.getfield 16, 3) := by decide +kernel
theorem n_225_9 : ∀ l, xpr 225 9 l = l := xpr_no (by decide +kernel)
theorem r_225_12 : xfetch 225 12 = some (.iload_n 1, 1) := by decide +kernel
theorem n_225_12 : ∀ l, xpr 225 12 l = l := xpr_no (by decide +kernel)
theorem r_225_13 : xfetch 225 13 = some (.iaload, 1) := by decide +kernel
theorem n_225_13 : ∀ l, xpr 225 13 l = l := xpr_no (by decide +kernel)
theorem r_225_14 : xfetch 225 14 = some (.goto 4, 3) := by decide +kernel
theorem n_225_14 : ∀ l, xpr 225 14 l = l := xpr_no (by decide +kernel)
theorem r_225_17 : xfetch 225 17 = some (.iconst (-1), 1) := by decide +kernel
theorem n_225_17 : ∀ l, xpr 225 17 l = l := xpr_no (by decide +kernel)
theorem r_225_18 : xfetch 225 18 = some (.ireturn, 1) := by decide +kernel
theorem n_225_18 : ∀ l, xpr 225 18 l = l := xpr_no (by decide +kernel)
theorem v_Model_letter_0 {S : Option (Nat × (Nat → Int32))} {s : zSt} {Q : Option Value ⊕ Nat → zSt → Prop} {x1 : Int} 
    (h : rng x1 ∧ (((zI s 252 5) ≤ x1 → Q (rI (-1)) s) ∧ (x1 < (zI s 252 5) → (0 ≤ x1 ∧ x1 < 80) ∧ (Q (rI (zI s 255 x1)) s)))) :
    wp S 225 0 [(0, rf 252), (1, iv x1)] [] s Q := by
  refine i_iload_n (x := x1) r_225_0 (n_225_0 _) rfl ?_
  refine i_aload_n (a := 252) r_225_1 (n_225_1 _) rfl ?_
  refine i_getI (a := 252) r_225_2 (n_225_2 _) rfl (by decide) lf_252 (fun q1 => ?_)
  obtain ⟨g2, h⟩ := h
  refine i_icmp (t := 17) r_225_5 (n_225_5 _) rfl (T_ge g2 q1) (fun c3 => ?_) (fun c3 => ?_)
  · replace h := h.1 c3
    refine i_iconst r_225_17 (n_225_17 _) ?_
    exact i_ireturn r_225_18 (n_225_18 _) rfl h
  · replace h := h.2 c3
    refine i_aload_n (a := 252) r_225_8 (n_225_8 _) rfl ?_
    refine i_getR (a := 252) (b := 255) r_225_9 (n_225_9 _) rfl rfl rfl (by omega) lf_252 (by omega) ?_
    refine i_iload_n (x := x1) r_225_12 (n_225_12 _) rfl ?_
    obtain ⟨g4, h⟩ := h
    refine i_iaload (a := 255) (j := x1) r_225_13 (n_225_13 _) lf_255 ⟨by omega, by omega⟩ (by omega) (by omega) (fun q5 => ?_)
    refine i_goto (t := 18) r_225_14 (n_225_14 _) rfl ?_
    exact i_ireturn r_225_18 (n_225_18 _) rfl h
theorem K_Model_letter {S : Option (Nat × (Nat → Int32))} {s : zSt} {x1 : Int}  (h1 : rng x1) (h2 : (x1 < zI s 252 5 → 0 ≤ x1 ∧ x1 < 80)) : wp S 225 0 [(0, rf 252), (1, iv x1)] [] s (fun o t => o = rI (zlt x1 (zI s 252 5) (zI s 255 x1)) ∧ s = t) := by
  refine wp_W fun hW => ?_
  refine v_Model_letter_0  ?_
  refine ⟨h1, fun z => ⟨congrArg rI ?_, rfl⟩, fun z => ⟨h2 z, congrArg rI ?_, rfl⟩⟩
  · unfold zlt; rw [if_neg (by omega)]
  · unfold zlt; rw [if_pos z]
theorem r_227_0 : xfetch 227 0 = some (.aload_n 0, 1) := by decide +kernel
theorem n_227_0 : ∀ l, xpr 227 0 l = l := xpr_no (by decide +kernel)
theorem r_227_1 : xfetch 227 1 = some (.iload_n 1, 1) := by decide +kernel
theorem n_227_1 : ∀ l, xpr 227 1 l = l := xpr_no (by decide +kernel)
theorem r_227_2 : xfetch 227 2 = some (.putfield 191, 3) := by decide +kernel
theorem n_227_2 : ∀ l, xpr 227 2 l = l := xpr_no (by decide +kernel)
theorem r_227_5 : xfetch 227 5 = some (.aload_n 0, 1) := by decide +kernel
theorem n_227_5 : ∀ l, xpr 227 5 l = l := xpr_no (by decide +kernel)
theorem r_227_6 : xfetch 227 6 = some (.iload_n 2, 1) := by decide +kernel
theorem n_227_6 : ∀ l, xpr 227 6 l = l := xpr_no (by decide +kernel)
theorem r_227_7 : xfetch 227 7 = some (.putfield 194, 3) := by decide +kernel
theorem n_227_7 : ∀ l, xpr 227 7 l = l := xpr_no (by decide +kernel)
theorem r_227_10 : xfetch 227 10 = some (.iconst (-1), 1) := by decide +kernel
theorem n_227_10 : ∀ l, xpr 227 10 l = l := xpr_no (by decide +kernel)
theorem r_227_11 : xfetch 227 11 = some (.ireturn, 1) := by decide +kernel
theorem n_227_11 : ∀ l, xpr 227 11 l = l := xpr_no (by decide +kernel)
theorem v_Model_plain_0 {S : Option (Nat × (Nat → Int32))} {s : zSt} {Q : Option Value ⊕ Nat → zSt → Prop} {x1 : Int} {x2 : Int} 
    (h : rng x1 ∧ (rng x2 ∧ (Q (rI (-1)) (zwI (zwI s 252 19 x1) 252 20 x2)))) :
    wp S 227 0 [(0, rf 252), (1, iv x1), (2, iv x2)] [] s Q := by
  refine i_aload_n (a := 252) r_227_0 (n_227_0 _) rfl ?_
  refine i_iload_n (x := x1) r_227_1 (n_227_1 _) rfl ?_
  obtain ⟨g1, h⟩ := h
  refine i_putI (a := 252) (x := x1) r_227_2 (n_227_2 _) rfl (.inl rfl) rfl lf_252 g1 ?_
  refine i_aload_n (a := 252) r_227_5 (n_227_5 _) rfl ?_
  refine i_iload_n (x := x2) r_227_6 (n_227_6 _) rfl ?_
  obtain ⟨g2, h⟩ := h
  refine i_putI (a := 252) (x := x2) r_227_7 (n_227_7 _) rfl (.inl rfl) rfl lf_252 g2 ?_
  refine i_iconst r_227_10 (n_227_10 _) ?_
  exact i_ireturn r_227_11 (n_227_11 _) rfl h
theorem K_Model_plain {S : Option (Nat × (Nat → Int32))} {s : zSt} {x1 : Int} {x2 : Int}  (h1 : rng x1) (h2 : rng x2) : wp S 227 0 [(0, rf 252), (1, iv x1), (2, iv x2)] [] s (fun o t => o = rI (-1) ∧ (zwI (zwI s 252 19 x1) 252 20 x2) = t) := by
  refine wp_W fun hW => ?_
  refine v_Model_plain_0  ?_
  exact ⟨h1, h2, rfl, rfl⟩
theorem r_229_0 : xfetch 229 0 = some (.iload_n 1, 1) := by decide +kernel
theorem n_229_0 : ∀ l, xpr 229 0 l = l := xpr_no (by decide +kernel)
theorem r_229_1 : xfetch 229 1 = some (.iconst 0, 1) := by decide +kernel
theorem n_229_1 : ∀ l, xpr 229 1 l = l := xpr_no (by decide +kernel)
theorem r_229_2 : xfetch 229 2 = some (.iconst 2, 1) := by decide +kernel
theorem n_229_2 : ∀ l, xpr 229 2 l = l := xpr_no (by decide +kernel)
theorem r_229_3 : xfetch 229 3 = some (.invokestatic 88, 3) := by decide +kernel
theorem n_229_3 : ∀ l, xpr 229 3 l = l := xpr_no (by decide +kernel)
theorem r_229_6 : xfetch 229 6 = some (.ifCond .eq 24, 3) := by decide +kernel
theorem n_229_6 : ∀ l, xpr 229 6 l = l := xpr_no (by decide +kernel)
theorem r_229_9 : xfetch 229 9 = some (.aload_n 0, 1) := by decide +kernel
theorem n_229_9 : ∀ l, xpr 229 9 l = l := xpr_no (by decide +kernel)
theorem r_229_10 : xfetch 229 10 = some (.getfield 7, 3) := by decide +kernel
theorem n_229_10 : ∀ l, xpr 229 10 l = l := xpr_no (by decide +kernel)
theorem r_229_13 : xfetch 229 13 = some (.sipush 157, 3) := by decide +kernel
theorem n_229_13 : ∀ l, xpr 229 13 l = l := xpr_no (by decide +kernel)
theorem r_229_16 : xfetch 229 16 = some (.bipush 6, 2) := by decide +kernel
theorem n_229_16 : ∀ l, xpr 229 16 l = l := xpr_no (by decide +kernel)
theorem r_229_18 : xfetch 229 18 = some (.iload_n 1, 1) := by decide +kernel
theorem n_229_18 : ∀ l, xpr 229 18 l = l := xpr_no (by decide +kernel)
theorem r_229_19 : xfetch 229 19 = some (.imul, 1) := by decide +kernel
theorem n_229_19 : ∀ l, xpr 229 19 l = l := xpr_no (by decide +kernel)
theorem r_229_20 : xfetch 229 20 = some (.iadd, 1) := by decide +kernel
theorem n_229_20 : ∀ l, xpr 229 20 l = l := xpr_no (by decide +kernel)
theorem r_229_21 : xfetch 229 21 = some (.iaload, 1) := by decide +kernel
theorem n_229_21 : ∀ l, xpr 229 21 l = l := xpr_no (by decide +kernel)
theorem r_229_22 : xfetch 229 22 = some (.iconst (-1), 1) := by decide +kernel
theorem n_229_22 : ∀ l, xpr 229 22 l = l := xpr_no (by decide +kernel)
theorem r_229_23 : xfetch 229 23 = some (.if_icmp .eq 7, 3) := by decide +kernel
theorem n_229_23 : ∀ l, xpr 229 23 l = l := xpr_no (by decide +kernel)
theorem r_229_26 : xfetch 229 26 = some (.iconst 1, 1) := by decide +kernel
theorem n_229_26 : ∀ l, xpr 229 26 l = l := xpr_no (by decide +kernel)
theorem r_229_27 : xfetch 229 27 = some (.goto 4, 3) := by decide +kernel
theorem n_229_27 : ∀ l, xpr 229 27 l = l := xpr_no (by decide +kernel)
theorem r_229_30 : xfetch 229 30 = some (.iconst 0, 1) := by decide +kernel
theorem n_229_30 : ∀ l, xpr 229 30 l = l := xpr_no (by decide +kernel)
theorem r_229_31 : xfetch 229 31 = some (.ireturn, 1) := by decide +kernel
theorem n_229_31 : ∀ l, xpr 229 31 l = l := xpr_no (by decide +kernel)
theorem v_Model_isTable_0 {S : Option (Nat × (Nat → Int32))} {s : zSt} {Q : Option Value ⊕ Nat → zSt → Prop} {x1 : Int} 
    (h : rng x1 ∧ ((¬ (0 ≤ x1 ∧ x1 ≤ 2) → Q (rI 0) s) ∧ (0 ≤ x1 ∧ x1 ≤ 2 → (0 ≤ (157 + (6 * x1)) ∧ (157 + (6 * x1)) < 1199) ∧ (((zI s 253 (157 + (6 * x1))) = (-1) → Q (rI 0) s) ∧ ((zI s 253 (157 + (6 * x1))) ≠ (-1) → Q (rI 1) s))))) :
    wp S 229 0 [(0, rf 252), (1, iv x1)] [] s Q := by
  refine i_iload_n (x := x1) r_229_0 (n_229_0 _) rfl ?_
  refine i_iconst r_229_1 (n_229_1 _) ?_
  refine i_iconst r_229_2 (n_229_2 _) ?_
  obtain ⟨g1, h⟩ := h
  refine wp_stat (rest := []) (Ls := [(0, iv x1), (1, iv 0), (2, iv 2)]) r_229_3 (n_229_3 _) rfl ⟨rfl, by decide, by decide, by decide⟩ rfl rfl ⟨rfl, Nat.le_of_ble_eq_true rfl, Nat.le_of_ble_eq_true rfl⟩ rfl (K_Model_within g1 ⟨by omega, by omega⟩ ⟨by omega, by omega⟩) ?_
  rintro _ _ ⟨rfl, rfl⟩
  refine .inl ⟨some (iv (bi (0 ≤ x1 ∧ x1 ≤ 2))), rfl, ?_⟩
  show wp S 229 6 [(0, rf 252), (1, iv x1)] [iv (bi (0 ≤ x1 ∧ x1 ≤ 2))] s Q
  refine i_if (t := 30) r_229_6 (n_229_6 _) rfl (TB_eq) (fun c3 => ?_) (fun c3 => ?_)
  · replace h := h.1 c3
    refine i_iconst r_229_30 (n_229_30 _) ?_
    exact i_zreturn r_229_31 (n_229_31 _) rfl (by decide) h
  · replace h := h.2 c3
    refine i_aload_n (a := 252) r_229_9 (n_229_9 _) rfl ?_
    refine i_getR (a := 252) (b := 253) r_229_10 (n_229_10 _) rfl rfl rfl (by omega) lf_252 (by omega) ?_
    refine i_sipush r_229_13 (n_229_13 _) rfl ?_
    refine i_bipush r_229_16 (n_229_16 _) rfl ?_
    refine i_iload_n (x := x1) r_229_18 (n_229_18 _) rfl ?_
    refine i_imul r_229_19 (n_229_19 _) ?_
    refine i_iadd r_229_20 (n_229_20 _) ?_
    obtain ⟨g4, h⟩ := h
    refine i_iaload (a := 253) (j := 157 + (6 * x1)) r_229_21 (n_229_21 _) lf_253 ⟨by omega, by omega⟩ (by omega) (by omega) (fun q5 => ?_)
    refine i_iconst r_229_22 (n_229_22 _) ?_
    refine i_icmp (t := 30) r_229_23 (n_229_23 _) rfl (T_eq q5 ⟨by omega, by omega⟩) (fun c6 => ?_) (fun c6 => ?_)
    · replace h := h.1 c6
      refine i_iconst r_229_30 (n_229_30 _) ?_
      exact i_zreturn r_229_31 (n_229_31 _) rfl (by decide) h
    · replace h := h.2 c6
      refine i_iconst r_229_26 (n_229_26 _) ?_
      refine i_goto (t := 31) r_229_27 (n_229_27 _) rfl ?_
      exact i_zreturn r_229_31 (n_229_31 _) rfl (by decide) h
theorem K_Model_isTable {S : Option (Nat × (Nat → Int32))} {s : zSt} {x1 : Int}  (h1 : rng x1) : wp S 229 0 [(0, rf 252), (1, iv x1)] [] s (fun o t => o = rI (bi (0 ≤ x1 ∧ x1 ≤ 2 ∧ zI s 253 (157 + 6 * x1) ≠ -1)) ∧ s = t) := by
  refine wp_W fun hW => ?_
  refine v_Model_isTable_0  ?_
  repeat' (first | assumption | rfl | (intro _) | (refine ⟨?_, ?_⟩) | omega | exact congrArg rI (bi_F (by omega)).symm | exact congrArg rI (bi_T (by omega)).symm)
theorem r_236_0 : xfetch 236 0 = some (.aload_n 0, 1) := by decide +kernel
theorem n_236_0 : ∀ l, xpr 236 0 l = l := xpr_no (by decide +kernel)
theorem r_236_1 : xfetch 236 1 = some (.getfield 7, 3) := by decide +kernel
theorem n_236_1 : ∀ l, xpr 236 1 l = l := xpr_no (by decide +kernel)
theorem r_236_4 : xfetch 236 4 = some (.sipush 157, 3) := by decide +kernel
theorem n_236_4 : ∀ l, xpr 236 4 l = l := xpr_no (by decide +kernel)
theorem r_236_7 : xfetch 236 7 = some (.bipush 6, 2) := by decide +kernel
theorem n_236_7 : ∀ l, xpr 236 7 l = l := xpr_no (by decide +kernel)
theorem r_236_9 : xfetch 236 9 = some (.iload_n 1, 1) := by decide +kernel
theorem n_236_9 : ∀ l, xpr 236 9 l = l := xpr_no (by decide +kernel)
theorem r_236_10 : xfetch 236 10 = some (.imul, 1) := by decide +kernel
theorem n_236_10 : ∀ l, xpr 236 10 l = l := xpr_no (by decide +kernel)
theorem r_236_11 : xfetch 236 11 = some (.iadd, 1) := by decide +kernel
theorem n_236_11 : ∀ l, xpr 236 11 l = l := xpr_no (by decide +kernel)
theorem r_236_12 : xfetch 236 12 = some (.iload_n 2, 1) := by decide +kernel
theorem n_236_12 : ∀ l, xpr 236 12 l = l := xpr_no (by decide +kernel)
theorem r_236_13 : xfetch 236 13 = some (.iadd, 1) := by decide +kernel
theorem n_236_13 : ∀ l, xpr 236 13 l = l := xpr_no (by decide +kernel)
theorem r_236_14 : xfetch 236 14 = some (.iaload, 1) := by decide +kernel
theorem n_236_14 : ∀ l, xpr 236 14 l = l := xpr_no (by decide +kernel)
theorem r_236_15 : xfetch 236 15 = some (.ireturn, 1) := by decide +kernel
theorem n_236_15 : ∀ l, xpr 236 15 l = l := xpr_no (by decide +kernel)
theorem v_Model_of_0 {S : Option (Nat × (Nat → Int32))} {s : zSt} {Q : Option Value ⊕ Nat → zSt → Prop} {x1 : Int} {x2 : Int} 
    (h : (0 ≤ ((157 + (6 * x1)) + x2) ∧ ((157 + (6 * x1)) + x2) < 1199) ∧ (Q (rI (zI s 253 ((157 + (6 * x1)) + x2))) s)) :
    wp S 236 0 [(0, rf 252), (1, iv x1), (2, iv x2)] [] s Q := by
  refine i_aload_n (a := 252) r_236_0 (n_236_0 _) rfl ?_
  refine i_getR (a := 252) (b := 253) r_236_1 (n_236_1 _) rfl rfl rfl (by omega) lf_252 (by omega) ?_
  refine i_sipush r_236_4 (n_236_4 _) rfl ?_
  refine i_bipush r_236_7 (n_236_7 _) rfl ?_
  refine i_iload_n (x := x1) r_236_9 (n_236_9 _) rfl ?_
  refine i_imul r_236_10 (n_236_10 _) ?_
  refine i_iadd r_236_11 (n_236_11 _) ?_
  refine i_iload_n (x := x2) r_236_12 (n_236_12 _) rfl ?_
  refine i_iadd r_236_13 (n_236_13 _) ?_
  obtain ⟨g1, h⟩ := h
  refine i_iaload (a := 253) (j := (157 + (6 * x1)) + x2) r_236_14 (n_236_14 _) lf_253 ⟨by omega, by omega⟩ (by omega) (by omega) (fun q2 => ?_)
  exact i_ireturn r_236_15 (n_236_15 _) rfl h
theorem K_Model_of {S : Option (Nat × (Nat → Int32))} {s : zSt} {x1 : Int} {x2 : Int}  (h1 : (0 ≤ ((157 + (6 * x1)) + x2) ∧ ((157 + (6 * x1)) + x2) < 1199)) : wp S 236 0 [(0, rf 252), (1, iv x1), (2, iv x2)] [] s (fun o t => o = rI (zI s 253 ((157 + (6 * x1)) + x2)) ∧ s = t) := by
  refine wp_W fun hW => ?_
  refine v_Model_of_0  ?_
  exact ⟨h1, rfl, rfl⟩
theorem r_244_0 : xfetch 244 0 = some (.iload_n 2, 1) := by decide +kernel
theorem n_244_0 : ∀ l, xpr 244 0 l = l := xpr_no (by decide +kernel)
theorem r_244_1 : xfetch 244 1 = some (.iconst 0, 1) := by decide +kernel
theorem n_244_1 : ∀ l, xpr 244 1 l = l := xpr_no (by decide +kernel)
theorem r_244_2 : xfetch 244 2 = some (.aload_n 0, 1) := by decide +kernel
theorem n_244_2 : ∀ l, xpr 244 2 l = l := xpr_no (by decide +kernel)
theorem r_244_3 : xfetch 244 3 = some (.iload_n 1, 1) := by decide +kernel
theorem n_244_3 : ∀ l, xpr 244 3 l = l := xpr_no (by decide +kernel)
theorem r_244_4 : xfetch 244 4 = some (.iconst 1, 1) := by decide +kernel
theorem n_244_4 : ∀ l, xpr 244 4 l = l := xpr_no (by decide +kernel)
theorem r_244_5 : xfetch 244 5 = some (.invokevirtual 228, 3) := by decide +kernel
theorem n_244_5 : ∀ l, xpr 244 5 l = l := xpr_no (by decide +kernel)
theorem r_244_8 : xfetch 244 8 = some (.iconst 1, 1) := by decide +kernel
theorem n_244_8 : ∀ l, xpr 244 8 l = l := xpr_no (by decide +kernel)
theorem r_244_9 : xfetch 244 9 = some (.isub, 1) := by decide +kernel
theorem n_244_9 : ∀ l, xpr 244 9 l = l := xpr_no (by decide +kernel)
theorem r_244_10 : xfetch 244 10 = some (.invokestatic 88, 3) := by decide +kernel
theorem n_244_10 : ∀ l, xpr 244 10 l = l := xpr_no (by decide +kernel)
theorem r_244_13 : xfetch 244 13 = some (.ireturn, 1) := by decide +kernel
theorem n_244_13 : ∀ l, xpr 244 13 l = l := xpr_no (by decide +kernel)
theorem v_Model_isRow_0 {S : Option (Nat × (Nat → Int32))} {s : zSt} {Q : Option Value ⊕ Nat → zSt → Prop} {x1 : Int} {x2 : Int} 
    (h : (0 ≤ ((157 + (6 * x1)) + 1) ∧ ((157 + (6 * x1)) + 1) < 1199) ∧ (rng x2 ∧ (rng ((zI s 253 ((157 + (6 * x1)) + 1)) - 1) ∧ (Q (rI (bi (0 ≤ x2 ∧ x2 ≤ ((zI s 253 ((157 + (6 * x1)) + 1)) - 1)))) s)))) :
    wp S 244 0 [(0, rf 252), (1, iv x1), (2, iv x2)] [] s Q := by
  refine i_iload_n (x := x2) r_244_0 (n_244_0 _) rfl ?_
  refine i_iconst r_244_1 (n_244_1 _) ?_
  refine i_aload_n (a := 252) r_244_2 (n_244_2 _) rfl ?_
  refine i_iload_n (x := x1) r_244_3 (n_244_3 _) rfl ?_
  refine i_iconst r_244_4 (n_244_4 _) ?_
  obtain ⟨g1, h⟩ := h
  refine wp_virt (b := 252) (rest := [iv 0, iv x2]) (Ls := [(0, rf 252), (1, iv x1), (2, iv 1)]) r_244_5 (n_244_5 _) rfl ⟨rfl, rfl, by decide, by decide⟩ rfl rfl lf_252 ⟨rfl, Nat.le_of_ble_eq_true rfl, Nat.le_of_ble_eq_true rfl⟩ rfl (K_Model_of g1) ?_
  rintro _ _ ⟨rfl, rfl⟩
  refine .inl ⟨some (iv (zI s 253 ((157 + (6 * x1)) + 1))), rfl, ?_⟩
  show wp S 244 8 [(0, rf 252), (1, iv x1), (2, iv x2)] [iv (zI s 253 ((157 + (6 * x1)) + 1)), iv 0, iv x2] s Q
  refine wp_rd (a := 253) (j := ((157 + (6 * x1)) + 1)) (fun q3 => ?_)
  refine i_iconst r_244_8 (n_244_8 _) ?_
  refine i_isub r_244_9 (n_244_9 _) ?_
  obtain ⟨g4, h⟩ := h
  obtain ⟨g5, h⟩ := h
  refine wp_stat (rest := []) (Ls := [(0, iv x2), (1, iv 0), (2, iv ((zI s 253 ((157 + (6 * x1)) + 1)) - 1))]) r_244_10 (n_244_10 _) rfl ⟨rfl, by decide, by decide, by decide⟩ rfl rfl ⟨rfl, Nat.le_of_ble_eq_true rfl, Nat.le_of_ble_eq_true rfl⟩ rfl (K_Model_within g4 ⟨by omega, by omega⟩ g5) ?_
  rintro _ _ ⟨rfl, rfl⟩
  refine .inl ⟨some (iv (bi (0 ≤ x2 ∧ x2 ≤ ((zI s 253 ((157 + (6 * x1)) + 1)) - 1)))), rfl, ?_⟩
  show wp S 244 13 [(0, rf 252), (1, iv x1), (2, iv x2)] [iv (bi (0 ≤ x2 ∧ x2 ≤ ((zI s 253 ((157 + (6 * x1)) + 1)) - 1)))] s Q
  exact i_zreturn r_244_13 (n_244_13 _) rfl (bi_01 _) h
theorem K_Model_isRow {S : Option (Nat × (Nat → Int32))} {s : zSt} {x1 : Int} {x2 : Int}  (h1 : (0 ≤ ((157 + (6 * x1)) + 1) ∧ ((157 + (6 * x1)) + 1) < 1199)) (h2 : rng x2) (h3 : rng ((zI s 253 ((157 + (6 * x1)) + 1)) - 1)) : wp S 244 0 [(0, rf 252), (1, iv x1), (2, iv x2)] [] s (fun o t => o = rI (bi (0 ≤ x2 ∧ x2 ≤ ((zI s 253 ((157 + (6 * x1)) + 1)) - 1))) ∧ s = t) := by
  refine wp_W fun hW => ?_
  refine v_Model_isRow_0  ?_
  exact ⟨h1, h2, h3, rfl, rfl⟩
theorem r_250_0 : xfetch 250 0 = some (.aload_n 0, 1) := by decide +kernel
theorem n_250_0 : ∀ l, xpr 250 0 l = l := xpr_no (by decide +kernel)
theorem r_250_1 : xfetch 250 1 = some (.iload_n 1, 1) := by decide +kernel
theorem n_250_1 : ∀ l, xpr 250 1 l = l := xpr_no (by decide +kernel)
theorem r_250_2 : xfetch 250 2 = some (.iconst 2, 1) := by decide +kernel
theorem n_250_2 : ∀ l, xpr 250 2 l = l := xpr_no (by decide +kernel)
theorem r_250_3 : xfetch 250 3 = some (.invokevirtual 228, 3) := by decide +kernel
theorem n_250_3 : ∀ l, xpr 250 3 l = l := xpr_no (by decide +kernel)
theorem r_250_6 : xfetch 250 6 = some (.ifCond .ne 22, 3) := by decide +kernel
theorem n_250_6 : ∀ l, xpr 250 6 l = l := xpr_no (by decide +kernel)
theorem r_250_9 : xfetch 250 9 = some (.aload_n 0, 1) := by decide +kernel
theorem n_250_9 : ∀ l, xpr 250 9 l = l := xpr_no (by decide +kernel)
theorem r_250_10 : xfetch 250 10 = some (.getfield 34, 3) := by decide +kernel
theorem n_250_10 : ∀ l, xpr 250 10 l = l := xpr_no (by decide +kernel)
theorem r_250_13 : xfetch 250 13 = some (.bipush 40, 2) := by decide +kernel
theorem n_250_13 : ∀ l, xpr 250 13 l = l := xpr_no (by decide +kernel)
theorem r_250_15 : xfetch 250 15 = some (.aload_n 0, 1) := by decide +kernel
theorem n_250_15 : ∀ l, xpr 250 15 l = l := xpr_no (by decide +kernel)
theorem r_250_16 : xfetch 250 16 = some (.iload_n 1, 1) := by decide +kernel
theorem n_250_16 : ∀ l, xpr 250 16 l = l := xpr_no (by decide +kernel)
theorem r_250_17 : xfetch 250 17 = some (.iconst 0, 1) := by decide +kernel
theorem n_250_17 : ∀ l, xpr 250 17 l = l := xpr_no (by decide +kernel)
theorem r_250_18 : xfetch 250 18 = some (.invokevirtual 228, 3) := by decide +kernel
theorem n_250_18 : ∀ l, xpr 250 18 l = l := xpr_no (by decide +kernel)
theorem r_250_21 : xfetch 250 21 = some (.imul, 1) := by decide +kernel
theorem n_250_21 : ∀ l, xpr 250 21 l = l := xpr_no (by decide +kernel)
theorem r_250_22 : xfetch 250 22 = some (.iload_n 2, 1) := by decide +kernel
theorem n_250_22 : ∀ l, xpr 250 22 l = l := xpr_no (by decide +kernel)
theorem r_250_23 : xfetch 250 23 = some (.iadd, 1) := by decide +kernel
theorem n_250_23 : ∀ l, xpr 250 23 l = l := xpr_no (by decide +kernel)
theorem r_250_24 : xfetch 250 24 = some (.iaload, 1) := by decide +kernel
theorem n_250_24 : ∀ l, xpr 250 24 l = l := xpr_no (by decide +kernel)
theorem r_250_25 : xfetch 250 25 = some (.goto 4, 3) := by decide +kernel
theorem n_250_25 : ∀ l, xpr 250 25 l = l := xpr_no (by decide +kernel)
theorem r_250_28 : xfetch 250 28 = some (.iconst 0, 1) := by decide +kernel
theorem n_250_28 : ∀ l, xpr 250 28 l = l := xpr_no (by decide +kernel)
theorem r_250_29 : xfetch 250 29 = some (.ireturn, 1) := by decide +kernel
theorem n_250_29 : ∀ l, xpr 250 29 l = l := xpr_no (by decide +kernel)
theorem v_Model_lowest_0 {S : Option (Nat × (Nat → Int32))} {s : zSt} {Q : Option Value ⊕ Nat → zSt → Prop} {x1 : Int} {x2 : Int} 
    (h : (0 ≤ ((157 + (6 * x1)) + 2) ∧ ((157 + (6 * x1)) + 2) < 1199) ∧ (((zI s 253 ((157 + (6 * x1)) + 2)) ≠ 0 → Q (rI 0) s) ∧ ((zI s 253 ((157 + (6 * x1)) + 2)) = 0 → (0 ≤ ((157 + (6 * x1)) + 0) ∧ ((157 + (6 * x1)) + 0) < 1199) ∧ ((0 ≤ ((40 * (zI s 253 ((157 + (6 * x1)) + 0))) + x2) ∧ ((40 * (zI s 253 ((157 + (6 * x1)) + 0))) + x2) < 240) ∧ (Q (rI (zI s 261 ((40 * (zI s 253 ((157 + (6 * x1)) + 0))) + x2))) s))))) :
    wp S 250 0 [(0, rf 252), (1, iv x1), (2, iv x2)] [] s Q := by
  refine i_aload_n (a := 252) r_250_0 (n_250_0 _) rfl ?_
  refine i_iload_n (x := x1) r_250_1 (n_250_1 _) rfl ?_
  refine i_iconst r_250_2 (n_250_2 _) ?_
  obtain ⟨g1, h⟩ := h
  refine wp_virt (b := 252) (rest := []) (Ls := [(0, rf 252), (1, iv x1), (2, iv 2)]) r_250_3 (n_250_3 _) rfl ⟨rfl, rfl, by decide, by decide⟩ rfl rfl lf_252 ⟨rfl, Nat.le_of_ble_eq_true rfl, Nat.le_of_ble_eq_true rfl⟩ rfl (K_Model_of g1) ?_
  rintro _ _ ⟨rfl, rfl⟩
  refine .inl ⟨some (iv (zI s 253 ((157 + (6 * x1)) + 2))), rfl, ?_⟩
  show wp S 250 6 [(0, rf 252), (1, iv x1), (2, iv x2)] [iv (zI s 253 ((157 + (6 * x1)) + 2))] s Q
  refine wp_rd (a := 253) (j := ((157 + (6 * x1)) + 2)) (fun q3 => ?_)
  refine i_if (t := 28) r_250_6 (n_250_6 _) rfl (T_ne q3 ⟨by omega, by omega⟩) (fun c4 => ?_) (fun c4 => ?_)
  · replace h := h.1 c4
    refine i_iconst r_250_28 (n_250_28 _) ?_
    exact i_ireturn r_250_29 (n_250_29 _) rfl h
  · replace h := h.2 c4
    refine i_aload_n (a := 252) r_250_9 (n_250_9 _) rfl ?_
    refine i_getR (a := 252) (b := 261) r_250_10 (n_250_10 _) rfl rfl rfl (by omega) lf_252 (by omega) ?_
    refine i_bipush r_250_13 (n_250_13 _) rfl ?_
    refine i_aload_n (a := 252) r_250_15 (n_250_15 _) rfl ?_
    refine i_iload_n (x := x1) r_250_16 (n_250_16 _) rfl ?_
    refine i_iconst r_250_17 (n_250_17 _) ?_
    obtain ⟨g5, h⟩ := h
    refine wp_virt (b := 252) (rest := [iv 40, rf 261]) (Ls := [(0, rf 252), (1, iv x1), (2, iv 0)]) r_250_18 (n_250_18 _) rfl ⟨rfl, rfl, by decide, by decide⟩ rfl rfl lf_252 ⟨rfl, Nat.le_of_ble_eq_true rfl, Nat.le_of_ble_eq_true rfl⟩ rfl (K_Model_of g5) ?_
    rintro _ _ ⟨rfl, rfl⟩
    refine .inl ⟨some (iv (zI s 253 ((157 + (6 * x1)) + 0))), rfl, ?_⟩
    show wp S 250 21 [(0, rf 252), (1, iv x1), (2, iv x2)] [iv (zI s 253 ((157 + (6 * x1)) + 0)), iv 40, rf 261] s Q
    refine wp_rd (a := 253) (j := ((157 + (6 * x1)) + 0)) (fun q7 => ?_)
    refine i_imul r_250_21 (n_250_21 _) ?_
    refine i_iload_n (x := x2) r_250_22 (n_250_22 _) rfl ?_
    refine i_iadd r_250_23 (n_250_23 _) ?_
    obtain ⟨g8, h⟩ := h
    refine i_iaload (a := 261) (j := (40 * (zI s 253 ((157 + (6 * x1)) + 0))) + x2) r_250_24 (n_250_24 _) lf_261 ⟨by omega, by omega⟩ (by omega) (by omega) (fun q9 => ?_)
    refine i_goto (t := 29) r_250_25 (n_250_25 _) rfl ?_
    exact i_ireturn r_250_29 (n_250_29 _) rfl h
theorem K_Model_lowest {S : Option (Nat × (Nat → Int32))} {s : zSt} {x1 : Int} {x2 : Int}  (h1 : (0 ≤ 157 + 6 * x1 + 2 ∧ 157 + 6 * x1 + 2 < 1199)) (h2 : (0 ≤ 157 + 6 * x1 + 0 ∧ 157 + 6 * x1 + 0 < 1199)) (h3 : (0 ≤ 40 * zI s 253 (157 + 6 * x1 + 0) + x2 ∧ 40 * zI s 253 (157 + 6 * x1 + 0) + x2 < 240)) : wp S 250 0 [(0, rf 252), (1, iv x1), (2, iv x2)] [] s (fun o t => o = rI (zlw (zI s 253 (157 + 6 * x1 + 2)) (zI s 261 (40 * zI s 253 (157 + 6 * x1 + 0) + x2))) ∧ s = t) := by
  refine wp_W fun hW => ?_
  refine v_Model_lowest_0  ?_
  first | exact ⟨h1, fun z => ⟨congrArg rI (by unfold zlw; rw [if_neg z]), rfl⟩, fun z => ⟨h2, h3, congrArg rI (by unfold zlw; rw [if_pos z]), rfl⟩⟩ | exact ⟨h1, fun z => ⟨h2, h3, congrArg rI (by unfold zlw; rw [if_pos z]), rfl⟩, fun z => ⟨congrArg rI (by unfold zlw; rw [if_neg z]), rfl⟩⟩
theorem r_269_0 : xfetch 269 0 = some (.iload_n 0, 1) := by decide +kernel
theorem n_269_0 : ∀ l, xpr 269 0 l = l := xpr_no (by decide +kernel)
theorem r_269_1 : xfetch 269 1 = some (.bipush 16, 2) := by decide +kernel
theorem n_269_1 : ∀ l, xpr 269 1 l = l := xpr_no (by decide +kernel)
theorem r_269_3 : xfetch 269 3 = some (.if_icmp .eq 15, 3) := by decide +kernel
theorem n_269_3 : ∀ l, xpr 269 3 l = l := xpr_no (by decide +kernel)
theorem r_269_6 : xfetch 269 6 = some (.iload_n 0, 1) := by decide +kernel
theorem n_269_6 : ∀ l, xpr 269 6 l = l := xpr_no (by decide +kernel)
theorem r_269_7 : xfetch 269 7 = some (.bipush 32, 2) := by decide +kernel
theorem n_269_7 : ∀ l, xpr 269 7 l = l := xpr_no (by decide +kernel)
theorem r_269_9 : xfetch 269 9 = some (.if_icmp .eq 9, 3) := by decide +kernel
theorem n_269_9 : ∀ l, xpr 269 9 l = l := xpr_no (by decide +kernel)
theorem r_269_12 : xfetch 269 12 = some (.iload_n 0, 1) := by decide +kernel
theorem n_269_12 : ∀ l, xpr 269 12 l = l := xpr_no (by decide +kernel)
theorem r_269_13 : xfetch 269 13 = some (.bipush 64, 2) := by decide +kernel
theorem n_269_13 : ∀ l, xpr 269 13 l = l := xpr_no (by decide +kernel)
theorem r_269_15 : xfetch 269 15 = some (.if_icmp .ne 7, 3) := by decide +kernel
theorem n_269_15 : ∀ l, xpr 269 15 l = l := xpr_no (by decide +kernel)
theorem r_269_18 : xfetch 269 18 = some (.iconst 1, 1) := by decide +kernel
theorem n_269_18 : ∀ l, xpr 269 18 l = l := xpr_no (by decide +kernel)
theorem r_269_19 : xfetch 269 19 = some (.goto 4, 3) := by decide +kernel
theorem n_269_19 : ∀ l, xpr 269 19 l = l := xpr_no (by decide +kernel)
theorem r_269_22 : xfetch 269 22 = some (.iconst 0, 1) := by decide +kernel
theorem n_269_22 : ∀ l, xpr 269 22 l = l := xpr_no (by decide +kernel)
theorem r_269_23 : xfetch 269 23 = some (.ireturn, 1) := by decide +kernel
theorem n_269_23 : ∀ l, xpr 269 23 l = l := xpr_no (by decide +kernel)
theorem v_Model_isLine_0 {S : Option (Nat × (Nat → Int32))} {s : zSt} {Q : Option Value ⊕ Nat → zSt → Prop} {x0 : Int} 
    (h : rng x0 ∧ ((x0 = 16 → Q (rI 1) s) ∧ (x0 ≠ 16 → (x0 = 32 → Q (rI 1) s) ∧ (x0 ≠ 32 → (x0 ≠ 64 → Q (rI 0) s) ∧ (x0 = 64 → Q (rI 1) s))))) :
    wp S 269 0 [(0, iv x0)] [] s Q := by
  refine i_iload_n (x := x0) r_269_0 (n_269_0 _) rfl ?_
  refine i_bipush r_269_1 (n_269_1 _) rfl ?_
  obtain ⟨g1, h⟩ := h
  refine i_icmp (t := 18) r_269_3 (n_269_3 _) rfl (T_eq g1 ⟨by omega, by omega⟩) (fun c2 => ?_) (fun c2 => ?_)
  · replace h := h.1 c2
    refine i_iconst r_269_18 (n_269_18 _) ?_
    refine i_goto (t := 23) r_269_19 (n_269_19 _) rfl ?_
    exact i_zreturn r_269_23 (n_269_23 _) rfl (by decide) h
  · replace h := h.2 c2
    refine i_iload_n (x := x0) r_269_6 (n_269_6 _) rfl ?_
    refine i_bipush r_269_7 (n_269_7 _) rfl ?_
    refine i_icmp (t := 18) r_269_9 (n_269_9 _) rfl (T_eq g1 ⟨by omega, by omega⟩) (fun c3 => ?_) (fun c3 => ?_)
    · replace h := h.1 c3
      refine i_iconst r_269_18 (n_269_18 _) ?_
      refine i_goto (t := 23) r_269_19 (n_269_19 _) rfl ?_
      exact i_zreturn r_269_23 (n_269_23 _) rfl (by decide) h
    · replace h := h.2 c3
      refine i_iload_n (x := x0) r_269_12 (n_269_12 _) rfl ?_
      refine i_bipush r_269_13 (n_269_13 _) rfl ?_
      refine i_icmp (t := 22) r_269_15 (n_269_15 _) rfl (T_ne g1 ⟨by omega, by omega⟩) (fun c4 => ?_) (fun c4 => ?_)
      · replace h := h.1 c4
        refine i_iconst r_269_22 (n_269_22 _) ?_
        exact i_zreturn r_269_23 (n_269_23 _) rfl (by decide) h
      · replace h := h.2 c4
        refine i_iconst r_269_18 (n_269_18 _) ?_
        refine i_goto (t := 23) r_269_19 (n_269_19 _) rfl ?_
        exact i_zreturn r_269_23 (n_269_23 _) rfl (by decide) h
theorem K_Model_isLine {S : Option (Nat × (Nat → Int32))} {s : zSt} {x0 : Int}  (h1 : rng x0) : wp S 269 0 [(0, iv x0)] [] s (fun o t => o = rI (bi (x0 = 16 ∨ x0 = 32 ∨ x0 = 64)) ∧ s = t) := by
  refine wp_W fun hW => ?_
  refine v_Model_isLine_0  ?_
  repeat' (first | assumption | rfl | (intro _) | (refine ⟨?_, ?_⟩) | omega | exact congrArg rI (bi_F (by omega)).symm | exact congrArg rI (bi_T (by omega)).symm)

theorem r_10_0 : xfetch 10 0 = some (.aload_n 0, 1) := by decide +kernel
theorem n_10_0 : ∀ l, xpr 10 0 l = l := xpr_no (by decide +kernel)
theorem r_10_1 : xfetch 10 1 = some (.getfield 10, 3) := by decide +kernel
theorem n_10_1 : ∀ l, xpr 10 1 l = l := xpr_no (by decide +kernel)
theorem r_10_4 : xfetch 10 4 = some (.getfield 80, 3) := by decide +kernel
theorem n_10_4 : ∀ l, xpr 10 4 l = l := xpr_no (by decide +kernel)
theorem r_10_7 : xfetch 10 7 = some (.ireturn, 1) := by decide +kernel
theorem n_10_7 : ∀ l, xpr 10 7 l = l := xpr_no (by decide +kernel)
theorem v_RL_records_0 {S : Option (Nat × (Nat → Int32))} {s : zSt} {Q : Option Value ⊕ Nat → zSt → Prop}  
    (h : Q (rI (zI s 3 0)) s) :
    wp S 10 0 [(0, rf 2)] [] s Q := by
  refine i_aload_n (a := 2) r_10_0 (n_10_0 _) rfl ?_
  refine i_getR (a := 2) (b := 3) r_10_1 (n_10_1 _) rfl rfl rfl (by omega) lf_2 (by omega) ?_
  refine i_getI (a := 3) r_10_4 (n_10_4 _) rfl (by decide) lf_3 (fun q1 => ?_)
  exact i_ireturn r_10_7 (n_10_7 _) rfl h
theorem r_24_0 : xfetch 24 0 = some (.iload_n 0, 1) := by decide +kernel
theorem n_24_0 : ∀ l, xpr 24 0 l = l := xpr_no (by decide +kernel)
theorem r_24_1 : xfetch 24 1 = some (.iload_n 1, 1) := by decide +kernel
theorem n_24_1 : ∀ l, xpr 24 1 l = l := xpr_no (by decide +kernel)
theorem r_24_2 : xfetch 24 2 = some (.iadd, 1) := by decide +kernel
theorem n_24_2 : ∀ l, xpr 24 2 l = l := xpr_no (by decide +kernel)
theorem r_24_3 : xfetch 24 3 = some (.iconst 1, 1) := by decide +kernel
theorem n_24_3 : ∀ l, xpr 24 3 l = l := xpr_no (by decide +kernel)
theorem r_24_4 : xfetch 24 4 = some (.isub, 1) := by decide +kernel
theorem n_24_4 : ∀ l, xpr 24 4 l = l := xpr_no (by decide +kernel)
theorem r_24_5 : xfetch 24 5 = some (.iload_n 1, 1) := by decide +kernel
theorem n_24_5 : ∀ l, xpr 24 5 l = l := xpr_no (by decide +kernel)
theorem r_24_6 : xfetch 24 6 = some (.ineg, 1) := by decide +kernel
theorem n_24_6 : ∀ l, xpr 24 6 l = l := xpr_no (by decide +kernel)
theorem r_24_7 : xfetch 24 7 = some (.iand, 1) := by decide +kernel
theorem n_24_7 : ∀ l, xpr 24 7 l = l := xpr_no (by decide +kernel)
theorem r_24_8 : xfetch 24 8 = some (.ireturn, 1) := by decide +kernel
theorem n_24_8 : ∀ l, xpr 24 8 l = l := xpr_no (by decide +kernel)
theorem v_RL_roundUp_0 {S : Option (Nat × (Nat → Int32))} {s : zSt} {Q : Option Value ⊕ Nat → zSt → Prop} {x0 : Int} {x1 : Int} 
    (h : Q (rI (zand ((x0 + x1) - 1) (-x1))) s) :
    wp S 24 0 [(0, iv x0), (1, iv x1)] [] s Q := by
  refine i_iload_n (x := x0) r_24_0 (n_24_0 _) rfl ?_
  refine i_iload_n (x := x1) r_24_1 (n_24_1 _) rfl ?_
  refine i_iadd r_24_2 (n_24_2 _) ?_
  refine i_iconst r_24_3 (n_24_3 _) ?_
  refine i_isub r_24_4 (n_24_4 _) ?_
  refine i_iload_n (x := x1) r_24_5 (n_24_5 _) rfl ?_
  refine i_ineg r_24_6 (n_24_6 _) ?_
  refine i_iand r_24_7 (n_24_7 _) ?_
  exact i_ireturn r_24_8 (n_24_8 _) rfl h
theorem r_55_0 : xfetch 55 0 = some (.iconst 0, 1) := by decide +kernel
theorem n_55_0 : ∀ l, xpr 55 0 l = l := xpr_no (by decide +kernel)
theorem r_55_1 : xfetch 55 1 = some (.istore_n 2, 1) := by decide +kernel
theorem n_55_1 : ∀ l, xpr 55 1 l = l := xpr_no (by decide +kernel)
theorem r_55_2 : xfetch 55 2 = some (.iload_n 2, 1) := by decide +kernel
theorem r_55_3 : xfetch 55 3 = some (.aload_n 0, 1) := by decide +kernel
theorem n_55_3 : ∀ l, xpr 55 3 l = l := xpr_no (by decide +kernel)
theorem r_55_4 : xfetch 55 4 = some (.getfield 25, 3) := by decide +kernel
theorem n_55_4 : ∀ l, xpr 55 4 l = l := xpr_no (by decide +kernel)
theorem r_55_7 : xfetch 55 7 = some (.if_icmp .ge 21, 3) := by decide +kernel
theorem n_55_7 : ∀ l, xpr 55 7 l = l := xpr_no (by decide +kernel)
theorem r_55_10 : xfetch 55 10 = some (.aload_n 0, 1) := by decide +kernel
theorem n_55_10 : ∀ l, xpr 55 10 l = l := xpr_no (by decide +kernel)
theorem r_55_11 : xfetch 55 11 = some (.getfield 15, 3) := by decide +kernel
theorem n_55_11 : ∀ l, xpr 55 11 l = l := xpr_no (by decide +kernel)
theorem r_55_14 : xfetch 55 14 = some (.iload_n 2, 1) := by decide +kernel
theorem n_55_14 : ∀ l, xpr 55 14 l = l := xpr_no (by decide +kernel)
theorem r_55_15 : xfetch 55 15 = some (.iaload, 1) := by decide +kernel
theorem n_55_15 : ∀ l, xpr 55 15 l = l := xpr_no (by decide +kernel)
theorem r_55_16 : xfetch 55 16 = some (.iload_n 1, 1) := by decide +kernel
theorem n_55_16 : ∀ l, xpr 55 16 l = l := xpr_no (by decide +kernel)
theorem r_55_17 : xfetch 55 17 = some (.if_icmp .ne 5, 3) := by decide +kernel
theorem n_55_17 : ∀ l, xpr 55 17 l = l := xpr_no (by decide +kernel)
theorem r_55_20 : xfetch 55 20 = some (.iconst 1, 1) := by decide +kernel
theorem n_55_20 : ∀ l, xpr 55 20 l = l := xpr_no (by decide +kernel)
theorem r_55_21 : xfetch 55 21 = some (.ireturn, 1) := by decide +kernel
theorem n_55_21 : ∀ l, xpr 55 21 l = l := xpr_no (by decide +kernel)
theorem r_55_22 : xfetch 55 22 = some (.iinc 2 1, 3) := by decide +kernel
theorem n_55_22 : ∀ l, xpr 55 22 l = l := xpr_no (by decide +kernel)
theorem r_55_25 : xfetch 55 25 = some (.goto (-23), 3) := by decide +kernel
theorem n_55_25 : ∀ l, xpr 55 25 l = l := xpr_no (by decide +kernel)
theorem r_55_28 : xfetch 55 28 = some (.iconst 0, 1) := by decide +kernel
theorem n_55_28 : ∀ l, xpr 55 28 l = l := xpr_no (by decide +kernel)
theorem r_55_29 : xfetch 55 29 = some (.ireturn, 1) := by decide +kernel
theorem n_55_29 : ∀ l, xpr 55 29 l = l := xpr_no (by decide +kernel)
theorem v_Fields_hasName_0 {S : Option (Nat × (Nat → Int32))} {s : zSt} {Q : Option Value ⊕ Nat → zSt → Prop} {a0 : Int} {x1 : Int} (ha0 : isO a0 1)
    (h : wp S 55 2 [(0, rf a0), (1, iv x1), (2, iv 0)] [] s Q) :
    wp S 55 0 [(0, rf a0), (1, iv x1)] [] s Q := by
  refine i_iconst r_55_0 (n_55_0 _) ?_
  refine i_istore_n (l' := [(0, rf a0), (1, iv x1), (2, iv 0)]) r_55_1 (n_55_1 _) (by decide) rfl ?_
  exact wp_pr (l' := [(0, rf a0), (1, iv x1), (2, iv 0)]) rfl h
theorem v_Fields_hasName_2 {S : Option (Nat × (Nat → Int32))} {s : zSt} {Q : Option Value ⊕ Nat → zSt → Prop} {a0 : Int} {x1 : Int} {x2 : Int} (ha0 : isO a0 1)
    (h : rng x2 ∧ (((zI s a0 1) ≤ x2 → Q (rI 0) s) ∧ (x2 < (zI s a0 1) → (0 ≤ x2 ∧ x2 < 8) ∧ (rng x1 ∧ (((zI s (a0 + 1) x2) ≠ x1 → wp S 55 2 [(0, rf a0), (1, iv x1), (2, iv (x2 + 1))] [] s Q) ∧ ((zI s (a0 + 1) x2) = x1 → Q (rI 1) s)))))) :
    wp S 55 2 [(0, rf a0), (1, iv x1), (2, iv x2)] [] s Q := by
  refine i_iload_n (x := x2) r_55_2 rfl rfl ?_
  refine i_aload_n (a := a0) r_55_3 (n_55_3 _) rfl ?_
  refine i_getI (a := a0) r_55_4 (n_55_4 _) rfl (by decide) ha0 (fun q1 => ?_)
  obtain ⟨g2, h⟩ := h
  refine i_icmp (t := 28) r_55_7 (n_55_7 _) rfl (T_ge g2 q1) (fun c3 => ?_) (fun c3 => ?_)
  · replace h := h.1 c3
    refine i_iconst r_55_28 (n_55_28 _) ?_
    exact i_zreturn r_55_29 (n_55_29 _) rfl (by decide) h
  · replace h := h.2 c3
    refine i_aload_n (a := a0) r_55_10 (n_55_10 _) rfl ?_
    refine i_getR (a := a0) (b := a0 + 1) r_55_11 (n_55_11 _) rfl rfl rfl (by omega) ha0 (by omega) ?_
    have t4 := (t_1_2 ha0)
    refine i_iload_n (x := x2) r_55_14 (n_55_14 _) rfl ?_
    obtain ⟨g5, h⟩ := h
    refine i_iaload (a := a0 + 1) (j := x2) r_55_15 (n_55_15 _) t4 ⟨by omega, by omega⟩ (by omega) (by omega) (fun q6 => ?_)
    refine i_iload_n (x := x1) r_55_16 (n_55_16 _) rfl ?_
    obtain ⟨g7, h⟩ := h
    refine i_icmp (t := 22) r_55_17 (n_55_17 _) rfl (T_ne q6 g7) (fun c8 => ?_) (fun c8 => ?_)
    · replace h := h.1 c8
      refine i_iinc (x := x2) (l' := [(0, rf a0), (1, iv x1), (2, iv (x2 + 1))]) r_55_22 (n_55_22 _) (by decide) rfl rfl ?_
      refine i_goto (t := 2) r_55_25 (n_55_25 _) rfl ?_
      exact wp_pr (l' := [(0, rf a0), (1, iv x1), (2, iv (x2 + 1))]) rfl h
    · replace h := h.2 c8
      refine i_iconst r_55_20 (n_55_20 _) ?_
      exact i_zreturn r_55_21 (n_55_21 _) rfl (by decide) h
theorem r_188_0 : xfetch 188 0 = some (.iconst 0, 1) := by decide +kernel
theorem n_188_0 : ∀ l, xpr 188 0 l = l := xpr_no (by decide +kernel)
theorem r_188_1 : xfetch 188 1 = some (.istore_n 3, 1) := by decide +kernel
theorem n_188_1 : ∀ l, xpr 188 1 l = l := xpr_no (by decide +kernel)
theorem r_188_2 : xfetch 188 2 = some (.iconst 0, 1) := by decide +kernel
theorem n_188_2 : ∀ l, xpr 188 2 l = l := xpr_no (by decide +kernel)
theorem r_188_3 : xfetch 188 3 = some (.istore 4, 2) := by decide +kernel
theorem n_188_3 : ∀ l, xpr 188 3 l = l := xpr_no (by decide +kernel)
theorem r_188_5 : xfetch 188 5 = some (.iload 4, 2) := by decide +kernel
theorem r_188_7 : xfetch 188 7 = some (.aload_n 0, 1) := by decide +kernel
theorem n_188_7 : ∀ l, xpr 188 7 l = l := xpr_no (by decide +kernel)
theorem r_188_8 : xfetch 188 8 = some (.iload_n 1, 1) := by decide +kernel
theorem n_188_8 : ∀ l, xpr 188 8 l = l := xpr_no (by decide +kernel)
theorem r_188_9 : xfetch 188 9 = some (.invokevirtual 99, 3) := by decide +kernel
theorem n_188_9 : ∀ l, xpr 188 9 l = l := xpr_no (by decide +kernel)
theorem r_188_12 : xfetch 188 12 = some (.if_icmp .ge 34, 3) := by decide +kernel
theorem n_188_12 : ∀ l, xpr 188 12 l = l := xpr_no (by decide +kernel)
theorem r_188_15 : xfetch 188 15 = some (.iload_n 3, 1) := by decide +kernel
theorem n_188_15 : ∀ l, xpr 188 15 l = l := xpr_no (by decide +kernel)
theorem r_188_16 : xfetch 188 16 = some (.ifCond .ne 18, 3) := by decide +kernel
theorem n_188_16 : ∀ l, xpr 188 16 l = l := xpr_no (by decide +kernel)
theorem r_188_19 : xfetch 188 19 = some (.aload_n 0, 1) := by decide +kernel
theorem n_188_19 : ∀ l, xpr 188 19 l = l := xpr_no (by decide +kernel)
theorem r_188_20 : xfetch 188 20 = some (.getfield 7, 3) := by decide +kernel
theorem n_188_20 : ∀ l, xpr 188 20 l = l := xpr_no (by decide +kernel)
theorem r_188_23 : xfetch 188 23 = some (.iload_n 1, 1) := by decide +kernel
theorem n_188_23 : ∀ l, xpr 188 23 l = l := xpr_no (by decide +kernel)
theorem r_188_24 : xfetch 188 24 = some (.iload 4, 2) := by decide +kernel
theorem n_188_24 : ∀ l, xpr 188 24 l = l := xpr_no (by decide +kernel)
theorem r_188_26 : xfetch 188 26 = some (.invokestatic 102, 3) := by decide +kernel
theorem n_188_26 : ∀ l, xpr 188 26 l = l := xpr_no (by decide +kernel)
theorem r_188_29 : xfetch 188 29 = some (.iaload, 1) := by decide +kernel
theorem n_188_29 : ∀ l, xpr 188 29 l = l := xpr_no (by decide +kernel)
theorem r_188_30 : xfetch 188 30 = some (.iload_n 2, 1) := by decide +kernel
theorem n_188_30 : ∀ l, xpr 188 30 l = l := xpr_no (by decide +kernel)
theorem r_188_31 : xfetch 188 31 = some (.if_icmp .ne 7, 3) := by decide +kernel
theorem n_188_31 : ∀ l, xpr 188 31 l = l := xpr_no (by decide +kernel)
theorem r_188_34 : xfetch 188 34 = some (.iconst 1, 1) := by decide +kernel
theorem n_188_34 : ∀ l, xpr 188 34 l = l := xpr_no (by decide +kernel)
theorem r_188_35 : xfetch 188 35 = some (.goto 4, 3) := by decide +kernel
theorem n_188_35 : ∀ l, xpr 188 35 l = l := xpr_no (by decide +kernel)
theorem r_188_38 : xfetch 188 38 = some (.iconst 0, 1) := by decide +kernel
theorem n_188_38 : ∀ l, xpr 188 38 l = l := xpr_no (by decide +kernel)
theorem r_188_39 : xfetch 188 39 = some (.istore_n 3, 1) := by decide +kernel
theorem n_188_39 : ∀ l, xpr 188 39 l = l := xpr_no (by decide +kernel)
theorem r_188_40 : xfetch 188 40 = some (.iinc 4 1, 3) := by decide +kernel
theorem n_188_40 : ∀ l, xpr 188 40 l = l := xpr_no (by decide +kernel)
theorem r_188_43 : xfetch 188 43 = some (.goto (-38), 3) := by decide +kernel
theorem n_188_43 : ∀ l, xpr 188 43 l = l := xpr_no (by decide +kernel)
theorem r_188_46 : xfetch 188 46 = some (.iload_n 3, 1) := by decide +kernel
theorem n_188_46 : ∀ l, xpr 188 46 l = l := xpr_no (by decide +kernel)
theorem r_188_47 : xfetch 188 47 = some (.ireturn, 1) := by decide +kernel
theorem n_188_47 : ∀ l, xpr 188 47 l = l := xpr_no (by decide +kernel)
theorem v_Model_hasName_0 {S : Option (Nat × (Nat → Int32))} {s : zSt} {Q : Option Value ⊕ Nat → zSt → Prop} {x1 : Int} {x2 : Int} 
    (h : wp S 188 5 [(0, rf 252), (1, iv x1), (2, iv x2), (3, iv 0), (4, iv 0)] [] s Q) :
    wp S 188 0 [(0, rf 252), (1, iv x1), (2, iv x2)] [] s Q := by
  refine i_iconst r_188_0 (n_188_0 _) ?_
  refine i_istore_n (l' := [(0, rf 252), (1, iv x1), (2, iv x2), (3, iv 0)]) r_188_1 (n_188_1 _) (by decide) rfl ?_
  refine i_iconst r_188_2 (n_188_2 _) ?_
  refine i_istore (l' := [(0, rf 252), (1, iv x1), (2, iv x2), (3, iv 0), (4, iv 0)]) r_188_3 (n_188_3 _) (by decide) rfl ?_
  exact wp_pr (l' := [(0, rf 252), (1, iv x1), (2, iv x2), (3, iv 0), (4, iv 0)]) rfl h
theorem v_Model_hasName_5 {S : Option (Nat × (Nat → Int32))} {s : zSt} {Q : Option Value ⊕ Nat → zSt → Prop} {x1 : Int} {x2 : Int} {x3 : Int} {x4 : Int} 
    (h : wp S 189 0 [(0, rf 252), (1, iv x1)] [] s (fun o1 s1 => zkI (fun y1 => rng x4 ∧ ((y1 ≤ x4 → (x3 = 0 ∨ x3 = 1) ∧ (Q (rI x3) s1)) ∧ (x4 < y1 → rng x3 ∧ ((x3 ≠ 0 → wp S 188 5 [(0, rf 252), (1, iv x1), (2, iv x2), (3, iv 1), (4, iv (x4 + 1))] [] s1 Q) ∧ (x3 = 0 → wp S 190 0 [(0, iv x1), (1, iv x4)] [] s1 (fun o8 s8 => zkI (fun y8 => (0 ≤ y8 ∧ y8 < 1199) ∧ (rng x2 ∧ (((zI s8 253 y8) ≠ x2 → wp S 188 5 [(0, rf 252), (1, iv x1), (2, iv x2), (3, iv 0), (4, iv (x4 + 1))] [] s8 Q) ∧ ((zI s8 253 y8) = x2 → wp S 188 5 [(0, rf 252), (1, iv x1), (2, iv x2), (3, iv 1), (4, iv (x4 + 1))] [] s8 Q)))) (fun e8 => False) o8)))))) (fun e1 => False) o1)) :
    wp S 188 5 [(0, rf 252), (1, iv x1), (2, iv x2), (3, iv x3), (4, iv x4)] [] s Q := by
  refine i_iload (x := x4) r_188_5 rfl rfl ?_
  refine i_aload_n (a := 252) r_188_7 (n_188_7 _) rfl ?_
  refine i_iload_n (x := x1) r_188_8 (n_188_8 _) rfl ?_
  refine wp_virt (b := 252) (rest := [iv x4]) (Ls := [(0, rf 252), (1, iv x1)]) r_188_9 (n_188_9 _) rfl ⟨rfl, rfl, by decide, by decide⟩ rfl rfl lf_252 ⟨rfl, Nat.le_of_ble_eq_true rfl, Nat.le_of_ble_eq_true rfl⟩ rfl h ?_
  intro o1 s1 h
  rcases h with ⟨y1, q2, rfl, h⟩ | ⟨e1, rfl, h⟩
  · refine .inl ⟨some (iv y1), rfl, ?_⟩
    show wp S 188 12 [(0, rf 252), (1, iv x1), (2, iv x2), (3, iv x3), (4, iv x4)] [iv y1, iv x4] s1 Q
    obtain ⟨g3, h⟩ := h
    refine i_icmp (t := 46) r_188_12 (n_188_12 _) rfl (T_ge g3 q2) (fun c4 => ?_) (fun c4 => ?_)
    · replace h := h.1 c4
      refine i_iload_n (x := x3) r_188_46 (n_188_46 _) rfl ?_
      obtain ⟨g5, h⟩ := h
      exact i_zreturn r_188_47 (n_188_47 _) rfl g5 h
    · replace h := h.2 c4
      refine i_iload_n (x := x3) r_188_15 (n_188_15 _) rfl ?_
      obtain ⟨g6, h⟩ := h
      refine i_if (t := 34) r_188_16 (n_188_16 _) rfl (T_ne g6 ⟨by omega, by omega⟩) (fun c7 => ?_) (fun c7 => ?_)
      · replace h := h.1 c7
        refine i_iconst r_188_34 (n_188_34 _) ?_
        refine i_goto (t := 39) r_188_35 (n_188_35 _) rfl ?_
        refine i_istore_n (l' := [(0, rf 252), (1, iv x1), (2, iv x2), (3, iv 1), (4, iv x4)]) r_188_39 (n_188_39 _) (by decide) rfl ?_
        refine i_iinc (x := x4) (l' := [(0, rf 252), (1, iv x1), (2, iv x2), (3, iv 1), (4, iv (x4 + 1))]) r_188_40 (n_188_40 _) (by decide) rfl rfl ?_
        refine i_goto (t := 5) r_188_43 (n_188_43 _) rfl ?_
        exact wp_pr (l' := [(0, rf 252), (1, iv x1), (2, iv x2), (3, iv 1), (4, iv (x4 + 1))]) rfl h
      · replace h := h.2 c7
        refine i_aload_n (a := 252) r_188_19 (n_188_19 _) rfl ?_
        refine i_getR (a := 252) (b := 253) r_188_20 (n_188_20 _) rfl rfl rfl (by omega) lf_252 (by omega) ?_
        refine i_iload_n (x := x1) r_188_23 (n_188_23 _) rfl ?_
        refine i_iload (x := x4) r_188_24 (n_188_24 _) rfl ?_
        refine wp_stat (rest := [rf 253]) (Ls := [(0, iv x1), (1, iv x4)]) r_188_26 (n_188_26 _) rfl ⟨rfl, by decide, by decide, by decide⟩ rfl rfl ⟨rfl, Nat.le_of_ble_eq_true rfl, Nat.le_of_ble_eq_true rfl⟩ rfl h ?_
        intro o8 s8 h
        rcases h with ⟨y8, q9, rfl, h⟩ | ⟨e8, rfl, h⟩
        · refine .inl ⟨some (iv y8), rfl, ?_⟩
          show wp S 188 29 [(0, rf 252), (1, iv x1), (2, iv x2), (3, iv x3), (4, iv x4)] [iv y8, rf 253] s8 Q
          obtain ⟨g10, h⟩ := h
          refine i_iaload (a := 253) (j := y8) r_188_29 (n_188_29 _) lf_253 ⟨by omega, by omega⟩ (by omega) (by omega) (fun q11 => ?_)
          refine i_iload_n (x := x2) r_188_30 (n_188_30 _) rfl ?_
          obtain ⟨g12, h⟩ := h
          refine i_icmp (t := 38) r_188_31 (n_188_31 _) rfl (T_ne q11 g12) (fun c13 => ?_) (fun c13 => ?_)
          · replace h := h.1 c13
            refine i_iconst r_188_38 (n_188_38 _) ?_
            refine i_istore_n (l' := [(0, rf 252), (1, iv x1), (2, iv x2), (3, iv 0), (4, iv x4)]) r_188_39 (n_188_39 _) (by decide) rfl ?_
            refine i_iinc (x := x4) (l' := [(0, rf 252), (1, iv x1), (2, iv x2), (3, iv 0), (4, iv (x4 + 1))]) r_188_40 (n_188_40 _) (by decide) rfl rfl ?_
            refine i_goto (t := 5) r_188_43 (n_188_43 _) rfl ?_
            exact wp_pr (l' := [(0, rf 252), (1, iv x1), (2, iv x2), (3, iv 0), (4, iv (x4 + 1))]) rfl h
          · replace h := h.2 c13
            refine i_iconst r_188_34 (n_188_34 _) ?_
            refine i_goto (t := 39) r_188_35 (n_188_35 _) rfl ?_
            refine i_istore_n (l' := [(0, rf 252), (1, iv x1), (2, iv x2), (3, iv 1), (4, iv x4)]) r_188_39 (n_188_39 _) (by decide) rfl ?_
            refine i_iinc (x := x4) (l' := [(0, rf 252), (1, iv x1), (2, iv x2), (3, iv 1), (4, iv (x4 + 1))]) r_188_40 (n_188_40 _) (by decide) rfl rfl ?_
            refine i_goto (t := 5) r_188_43 (n_188_43 _) rfl ?_
            exact wp_pr (l' := [(0, rf 252), (1, iv x1), (2, iv x2), (3, iv 1), (4, iv (x4 + 1))]) rfl h
        · skip
          exact h.elim
  · skip
    exact h.elim
theorem r_14_0 : xfetch 14 0 = some (.sipush 1024, 3) := by decide +kernel
theorem n_14_0 : ∀ l, xpr 14 0 l = l := xpr_no (by decide +kernel)
theorem r_14_3 : xfetch 14 3 = some (.istore_n 2, 1) := by decide +kernel
theorem n_14_3 : ∀ l, xpr 14 3 l = l := xpr_no (by decide +kernel)
theorem r_14_4 : xfetch 14 4 = some (.iconst 0, 1) := by decide +kernel
theorem n_14_4 : ∀ l, xpr 14 4 l = l := xpr_no (by decide +kernel)
theorem r_14_5 : xfetch 14 5 = some (.istore_n 3, 1) := by decide +kernel
theorem n_14_5 : ∀ l, xpr 14 5 l = l := xpr_no (by decide +kernel)
theorem r_14_6 : xfetch 14 6 = some (.iload_n 3, 1) := by decide +kernel
theorem r_14_7 : xfetch 14 7 = some (.iconst 3, 1) := by decide +kernel
theorem n_14_7 : ∀ l, xpr 14 7 l = l := xpr_no (by decide +kernel)
theorem r_14_8 : xfetch 14 8 = some (.if_icmp .ge 57, 3) := by decide +kernel
theorem n_14_8 : ∀ l, xpr 14 8 l = l := xpr_no (by decide +kernel)
theorem r_14_11 : xfetch 14 11 = some (.aload_n 0, 1) := by decide +kernel
theorem n_14_11 : ∀ l, xpr 14 11 l = l := xpr_no (by decide +kernel)
theorem r_14_12 : xfetch 14 12 = some (.getfield 10, 3) := by decide +kernel
theorem n_14_12 : ∀ l, xpr 14 12 l = l := xpr_no (by decide +kernel)
theorem r_14_15 : xfetch 14 15 = some (.getfield 256, 3) := by decide +kernel
theorem n_14_15 : ∀ l, xpr 14 15 l = l := xpr_no (by decide +kernel)
theorem r_14_18 : xfetch 14 18 = some (.iload_n 3, 1) := by decide +kernel
theorem n_14_18 : ∀ l, xpr 14 18 l = l := xpr_no (by decide +kernel)
theorem r_14_19 : xfetch 14 19 = some (.aaload, 1) := by decide +kernel
theorem n_14_19 : ∀ l, xpr 14 19 l = l := xpr_no (by decide +kernel)
theorem r_14_20 : xfetch 14 20 = some (.astore 4, 2) := by decide +kernel
theorem n_14_20 : ∀ l, xpr 14 20 l = l := xpr_no (by decide +kernel)
theorem r_14_22 : xfetch 14 22 = some (.aload 4, 2) := by decide +kernel
theorem n_14_22 : ∀ l, xpr 14 22 l = l := xpr_no (by decide +kernel)
theorem r_14_24 : xfetch 14 24 = some (.getfield 260, 3) := by decide +kernel
theorem n_14_24 : ∀ l, xpr 14 24 l = l := xpr_no (by decide +kernel)
theorem r_14_27 : xfetch 14 27 = some (.ifCond .eq 32, 3) := by decide +kernel
theorem n_14_27 : ∀ l, xpr 14 27 l = l := xpr_no (by decide +kernel)
theorem r_14_30 : xfetch 14 30 = some (.iload_n 1, 1) := by decide +kernel
theorem n_14_30 : ∀ l, xpr 14 30 l = l := xpr_no (by decide +kernel)
theorem r_14_31 : xfetch 14 31 = some (.aload 4, 2) := by decide +kernel
theorem n_14_31 : ∀ l, xpr 14 31 l = l := xpr_no (by decide +kernel)
theorem r_14_33 : xfetch 14 33 = some (.getfield 277, 3) := by decide +kernel
theorem n_14_33 : ∀ l, xpr 14 33 l = l := xpr_no (by decide +kernel)
theorem r_14_36 : xfetch 14 36 = some (.aload 4, 2) := by decide +kernel
theorem n_14_36 : ∀ l, xpr 14 36 l = l := xpr_no (by decide +kernel)
theorem r_14_38 : xfetch 14 38 = some (.getfield 280, 3) := by decide +kernel
theorem n_14_38 : ∀ l, xpr 14 38 l = l := xpr_no (by decide +kernel)
theorem r_14_41 : xfetch 14 41 = some (.iadd, 1) := by decide +kernel
theorem n_14_41 : ∀ l, xpr 14 41 l = l := xpr_no (by decide +kernel)
theorem r_14_42 : xfetch 14 42 = some (.if_icmp .ge 17, 3) := by decide +kernel
theorem n_14_42 : ∀ l, xpr 14 42 l = l := xpr_no (by decide +kernel)
theorem r_14_45 : xfetch 14 45 = some (.iload_n 2, 1) := by decide +kernel
theorem n_14_45 : ∀ l, xpr 14 45 l = l := xpr_no (by decide +kernel)
theorem r_14_46 : xfetch 14 46 = some (.iload_n 1, 1) := by decide +kernel
theorem n_14_46 : ∀ l, xpr 14 46 l = l := xpr_no (by decide +kernel)
theorem r_14_47 : xfetch 14 47 = some (.aload 4, 2) := by decide +kernel
theorem n_14_47 : ∀ l, xpr 14 47 l = l := xpr_no (by decide +kernel)
theorem r_14_49 : xfetch 14 49 = some (.getfield 277, 3) := by decide +kernel
theorem n_14_49 : ∀ l, xpr 14 49 l = l := xpr_no (by decide +kernel)
theorem r_14_52 : xfetch 14 52 = some (.invokestatic 319, 3) := by decide +kernel
theorem n_14_52 : ∀ l, xpr 14 52 l = l := xpr_no (by decide +kernel)
theorem r_14_55 : xfetch 14 55 = some (.invokestatic 472, 3) := by decide +kernel
theorem n_14_55 : ∀ l, xpr 14 55 l = l := xpr_no (by decide +kernel)
theorem r_14_58 : xfetch 14 58 = some (.istore_n 2, 1) := by decide +kernel
theorem n_14_58 : ∀ l, xpr 14 58 l = l := xpr_no (by decide +kernel)
theorem r_14_59 : xfetch 14 59 = some (.iinc 3 1, 3) := by decide +kernel
theorem n_14_59 : ∀ l, xpr 14 59 l = l := xpr_no (by decide +kernel)
theorem r_14_62 : xfetch 14 62 = some (.goto (-56), 3) := by decide +kernel
theorem n_14_62 : ∀ l, xpr 14 62 l = l := xpr_no (by decide +kernel)
theorem r_14_65 : xfetch 14 65 = some (.iload_n 2, 1) := by decide +kernel
theorem n_14_65 : ∀ l, xpr 14 65 l = l := xpr_no (by decide +kernel)
theorem r_14_66 : xfetch 14 66 = some (.iload_n 1, 1) := by decide +kernel
theorem n_14_66 : ∀ l, xpr 14 66 l = l := xpr_no (by decide +kernel)
theorem r_14_67 : xfetch 14 67 = some (.isub, 1) := by decide +kernel
theorem n_14_67 : ∀ l, xpr 14 67 l = l := xpr_no (by decide +kernel)
theorem r_14_68 : xfetch 14 68 = some (.ireturn, 1) := by decide +kernel
theorem n_14_68 : ∀ l, xpr 14 68 l = l := xpr_no (by decide +kernel)
theorem v_RL_freeFrom_0 {S : Option (Nat × (Nat → Int32))} {s : zSt} {Q : Option Value ⊕ Nat → zSt → Prop} {x1 : Int} 
    (h : wp S 14 6 [(0, rf 2), (1, iv x1), (2, iv 1024), (3, iv 0)] [] s Q) :
    wp S 14 0 [(0, rf 2), (1, iv x1)] [] s Q := by
  refine i_sipush r_14_0 (n_14_0 _) rfl ?_
  refine i_istore_n (l' := [(0, rf 2), (1, iv x1), (2, iv 1024)]) r_14_3 (n_14_3 _) (by decide) rfl ?_
  refine i_iconst r_14_4 (n_14_4 _) ?_
  refine i_istore_n (l' := [(0, rf 2), (1, iv x1), (2, iv 1024), (3, iv 0)]) r_14_5 (n_14_5 _) (by decide) rfl ?_
  exact wp_pr (l' := [(0, rf 2), (1, iv x1), (2, iv 1024), (3, iv 0)]) rfl h
theorem v_RL_freeFrom_6 {S : Option (Nat × (Nat → Int32))} {s : zSt} {Q : Option Value ⊕ Nat → zSt → Prop} {x1 : Int} {x2 : Int} {x3 : Int} 
    (h : rng x3 ∧ ((3 ≤ x3 → Q (rI (x2 - x1)) s) ∧ (x3 < 3 → (0 ≤ x3 ∧ x3 < 3) ∧ (((zI s (31 + x3) 0) = 0 → wp S 14 6 [(0, rf 2), (1, iv x1), (2, iv x2), (3, iv (x3 + 1))] [] s Q) ∧ ((zI s (31 + x3) 0) ≠ 0 → rng x1 ∧ (rng ((zI s (31 + x3) 5) + (zI s (31 + x3) 6)) ∧ ((((zI s (31 + x3) 5) + (zI s (31 + x3) 6)) ≤ x1 → wp S 14 6 [(0, rf 2), (1, iv x1), (2, iv x2), (3, iv (x3 + 1))] [] s Q) ∧ (x1 < ((zI s (31 + x3) 5) + (zI s (31 + x3) 6)) → wp S 15 0 [(0, iv x1), (1, iv (zI s (31 + x3) 5))] [] s (fun o13 s13 => zkI (fun y13 => wp S 16 0 [(0, iv x2), (1, iv y13)] [] s13 (fun o15 s15 => zkI (fun y15 => wp S 14 6 [(0, rf 2), (1, iv x1), (2, iv y15), (3, iv (x3 + 1))] [] s15 Q) (fun e15 => False) o15)) (fun e13 => False) o13))))))))) :
    wp S 14 6 [(0, rf 2), (1, iv x1), (2, iv x2), (3, iv x3)] [] s Q := by
  refine i_iload_n (x := x3) r_14_6 rfl rfl ?_
  refine i_iconst r_14_7 (n_14_7 _) ?_
  obtain ⟨g1, h⟩ := h
  refine i_icmp (t := 65) r_14_8 (n_14_8 _) rfl (T_ge g1 ⟨by omega, by omega⟩) (fun c2 => ?_) (fun c2 => ?_)
  · replace h := h.1 c2
    refine i_iload_n (x := x2) r_14_65 (n_14_65 _) rfl ?_
    refine i_iload_n (x := x1) r_14_66 (n_14_66 _) rfl ?_
    refine i_isub r_14_67 (n_14_67 _) ?_
    exact i_ireturn r_14_68 (n_14_68 _) rfl h
  · replace h := h.2 c2
    refine i_aload_n (a := 2) r_14_11 (n_14_11 _) rfl ?_
    refine i_getR (a := 2) (b := 3) r_14_12 (n_14_12 _) rfl rfl rfl (by omega) lf_2 (by omega) ?_
    refine i_getR (a := 3) (b := 5) r_14_15 (n_14_15 _) rfl rfl rfl (by omega) lf_3 (by omega) ?_
    refine i_iload_n (x := x3) r_14_18 (n_14_18 _) rfl ?_
    obtain ⟨g3, h⟩ := h
    refine i_aaload (c := 6) (a := 5) (j := x3) (b := 31 + x3) r_14_19 (n_14_19 _) lf_5 ⟨by omega, by omega⟩ (by omega) (by omega) rfl (by omega) ?_
    have t4 := e_6 (j := x3) lf_5 (by omega) (by omega)
    rw [show 5 + 26 + 1 * x3 = 31 + x3 by omega] at t4
    refine i_astore (l' := [(0, rf 2), (1, iv x1), (2, iv x2), (3, iv x3), (4, rf (31 + x3))]) r_14_20 (n_14_20 _) (by decide) rfl ?_
    refine i_aload (a := 31 + x3) r_14_22 (n_14_22 _) rfl ?_
    refine i_getI (a := 31 + x3) r_14_24 (n_14_24 _) rfl (by decide) t4 (fun q5 => ?_)
    refine i_if (t := 59) r_14_27 (n_14_27 _) rfl (T_eq q5 ⟨by omega, by omega⟩) (fun c6 => ?_) (fun c6 => ?_)
    · replace h := h.1 c6
      refine i_iinc (x := x3) (l' := [(0, rf 2), (1, iv x1), (2, iv x2), (3, iv (x3 + 1)), (4, rf (31 + x3))]) r_14_59 (n_14_59 _) (by decide) rfl rfl ?_
      refine i_goto (t := 6) r_14_62 (n_14_62 _) rfl ?_
      exact wp_pr (l' := [(0, rf 2), (1, iv x1), (2, iv x2), (3, iv (x3 + 1))]) rfl h
    · replace h := h.2 c6
      refine i_iload_n (x := x1) r_14_30 (n_14_30 _) rfl ?_
      refine i_aload (a := 31 + x3) r_14_31 (n_14_31 _) rfl ?_
      refine i_getI (a := 31 + x3) r_14_33 (n_14_33 _) rfl (by decide) t4 (fun q7 => ?_)
      refine i_aload (a := 31 + x3) r_14_36 (n_14_36 _) rfl ?_
      refine i_getI (a := 31 + x3) r_14_38 (n_14_38 _) rfl (by decide) t4 (fun q8 => ?_)
      refine i_iadd r_14_41 (n_14_41 _) ?_
      obtain ⟨g9, h⟩ := h
      obtain ⟨g10, h⟩ := h
      refine i_icmp (t := 59) r_14_42 (n_14_42 _) rfl (T_ge g9 g10) (fun c11 => ?_) (fun c11 => ?_)
      · replace h := h.1 c11
        refine i_iinc (x := x3) (l' := [(0, rf 2), (1, iv x1), (2, iv x2), (3, iv (x3 + 1)), (4, rf (31 + x3))]) r_14_59 (n_14_59 _) (by decide) rfl rfl ?_
        refine i_goto (t := 6) r_14_62 (n_14_62 _) rfl ?_
        exact wp_pr (l' := [(0, rf 2), (1, iv x1), (2, iv x2), (3, iv (x3 + 1))]) rfl h
      · replace h := h.2 c11
        refine i_iload_n (x := x2) r_14_45 (n_14_45 _) rfl ?_
        refine i_iload_n (x := x1) r_14_46 (n_14_46 _) rfl ?_
        refine i_aload (a := 31 + x3) r_14_47 (n_14_47 _) rfl ?_
        refine i_getI (a := 31 + x3) r_14_49 (n_14_49 _) rfl (by decide) t4 (fun q12 => ?_)
        refine wp_stat (rest := [iv x2]) (Ls := [(0, iv x1), (1, iv (zI s (31 + x3) 5))]) r_14_52 (n_14_52 _) rfl ⟨rfl, by decide, by decide, by decide⟩ rfl rfl ⟨rfl, Nat.le_of_ble_eq_true rfl, Nat.le_of_ble_eq_true rfl⟩ rfl h ?_
        intro o13 s13 h
        rcases h with ⟨y13, q14, rfl, h⟩ | ⟨e13, rfl, h⟩
        · refine .inl ⟨some (iv y13), rfl, ?_⟩
          show wp S 14 55 [(0, rf 2), (1, iv x1), (2, iv x2), (3, iv x3), (4, rf (31 + x3))] [iv y13, iv x2] s13 Q
          refine wp_stat (rest := []) (Ls := [(0, iv x2), (1, iv y13)]) r_14_55 (n_14_55 _) rfl ⟨rfl, by decide, by decide, by decide⟩ rfl rfl ⟨rfl, Nat.le_of_ble_eq_true rfl, Nat.le_of_ble_eq_true rfl⟩ rfl h ?_
          intro o15 s15 h
          rcases h with ⟨y15, q16, rfl, h⟩ | ⟨e15, rfl, h⟩
          · refine .inl ⟨some (iv y15), rfl, ?_⟩
            show wp S 14 58 [(0, rf 2), (1, iv x1), (2, iv x2), (3, iv x3), (4, rf (31 + x3))] [iv y15] s15 Q
            refine i_istore_n (l' := [(0, rf 2), (1, iv x1), (2, iv y15), (3, iv x3), (4, rf (31 + x3))]) r_14_58 (n_14_58 _) (by decide) rfl ?_
            refine i_iinc (x := x3) (l' := [(0, rf 2), (1, iv x1), (2, iv y15), (3, iv (x3 + 1)), (4, rf (31 + x3))]) r_14_59 (n_14_59 _) (by decide) rfl rfl ?_
            refine i_goto (t := 6) r_14_62 (n_14_62 _) rfl ?_
            exact wp_pr (l' := [(0, rf 2), (1, iv x1), (2, iv y15), (3, iv (x3 + 1))]) rfl h
          · skip
            exact h.elim
        · skip
          exact h.elim
theorem r_23_0 : xfetch 23 0 = some (.aconst_null, 1) := by decide +kernel
theorem n_23_0 : ∀ l, xpr 23 0 l = l := xpr_no (by decide +kernel)
theorem r_23_1 : xfetch 23 1 = some (.astore_n 2, 1) := by decide +kernel
theorem n_23_1 : ∀ l, xpr 23 1 l = l := xpr_no (by decide +kernel)
theorem r_23_2 : xfetch 23 2 = some (.iconst 0, 1) := by decide +kernel
theorem n_23_2 : ∀ l, xpr 23 2 l = l := xpr_no (by decide +kernel)
theorem r_23_3 : xfetch 23 3 = some (.istore_n 3, 1) := by decide +kernel
theorem n_23_3 : ∀ l, xpr 23 3 l = l := xpr_no (by decide +kernel)
theorem r_23_4 : xfetch 23 4 = some (.iload_n 3, 1) := by decide +kernel
theorem r_23_5 : xfetch 23 5 = some (.iconst 3, 1) := by decide +kernel
theorem n_23_5 : ∀ l, xpr 23 5 l = l := xpr_no (by decide +kernel)
theorem r_23_6 : xfetch 23 6 = some (.if_icmp .ge 56, 3) := by decide +kernel
theorem n_23_6 : ∀ l, xpr 23 6 l = l := xpr_no (by decide +kernel)
theorem r_23_9 : xfetch 23 9 = some (.aload_n 0, 1) := by decide +kernel
theorem n_23_9 : ∀ l, xpr 23 9 l = l := xpr_no (by decide +kernel)
theorem r_23_10 : xfetch 23 10 = some (.getfield 10, 3) := by decide +kernel
theorem n_23_10 : ∀ l, xpr 23 10 l = l := xpr_no (by decide +kernel)
theorem r_23_13 : xfetch 23 13 = some (.getfield 256, 3) := by decide +kernel
theorem n_23_13 : ∀ l, xpr 23 13 l = l := xpr_no (by decide +kernel)
theorem r_23_16 : xfetch 23 16 = some (.iload_n 3, 1) := by decide +kernel
theorem n_23_16 : ∀ l, xpr 23 16 l = l := xpr_no (by decide +kernel)
theorem r_23_17 : xfetch 23 17 = some (.aaload, 1) := by decide +kernel
theorem n_23_17 : ∀ l, xpr 23 17 l = l := xpr_no (by decide +kernel)
theorem r_23_18 : xfetch 23 18 = some (.astore 4, 2) := by decide +kernel
theorem n_23_18 : ∀ l, xpr 23 18 l = l := xpr_no (by decide +kernel)
theorem r_23_20 : xfetch 23 20 = some (.aload 4, 2) := by decide +kernel
theorem n_23_20 : ∀ l, xpr 23 20 l = l := xpr_no (by decide +kernel)
theorem r_23_22 : xfetch 23 22 = some (.getfield 260, 3) := by decide +kernel
theorem n_23_22 : ∀ l, xpr 23 22 l = l := xpr_no (by decide +kernel)
theorem r_23_25 : xfetch 23 25 = some (.ifCond .eq 31, 3) := by decide +kernel
theorem n_23_25 : ∀ l, xpr 23 25 l = l := xpr_no (by decide +kernel)
theorem r_23_28 : xfetch 23 28 = some (.aload 4, 2) := by decide +kernel
theorem n_23_28 : ∀ l, xpr 23 28 l = l := xpr_no (by decide +kernel)
theorem r_23_30 : xfetch 23 30 = some (.getfield 277, 3) := by decide +kernel
theorem n_23_30 : ∀ l, xpr 23 30 l = l := xpr_no (by decide +kernel)
theorem r_23_33 : xfetch 23 33 = some (.iload_n 1, 1) := by decide +kernel
theorem n_23_33 : ∀ l, xpr 23 33 l = l := xpr_no (by decide +kernel)
theorem r_23_34 : xfetch 23 34 = some (.if_icmp .lt 22, 3) := by decide +kernel
theorem n_23_34 : ∀ l, xpr 23 34 l = l := xpr_no (by decide +kernel)
theorem r_23_37 : xfetch 23 37 = some (.aload_n 2, 1) := by decide +kernel
theorem n_23_37 : ∀ l, xpr 23 37 l = l := xpr_no (by decide +kernel)
theorem r_23_38 : xfetch 23 38 = some (.ifnull 15, 3) := by decide +kernel
theorem n_23_38 : ∀ l, xpr 23 38 l = l := xpr_no (by decide +kernel)
theorem r_23_41 : xfetch 23 41 = some (.aload 4, 2) := by decide +kernel
theorem n_23_41 : ∀ l, xpr 23 41 l = l := xpr_no (by decide +kernel)
theorem r_23_43 : xfetch 23 43 = some (.getfield 277, 3) := by decide +kernel
theorem n_23_43 : ∀ l, xpr 23 43 l = l := xpr_no (by decide +kernel)
theorem r_23_46 : xfetch 23 46 = some (.aload_n 2, 1) := by decide +kernel
theorem n_23_46 : ∀ l, xpr 23 46 l = l := xpr_no (by decide +kernel)
theorem r_23_47 : xfetch 23 47 = some (.getfield 277, 3) := by decide +kernel
theorem n_23_47 : ∀ l, xpr 23 47 l = l := xpr_no (by decide +kernel)
theorem r_23_50 : xfetch 23 50 = some (.if_icmp .ge 6, 3) := by decide +kernel
theorem n_23_50 : ∀ l, xpr 23 50 l = l := xpr_no (by decide +kernel)
theorem r_23_53 : xfetch 23 53 = some (.aload 4, 2) := by decide +kernel
theorem n_23_53 : ∀ l, xpr 23 53 l = l := xpr_no (by decide +kernel)
theorem r_23_55 : xfetch 23 55 = some (.astore_n 2, 1) := by decide +kernel
theorem n_23_55 : ∀ l, xpr 23 55 l = l := xpr_no (by decide +kernel)
theorem r_23_56 : xfetch 23 56 = some (.iinc 3 1, 3) := by decide +kernel
theorem n_23_56 : ∀ l, xpr 23 56 l = l := xpr_no (by decide +kernel)
theorem r_23_59 : xfetch 23 59 = some (.goto (-55), 3) := by decide +kernel
theorem n_23_59 : ∀ l, xpr 23 59 l = l := xpr_no (by decide +kernel)
theorem r_23_62 : xfetch 23 62 = some (.aload_n 2, 1) := by decide +kernel
theorem n_23_62 : ∀ l, xpr 23 62 l = l := xpr_no (by decide +kernel)
theorem r_23_63 : xfetch 23 63 = some (.areturn, 1) := by decide +kernel
theorem n_23_63 : ∀ l, xpr 23 63 l = l := xpr_no (by decide +kernel)
theorem v_RL_firstTableFrom_0 {S : Option (Nat × (Nat → Int32))} {s : zSt} {Q : Option Value ⊕ Nat → zSt → Prop} {x1 : Int} 
    (h : wp S 23 4 [(0, rf 2), (1, iv x1), (2, .null), (3, iv 0)] [] s Q) :
    wp S 23 0 [(0, rf 2), (1, iv x1)] [] s Q := by
  refine i_null r_23_0 (n_23_0 _) ?_
  refine i_astore0_n (l' := [(0, rf 2), (1, iv x1), (2, .null)]) r_23_1 (n_23_1 _) (by decide) rfl ?_
  refine i_iconst r_23_2 (n_23_2 _) ?_
  refine i_istore_n (l' := [(0, rf 2), (1, iv x1), (2, .null), (3, iv 0)]) r_23_3 (n_23_3 _) (by decide) rfl ?_
  exact wp_pr (l' := [(0, rf 2), (1, iv x1), (2, .null), (3, iv 0)]) rfl h
theorem v_RL_firstTableFrom_4 {S : Option (Nat × (Nat → Int32))} {s : zSt} {Q : Option Value ⊕ Nat → zSt → Prop} {x1 : Int} {a2 : Int} {x3 : Int} (ha2 : 0 ≤ a2 → isO a2 6)
    (h : rng x3 ∧ ((3 ≤ x3 → Q (.inl (some (orf a2))) s) ∧ (x3 < 3 → (0 ≤ x3 ∧ x3 < 3) ∧ (((zI s (31 + x3) 0) = 0 → wp S 23 4 [(0, rf 2), (1, iv x1), (2, orf a2), (3, iv (x3 + 1))] [] s Q) ∧ ((zI s (31 + x3) 0) ≠ 0 → rng x1 ∧ (((zI s (31 + x3) 5) < x1 → wp S 23 4 [(0, rf 2), (1, iv x1), (2, orf a2), (3, iv (x3 + 1))] [] s Q) ∧ (x1 ≤ (zI s (31 + x3) 5) → (a2 < 0 → wp S 23 4 [(0, rf 2), (1, iv x1), (2, rf (31 + x3)), (3, iv (x3 + 1))] [] s Q) ∧ (0 ≤ a2 → ((zI s a2 5) ≤ (zI s (31 + x3) 5) → wp S 23 4 [(0, rf 2), (1, iv x1), (2, rf a2), (3, iv (x3 + 1))] [] s Q) ∧ ((zI s (31 + x3) 5) < (zI s a2 5) → wp S 23 4 [(0, rf 2), (1, iv x1), (2, rf (31 + x3)), (3, iv (x3 + 1))] [] s Q))))))))) :
    wp S 23 4 [(0, rf 2), (1, iv x1), (2, orf a2), (3, iv x3)] [] s Q := by
  refine i_iload_n (x := x3) r_23_4 rfl rfl ?_
  refine i_iconst r_23_5 (n_23_5 _) ?_
  obtain ⟨g1, h⟩ := h
  refine i_icmp (t := 62) r_23_6 (n_23_6 _) rfl (T_ge g1 ⟨by omega, by omega⟩) (fun c2 => ?_) (fun c2 => ?_)
  · replace h := h.1 c2
    refine i_aloadN_n (a := a2) r_23_62 (n_23_62 _) rfl ?_
    exact i_Nreturn r_23_63 (n_23_63 _) rfl h
  · replace h := h.2 c2
    refine i_aload_n (a := 2) r_23_9 (n_23_9 _) rfl ?_
    refine i_getR (a := 2) (b := 3) r_23_10 (n_23_10 _) rfl rfl rfl (by omega) lf_2 (by omega) ?_
    refine i_getR (a := 3) (b := 5) r_23_13 (n_23_13 _) rfl rfl rfl (by omega) lf_3 (by omega) ?_
    refine i_iload_n (x := x3) r_23_16 (n_23_16 _) rfl ?_
    obtain ⟨g3, h⟩ := h
    refine i_aaload (c := 6) (a := 5) (j := x3) (b := 31 + x3) r_23_17 (n_23_17 _) lf_5 ⟨by omega, by omega⟩ (by omega) (by omega) rfl (by omega) ?_
    have t4 := e_6 (j := x3) lf_5 (by omega) (by omega)
    rw [show 5 + 26 + 1 * x3 = 31 + x3 by omega] at t4
    refine i_astore (l' := [(0, rf 2), (1, iv x1), (2, orf a2), (3, iv x3), (4, rf (31 + x3))]) r_23_18 (n_23_18 _) (by decide) rfl ?_
    refine i_aload (a := 31 + x3) r_23_20 (n_23_20 _) rfl ?_
    refine i_getI (a := 31 + x3) r_23_22 (n_23_22 _) rfl (by decide) t4 (fun q5 => ?_)
    refine i_if (t := 56) r_23_25 (n_23_25 _) rfl (T_eq q5 ⟨by omega, by omega⟩) (fun c6 => ?_) (fun c6 => ?_)
    · replace h := h.1 c6
      refine i_iinc (x := x3) (l' := [(0, rf 2), (1, iv x1), (2, orf a2), (3, iv (x3 + 1)), (4, rf (31 + x3))]) r_23_56 (n_23_56 _) (by decide) rfl rfl ?_
      refine i_goto (t := 4) r_23_59 (n_23_59 _) rfl ?_
      exact wp_pr (l' := [(0, rf 2), (1, iv x1), (2, orf a2), (3, iv (x3 + 1))]) rfl h
    · replace h := h.2 c6
      refine i_aload (a := 31 + x3) r_23_28 (n_23_28 _) rfl ?_
      refine i_getI (a := 31 + x3) r_23_30 (n_23_30 _) rfl (by decide) t4 (fun q7 => ?_)
      refine i_iload_n (x := x1) r_23_33 (n_23_33 _) rfl ?_
      obtain ⟨g8, h⟩ := h
      refine i_icmp (t := 56) r_23_34 (n_23_34 _) rfl (T_lt q7 g8) (fun c9 => ?_) (fun c9 => ?_)
      · replace h := h.1 c9
        refine i_iinc (x := x3) (l' := [(0, rf 2), (1, iv x1), (2, orf a2), (3, iv (x3 + 1)), (4, rf (31 + x3))]) r_23_56 (n_23_56 _) (by decide) rfl rfl ?_
        refine i_goto (t := 4) r_23_59 (n_23_59 _) rfl ?_
        exact wp_pr (l' := [(0, rf 2), (1, iv x1), (2, orf a2), (3, iv (x3 + 1))]) rfl h
      · replace h := h.2 c9
        refine i_aloadN_n (a := a2) r_23_37 (n_23_37 _) rfl ?_
        refine i_ifnull (t := 53) r_23_38 (n_23_38 _) rfl (fun c10 => ?_) (fun c10 => ?_)
        · replace h := h.1 c10
          refine i_aload (a := 31 + x3) r_23_53 (n_23_53 _) rfl ?_
          refine i_astore_n (l' := [(0, rf 2), (1, iv x1), (2, rf (31 + x3)), (3, iv x3), (4, rf (31 + x3))]) r_23_55 (n_23_55 _) (by decide) rfl ?_
          refine i_iinc (x := x3) (l' := [(0, rf 2), (1, iv x1), (2, rf (31 + x3)), (3, iv (x3 + 1)), (4, rf (31 + x3))]) r_23_56 (n_23_56 _) (by decide) rfl rfl ?_
          refine i_goto (t := 4) r_23_59 (n_23_59 _) rfl ?_
          exact wp_pr (l' := [(0, rf 2), (1, iv x1), (2, rf (31 + x3)), (3, iv (x3 + 1))]) rfl h
        · replace h := h.2 c10
          rw [show [(0, rf 2), (1, iv x1), (2, orf a2), (3, iv x3), (4, rf (31 + x3))] = [(0, rf 2), (1, iv x1), (2, rf a2), (3, iv x3), (4, rf (31 + x3))] by rw [orf_pos c10]]
          refine i_aload (a := 31 + x3) r_23_41 (n_23_41 _) rfl ?_
          refine i_getI (a := 31 + x3) r_23_43 (n_23_43 _) rfl (by decide) t4 (fun q11 => ?_)
          refine i_aload_n (a := a2) r_23_46 (n_23_46 _) rfl ?_
          refine i_getI (a := a2) r_23_47 (n_23_47 _) rfl (by decide) (ha2 c10) (fun q12 => ?_)
          refine i_icmp (t := 56) r_23_50 (n_23_50 _) rfl (T_ge q11 q12) (fun c13 => ?_) (fun c13 => ?_)
          · replace h := h.1 c13
            refine i_iinc (x := x3) (l' := [(0, rf 2), (1, iv x1), (2, rf a2), (3, iv (x3 + 1)), (4, rf (31 + x3))]) r_23_56 (n_23_56 _) (by decide) rfl rfl ?_
            refine i_goto (t := 4) r_23_59 (n_23_59 _) rfl ?_
            exact wp_pr (l' := [(0, rf 2), (1, iv x1), (2, rf a2), (3, iv (x3 + 1))]) rfl h
          · replace h := h.2 c13
            refine i_aload (a := 31 + x3) r_23_53 (n_23_53 _) rfl ?_
            refine i_astore_n (l' := [(0, rf 2), (1, iv x1), (2, rf (31 + x3)), (3, iv x3), (4, rf (31 + x3))]) r_23_55 (n_23_55 _) (by decide) rfl ?_
            refine i_iinc (x := x3) (l' := [(0, rf 2), (1, iv x1), (2, rf (31 + x3)), (3, iv (x3 + 1)), (4, rf (31 + x3))]) r_23_56 (n_23_56 _) (by decide) rfl rfl ?_
            refine i_goto (t := 4) r_23_59 (n_23_59 _) rfl ?_
            exact wp_pr (l' := [(0, rf 2), (1, iv x1), (2, rf (31 + x3)), (3, iv (x3 + 1))]) rfl h
theorem r_43_0 : xfetch 43 0 = some (.aload_n 1, 1) := by decide +kernel
theorem n_43_0 : ∀ l, xpr 43 0 l = l := xpr_no (by decide +kernel)
theorem r_43_1 : xfetch 43 1 = some (.getfield 51, 3) := by decide +kernel
theorem n_43_1 : ∀ l, xpr 43 1 l = l := xpr_no (by decide +kernel)
theorem r_43_4 : xfetch 43 4 = some (.iload_n 2, 1) := by decide +kernel
theorem n_43_4 : ∀ l, xpr 43 4 l = l := xpr_no (by decide +kernel)
theorem r_43_5 : xfetch 43 5 = some (.iaload, 1) := by decide +kernel
theorem n_43_5 : ∀ l, xpr 43 5 l = l := xpr_no (by decide +kernel)
theorem r_43_6 : xfetch 43 6 = some (.istore 4, 2) := by decide +kernel
theorem n_43_6 : ∀ l, xpr 43 6 l = l := xpr_no (by decide +kernel)
theorem r_43_8 : xfetch 43 8 = some (.aload_n 1, 1) := by decide +kernel
theorem n_43_8 : ∀ l, xpr 43 8 l = l := xpr_no (by decide +kernel)
theorem r_43_9 : xfetch 43 9 = some (.getfield 56, 3) := by decide +kernel
theorem n_43_9 : ∀ l, xpr 43 9 l = l := xpr_no (by decide +kernel)
theorem r_43_12 : xfetch 43 12 = some (.iload_n 2, 1) := by decide +kernel
theorem n_43_12 : ∀ l, xpr 43 12 l = l := xpr_no (by decide +kernel)
theorem r_43_13 : xfetch 43 13 = some (.iaload, 1) := by decide +kernel
theorem n_43_13 : ∀ l, xpr 43 13 l = l := xpr_no (by decide +kernel)
theorem r_43_14 : xfetch 43 14 = some (.istore 5, 2) := by decide +kernel
theorem n_43_14 : ∀ l, xpr 43 14 l = l := xpr_no (by decide +kernel)
theorem r_43_16 : xfetch 43 16 = some (.aload_n 0, 1) := by decide +kernel
theorem n_43_16 : ∀ l, xpr 43 16 l = l := xpr_no (by decide +kernel)
theorem r_43_17 : xfetch 43 17 = some (.getfield 18, 3) := by decide +kernel
theorem n_43_17 : ∀ l, xpr 43 17 l = l := xpr_no (by decide +kernel)
theorem r_43_20 : xfetch 43 20 = some (.iload_n 2, 1) := by decide +kernel
theorem n_43_20 : ∀ l, xpr 43 20 l = l := xpr_no (by decide +kernel)
theorem r_43_21 : xfetch 43 21 = some (.aload_n 3, 1) := by decide +kernel
theorem n_43_21 : ∀ l, xpr 43 21 l = l := xpr_no (by decide +kernel)
theorem r_43_22 : xfetch 43 22 = some (.ifnonnull 11, 3) := by decide +kernel
theorem n_43_22 : ∀ l, xpr 43 22 l = l := xpr_no (by decide +kernel)
theorem r_43_25 : xfetch 43 25 = some (.iload 4, 2) := by decide +kernel
theorem n_43_25 : ∀ l, xpr 43 25 l = l := xpr_no (by decide +kernel)
theorem r_43_27 : xfetch 43 27 = some (.invokestatic 59, 3) := by decide +kernel
theorem n_43_27 : ∀ l, xpr 43 27 l = l := xpr_no (by decide +kernel)
theorem r_43_30 : xfetch 43 30 = some (.goto 7, 3) := by decide +kernel
theorem n_43_30 : ∀ l, xpr 43 30 l = l := xpr_no (by decide +kernel)
theorem r_43_33 : xfetch 43 33 = some (.aload_n 3, 1) := by decide +kernel
theorem n_43_33 : ∀ l, xpr 43 33 l = l := xpr_no (by decide +kernel)
theorem r_43_34 : xfetch 43 34 = some (.invokevirtual 63, 3) := by decide +kernel
theorem n_43_34 : ∀ l, xpr 43 34 l = l := xpr_no (by decide +kernel)
theorem r_43_37 : xfetch 43 37 = some (.iastore, 1) := by decide +kernel
theorem n_43_37 : ∀ l, xpr 43 37 l = l := xpr_no (by decide +kernel)
theorem r_43_38 : xfetch 43 38 = some (.aload_n 0, 1) := by decide +kernel
theorem n_43_38 : ∀ l, xpr 43 38 l = l := xpr_no (by decide +kernel)
theorem r_43_39 : xfetch 43 39 = some (.getfield 21, 3) := by decide +kernel
theorem n_43_39 : ∀ l, xpr 43 39 l = l := xpr_no (by decide +kernel)
theorem r_43_42 : xfetch 43 42 = some (.iload_n 2, 1) := by decide +kernel
theorem n_43_42 : ∀ l, xpr 43 42 l = l := xpr_no (by decide +kernel)
theorem r_43_43 : xfetch 43 43 = some (.aload_n 3, 1) := by decide +kernel
theorem n_43_43 : ∀ l, xpr 43 43 l = l := xpr_no (by decide +kernel)
theorem r_43_44 : xfetch 43 44 = some (.ifnonnull 12, 3) := by decide +kernel
theorem n_43_44 : ∀ l, xpr 43 44 l = l := xpr_no (by decide +kernel)
theorem r_43_47 : xfetch 43 47 = some (.aload_n 0, 1) := by decide +kernel
theorem n_43_47 : ∀ l, xpr 43 47 l = l := xpr_no (by decide +kernel)
theorem r_43_48 : xfetch 43 48 = some (.getfield 18, 3) := by decide +kernel
theorem n_43_48 : ∀ l, xpr 43 48 l = l := xpr_no (by decide +kernel)
theorem r_43_51 : xfetch 43 51 = some (.iload_n 2, 1) := by decide +kernel
theorem n_43_51 : ∀ l, xpr 43 51 l = l := xpr_no (by decide +kernel)
theorem r_43_52 : xfetch 43 52 = some (.iaload, 1) := by decide +kernel
theorem n_43_52 : ∀ l, xpr 43 52 l = l := xpr_no (by decide +kernel)
theorem r_43_53 : xfetch 43 53 = some (.goto 7, 3) := by decide +kernel
theorem n_43_53 : ∀ l, xpr 43 53 l = l := xpr_no (by decide +kernel)
theorem r_43_56 : xfetch 43 56 = some (.aload_n 3, 1) := by decide +kernel
theorem n_43_56 : ∀ l, xpr 43 56 l = l := xpr_no (by decide +kernel)
theorem r_43_57 : xfetch 43 57 = some (.getfield 31, 3) := by decide +kernel
theorem n_43_57 : ∀ l, xpr 43 57 l = l := xpr_no (by decide +kernel)
theorem r_43_60 : xfetch 43 60 = some (.aload_n 1, 1) := by decide +kernel
theorem n_43_60 : ∀ l, xpr 43 60 l = l := xpr_no (by decide +kernel)
theorem r_43_61 : xfetch 43 61 = some (.getfield 67, 3) := by decide +kernel
theorem n_43_61 : ∀ l, xpr 43 61 l = l := xpr_no (by decide +kernel)
theorem r_43_64 : xfetch 43 64 = some (.invokestatic 70, 3) := by decide +kernel
theorem n_43_64 : ∀ l, xpr 43 64 l = l := xpr_no (by decide +kernel)
theorem r_43_67 : xfetch 43 67 = some (.iastore, 1) := by decide +kernel
theorem n_43_67 : ∀ l, xpr 43 67 l = l := xpr_no (by decide +kernel)
theorem r_43_68 : xfetch 43 68 = some (.aload_n 0, 1) := by decide +kernel
theorem n_43_68 : ∀ l, xpr 43 68 l = l := xpr_no (by decide +kernel)
theorem r_43_69 : xfetch 43 69 = some (.aload_n 0, 1) := by decide +kernel
theorem n_43_69 : ∀ l, xpr 43 69 l = l := xpr_no (by decide +kernel)
theorem r_43_70 : xfetch 43 70 = some (.getfield 31, 3) := by decide +kernel
theorem n_43_70 : ∀ l, xpr 43 70 l = l := xpr_no (by decide +kernel)
theorem r_43_73 : xfetch 43 73 = some (.aload_n 0, 1) := by decide +kernel
theorem n_43_73 : ∀ l, xpr 43 73 l = l := xpr_no (by decide +kernel)
theorem r_43_74 : xfetch 43 74 = some (.getfield 21, 3) := by decide +kernel
theorem n_43_74 : ∀ l, xpr 43 74 l = l := xpr_no (by decide +kernel)
theorem r_43_77 : xfetch 43 77 = some (.iload_n 2, 1) := by decide +kernel
theorem n_43_77 : ∀ l, xpr 43 77 l = l := xpr_no (by decide +kernel)
theorem r_43_78 : xfetch 43 78 = some (.iaload, 1) := by decide +kernel
theorem n_43_78 : ∀ l, xpr 43 78 l = l := xpr_no (by decide +kernel)
theorem r_43_79 : xfetch 43 79 = some (.invokestatic 75, 3) := by decide +kernel
theorem n_43_79 : ∀ l, xpr 43 79 l = l := xpr_no (by decide +kernel)
theorem r_43_82 : xfetch 43 82 = some (.putfield 31, 3) := by decide +kernel
theorem n_43_82 : ∀ l, xpr 43 82 l = l := xpr_no (by decide +kernel)
theorem r_43_85 : xfetch 43 85 = some (.iload 4, 2) := by decide +kernel
theorem n_43_85 : ∀ l, xpr 43 85 l = l := xpr_no (by decide +kernel)
theorem r_43_87 : xfetch 43 87 = some (.invokestatic 78, 3) := by decide +kernel
theorem n_43_87 : ∀ l, xpr 43 87 l = l := xpr_no (by decide +kernel)
theorem r_43_90 : xfetch 43 90 = some (.ifCond .eq 16, 3) := by decide +kernel
theorem n_43_90 : ∀ l, xpr 43 90 l = l := xpr_no (by decide +kernel)
theorem r_43_93 : xfetch 43 93 = some (.aload_n 0, 1) := by decide +kernel
theorem n_43_93 : ∀ l, xpr 43 93 l = l := xpr_no (by decide +kernel)
theorem r_43_94 : xfetch 43 94 = some (.iload_n 2, 1) := by decide +kernel
theorem n_43_94 : ∀ l, xpr 43 94 l = l := xpr_no (by decide +kernel)
theorem r_43_95 : xfetch 43 95 = some (.iload 4, 2) := by decide +kernel
theorem n_43_95 : ∀ l, xpr 43 95 l = l := xpr_no (by decide +kernel)
theorem r_43_97 : xfetch 43 97 = some (.bipush 20, 2) := by decide +kernel
theorem n_43_97 : ∀ l, xpr 43 97 l = l := xpr_no (by decide +kernel)
theorem r_43_99 : xfetch 43 99 = some (.isub, 1) := by decide +kernel
theorem n_43_99 : ∀ l, xpr 43 99 l = l := xpr_no (by decide +kernel)
theorem r_43_100 : xfetch 43 100 = some (.invokevirtual 82, 3) := by decide +kernel
theorem n_43_100 : ∀ l, xpr 43 100 l = l := xpr_no (by decide +kernel)
theorem r_43_103 : xfetch 43 103 = some (.goto 39, 3) := by decide +kernel
theorem n_43_103 : ∀ l, xpr 43 103 l = l := xpr_no (by decide +kernel)
theorem r_43_106 : xfetch 43 106 = some (.aload_n 0, 1) := by decide +kernel
theorem n_43_106 : ∀ l, xpr 43 106 l = l := xpr_no (by decide +kernel)
theorem r_43_107 : xfetch 43 107 = some (.iload_n 2, 1) := by decide +kernel
theorem n_43_107 : ∀ l, xpr 43 107 l = l := xpr_no (by decide +kernel)
theorem r_43_108 : xfetch 43 108 = some (.iload 5, 2) := by decide +kernel
theorem n_43_108 : ∀ l, xpr 43 108 l = l := xpr_no (by decide +kernel)
theorem r_43_110 : xfetch 43 110 = some (.invokevirtual 86, 3) := by decide +kernel
theorem n_43_110 : ∀ l, xpr 43 110 l = l := xpr_no (by decide +kernel)
theorem r_43_113 : xfetch 43 113 = some (.aload_n 0, 1) := by decide +kernel
theorem n_43_113 : ∀ l, xpr 43 113 l = l := xpr_no (by decide +kernel)
theorem r_43_114 : xfetch 43 114 = some (.dup, 1) := by decide +kernel
theorem n_43_114 : ∀ l, xpr 43 114 l = l := xpr_no (by decide +kernel)
theorem r_43_115 : xfetch 43 115 = some (.getfield 38, 3) := by decide +kernel
theorem n_43_115 : ∀ l, xpr 43 115 l = l := xpr_no (by decide +kernel)
theorem r_43_118 : xfetch 43 118 = some (.iload 5, 2) := by decide +kernel
theorem n_43_118 : ∀ l, xpr 43 118 l = l := xpr_no (by decide +kernel)
theorem r_43_120 : xfetch 43 120 = some (.aload_n 3, 1) := by decide +kernel
theorem n_43_120 : ∀ l, xpr 43 120 l = l := xpr_no (by decide +kernel)
theorem r_43_121 : xfetch 43 121 = some (.ifnonnull 12, 3) := by decide +kernel
theorem n_43_121 : ∀ l, xpr 43 121 l = l := xpr_no (by decide +kernel)
theorem r_43_124 : xfetch 43 124 = some (.aload_n 0, 1) := by decide +kernel
theorem n_43_124 : ∀ l, xpr 43 124 l = l := xpr_no (by decide +kernel)
theorem r_43_125 : xfetch 43 125 = some (.getfield 18, 3) := by decide +kernel
theorem n_43_125 : ∀ l, xpr 43 125 l = l := xpr_no (by decide +kernel)
theorem r_43_128 : xfetch 43 128 = some (.iload_n 2, 1) := by decide +kernel
theorem n_43_128 : ∀ l, xpr 43 128 l = l := xpr_no (by decide +kernel)
theorem r_43_129 : xfetch 43 129 = some (.iaload, 1) := by decide +kernel
theorem n_43_129 : ∀ l, xpr 43 129 l = l := xpr_no (by decide +kernel)
theorem r_43_130 : xfetch 43 130 = some (.goto 7, 3) := by decide +kernel
theorem n_43_130 : ∀ l, xpr 43 130 l = l := xpr_no (by decide +kernel)
theorem r_43_133 : xfetch 43 133 = some (.aload_n 3, 1) := by decide +kernel
theorem n_43_133 : ∀ l, xpr 43 133 l = l := xpr_no (by decide +kernel)
theorem r_43_134 : xfetch 43 134 = some (.getfield 38, 3) := by decide +kernel
theorem n_43_134 : ∀ l, xpr 43 134 l = l := xpr_no (by decide +kernel)
theorem r_43_137 : xfetch 43 137 = some (.imul, 1) := by decide +kernel
theorem n_43_137 : ∀ l, xpr 43 137 l = l := xpr_no (by decide +kernel)
theorem r_43_138 : xfetch 43 138 = some (.iadd, 1) := by decide +kernel
theorem n_43_138 : ∀ l, xpr 43 138 l = l := xpr_no (by decide +kernel)
theorem r_43_139 : xfetch 43 139 = some (.putfield 38, 3) := by decide +kernel
theorem n_43_139 : ∀ l, xpr 43 139 l = l := xpr_no (by decide +kernel)
theorem r_43_142 : xfetch 43 142 = some (.iconst 0, 1) := by decide +kernel
theorem n_43_142 : ∀ l, xpr 43 142 l = l := xpr_no (by decide +kernel)
theorem r_43_143 : xfetch 43 143 = some (.istore 6, 2) := by decide +kernel
theorem n_43_143 : ∀ l, xpr 43 143 l = l := xpr_no (by decide +kernel)
theorem r_43_145 : xfetch 43 145 = some (.iload 6, 2) := by decide +kernel
theorem r_43_147 : xfetch 43 147 = some (.iload 5, 2) := by decide +kernel
theorem n_43_147 : ∀ l, xpr 43 147 l = l := xpr_no (by decide +kernel)
theorem r_43_149 : xfetch 43 149 = some (.if_icmp .ge 74, 3) := by decide +kernel
theorem n_43_149 : ∀ l, xpr 43 149 l = l := xpr_no (by decide +kernel)
theorem r_43_152 : xfetch 43 152 = some (.aload_n 3, 1) := by decide +kernel
theorem n_43_152 : ∀ l, xpr 43 152 l = l := xpr_no (by decide +kernel)
theorem r_43_153 : xfetch 43 153 = some (.ifnonnull 52, 3) := by decide +kernel
theorem n_43_153 : ∀ l, xpr 43 153 l = l := xpr_no (by decide +kernel)
theorem r_43_156 : xfetch 43 156 = some (.aload_n 0, 1) := by decide +kernel
theorem n_43_156 : ∀ l, xpr 43 156 l = l := xpr_no (by decide +kernel)
theorem r_43_157 : xfetch 43 157 = some (.getfield 27, 3) := by decide +kernel
theorem n_43_157 : ∀ l, xpr 43 157 l = l := xpr_no (by decide +kernel)
theorem r_43_160 : xfetch 43 160 = some (.iload 4, 2) := by decide +kernel
theorem n_43_160 : ∀ l, xpr 43 160 l = l := xpr_no (by decide +kernel)
theorem r_43_162 : xfetch 43 162 = some (.aload_n 0, 1) := by decide +kernel
theorem n_43_162 : ∀ l, xpr 43 162 l = l := xpr_no (by decide +kernel)
theorem r_43_163 : xfetch 43 163 = some (.getfield 9, 3) := by decide +kernel
theorem n_43_163 : ∀ l, xpr 43 163 l = l := xpr_no (by decide +kernel)
theorem r_43_166 : xfetch 43 166 = some (.iload_n 2, 1) := by decide +kernel
theorem n_43_166 : ∀ l, xpr 43 166 l = l := xpr_no (by decide +kernel)
theorem r_43_167 : xfetch 43 167 = some (.iaload, 1) := by decide +kernel
theorem n_43_167 : ∀ l, xpr 43 167 l = l := xpr_no (by decide +kernel)
theorem r_43_168 : xfetch 43 168 = some (.iload 6, 2) := by decide +kernel
theorem n_43_168 : ∀ l, xpr 43 168 l = l := xpr_no (by decide +kernel)
theorem r_43_170 : xfetch 43 170 = some (.aload_n 0, 1) := by decide +kernel
theorem n_43_170 : ∀ l, xpr 43 170 l = l := xpr_no (by decide +kernel)
theorem r_43_171 : xfetch 43 171 = some (.getfield 18, 3) := by decide +kernel
theorem n_43_171 : ∀ l, xpr 43 171 l = l := xpr_no (by decide +kernel)
theorem r_43_174 : xfetch 43 174 = some (.iload_n 2, 1) := by decide +kernel
theorem n_43_174 : ∀ l, xpr 43 174 l = l := xpr_no (by decide +kernel)
theorem r_43_175 : xfetch 43 175 = some (.iaload, 1) := by decide +kernel
theorem n_43_175 : ∀ l, xpr 43 175 l = l := xpr_no (by decide +kernel)
theorem r_43_176 : xfetch 43 176 = some (.imul, 1) := by decide +kernel
theorem n_43_176 : ∀ l, xpr 43 176 l = l := xpr_no (by decide +kernel)
theorem r_43_177 : xfetch 43 177 = some (.iadd, 1) := by decide +kernel
theorem n_43_177 : ∀ l, xpr 43 177 l = l := xpr_no (by decide +kernel)
theorem r_43_178 : xfetch 43 178 = some (.aload_n 0, 1) := by decide +kernel
theorem n_43_178 : ∀ l, xpr 43 178 l = l := xpr_no (by decide +kernel)
theorem r_43_179 : xfetch 43 179 = some (.getfield 15, 3) := by decide +kernel
theorem n_43_179 : ∀ l, xpr 43 179 l = l := xpr_no (by decide +kernel)
theorem r_43_182 : xfetch 43 182 = some (.iload_n 2, 1) := by decide +kernel
theorem n_43_182 : ∀ l, xpr 43 182 l = l := xpr_no (by decide +kernel)
theorem r_43_183 : xfetch 43 183 = some (.iaload, 1) := by decide +kernel
theorem n_43_183 : ∀ l, xpr 43 183 l = l := xpr_no (by decide +kernel)
theorem r_43_184 : xfetch 43 184 = some (.iload_n 2, 1) := by decide +kernel
theorem n_43_184 : ∀ l, xpr 43 184 l = l := xpr_no (by decide +kernel)
theorem r_43_185 : xfetch 43 185 = some (.aload_n 1, 1) := by decide +kernel
theorem n_43_185 : ∀ l, xpr 43 185 l = l := xpr_no (by decide +kernel)
theorem r_43_186 : xfetch 43 186 = some (.getfield 89, 3) := by decide +kernel
theorem n_43_186 : ∀ l, xpr 43 186 l = l := xpr_no (by decide +kernel)
theorem r_43_189 : xfetch 43 189 = some (.iload_n 2, 1) := by decide +kernel
theorem n_43_189 : ∀ l, xpr 43 189 l = l := xpr_no (by decide +kernel)
theorem r_43_190 : xfetch 43 190 = some (.iaload, 1) := by decide +kernel
theorem n_43_190 : ∀ l, xpr 43 190 l = l := xpr_no (by decide +kernel)
theorem r_43_191 : xfetch 43 191 = some (.iload 6, 2) := by decide +kernel
theorem n_43_191 : ∀ l, xpr 43 191 l = l := xpr_no (by decide +kernel)
theorem r_43_193 : xfetch 43 193 = some (.iload 5, 2) := by decide +kernel
theorem n_43_193 : ∀ l, xpr 43 193 l = l := xpr_no (by decide +kernel)
theorem r_43_195 : xfetch 43 195 = some (.lconst 0, 1) := by decide +kernel
theorem n_43_195 : ∀ l, xpr 43 195 l = l := xpr_no (by decide +kernel)
theorem r_43_196 : xfetch 43 196 = some (.invokestatic 92, 3) := by decide +kernel
theorem n_43_196 : ∀ l, xpr 43 196 l = l := xpr_no (by decide +kernel)
theorem r_43_199 : xfetch 43 199 = some (.invokevirtual 96, 3) := by decide +kernel
theorem n_43_199 : ∀ l, xpr 43 199 l = l := xpr_no (by decide +kernel)
theorem r_43_202 : xfetch 43 202 = some (.goto 15, 3) := by decide +kernel
theorem n_43_202 : ∀ l, xpr 43 202 l = l := xpr_no (by decide +kernel)
theorem r_43_205 : xfetch 43 205 = some (.aload_n 0, 1) := by decide +kernel
theorem n_43_205 : ∀ l, xpr 43 205 l = l := xpr_no (by decide +kernel)
theorem r_43_206 : xfetch 43 206 = some (.aload_n 1, 1) := by decide +kernel
theorem n_43_206 : ∀ l, xpr 43 206 l = l := xpr_no (by decide +kernel)
theorem r_43_207 : xfetch 43 207 = some (.iload_n 2, 1) := by decide +kernel
theorem n_43_207 : ∀ l, xpr 43 207 l = l := xpr_no (by decide +kernel)
theorem r_43_208 : xfetch 43 208 = some (.iload 6, 2) := by decide +kernel
theorem n_43_208 : ∀ l, xpr 43 208 l = l := xpr_no (by decide +kernel)
theorem r_43_210 : xfetch 43 210 = some (.aload_n 3, 1) := by decide +kernel
theorem n_43_210 : ∀ l, xpr 43 210 l = l := xpr_no (by decide +kernel)
theorem r_43_211 : xfetch 43 211 = some (.getfield 27, 3) := by decide +kernel
theorem n_43_211 : ∀ l, xpr 43 211 l = l := xpr_no (by decide +kernel)
theorem r_43_214 : xfetch 43 214 = some (.invokevirtual 100, 3) := by decide +kernel
theorem n_43_214 : ∀ l, xpr 43 214 l = l := xpr_no (by decide +kernel)
theorem r_43_217 : xfetch 43 217 = some (.iinc 6 1, 3) := by decide +kernel
theorem n_43_217 : ∀ l, xpr 43 217 l = l := xpr_no (by decide +kernel)
theorem r_43_220 : xfetch 43 220 = some (.goto (-75), 3) := by decide +kernel
theorem n_43_220 : ∀ l, xpr 43 220 l = l := xpr_no (by decide +kernel)
theorem r_43_223 : xfetch 43 223 = some (.return_, 1) := by decide +kernel
theorem n_43_223 : ∀ l, xpr 43 223 l = l := xpr_no (by decide +kernel)
theorem v_Shape_place_0 {S : Option (Nat × (Nat → Int32))} {s : zSt} {Q : Option Value ⊕ Nat → zSt → Prop} {a0 : Int} {a1 : Int} {x2 : Int} {a3 : Int} (ha0 : isO a0 4) (ha1 : isO a1 1) (ha3 : 0 ≤ a3 → isO a3 4)
    (h : (0 ≤ x2 ∧ x2 < 8) ∧ ((0 ≤ a3 → wp S 29 0 [(0, rf a3)] [] s (fun o8 s8 => zkI (fun y8 => wp S 16 0 [(0, iv (zI (zwI s8 (a0 + 3) x2 y8) a3 5)), (1, iv (zI (zwI s8 (a0 + 3) x2 y8) a1 0))] [] (zwI s8 (a0 + 3) x2 y8) (fun o13 s13 => zkI (fun y13 => wp S 15 0 [(0, iv (zI (zwI s13 (a0 + 4) x2 y13) a0 5)), (1, iv (zI (zwI s13 (a0 + 4) x2 y13) (a0 + 4) x2))] [] (zwI s13 (a0 + 4) x2 y13) (fun o18 s18 => zkI (fun y18 => wp S 46 0 [(0, iv (zI s (a1 + 2) x2))] [] (zwI s18 a0 5 y18) (fun o20 s20 => zkI (fun y20 => (y20 = 0 → wp S 48 0 [(0, rf a0), (1, iv x2), (2, iv (zI s (a1 + 3) x2))] [] s20 (fun o23 s23 => zkU (rng ((zI s23 a0 6) + ((zI s (a1 + 3) x2) * (zI s23 a3 6))) ∧ (wp S 43 145 [(0, rf a0), (1, rf a1), (2, iv x2), (3, rf a3), (4, iv (zI s (a1 + 2) x2)), (5, iv (zI s (a1 + 3) x2)), (6, iv 0)] [] (zwI s23 a0 6 ((zI s23 a0 6) + ((zI s (a1 + 3) x2) * (zI s23 a3 6)))) Q)) (fun e23 => False) o23)) ∧ (y20 ≠ 0 → wp S 47 0 [(0, rf a0), (1, iv x2), (2, iv ((zI s (a1 + 2) x2) - 20))] [] s20 (fun o28 s28 => zkU (wp S 43 145 [(0, rf a0), (1, rf a1), (2, iv x2), (3, rf a3), (4, iv (zI s (a1 + 2) x2)), (5, iv (zI s (a1 + 3) x2)), (6, iv 0)] [] s28 Q) (fun e28 => False) o28))) (fun e20 => False) o20)) (fun e18 => False) o18)) (fun e13 => False) o13)) (fun e8 => False) o8)) ∧ (a3 < 0 → wp S 44 0 [(0, iv (zI s (a1 + 2) x2))] [] s (fun o30 s30 => zkI (fun y30 => (0 ≤ a3 → wp S 16 0 [(0, iv (zI (zwI s30 (a0 + 3) x2 y30) a3 5)), (1, iv (zI (zwI s30 (a0 + 3) x2 y30) a1 0))] [] (zwI s30 (a0 + 3) x2 y30) (fun o36 s36 => zkI (fun y36 => wp S 15 0 [(0, iv (zI (zwI s36 (a0 + 4) x2 y36) a0 5)), (1, iv (zI (zwI s36 (a0 + 4) x2 y36) (a0 + 4) x2))] [] (zwI s36 (a0 + 4) x2 y36) (fun o41 s41 => zkI (fun y41 => wp S 46 0 [(0, iv (zI s (a1 + 2) x2))] [] (zwI s41 a0 5 y41) (fun o43 s43 => zkI (fun y43 => (y43 = 0 → wp S 48 0 [(0, rf a0), (1, iv x2), (2, iv (zI s (a1 + 3) x2))] [] s43 (fun o46 s46 => zkU (rng ((zI s46 a0 6) + ((zI s (a1 + 3) x2) * (zI s46 a3 6))) ∧ (wp S 43 145 [(0, rf a0), (1, rf a1), (2, iv x2), (3, rf a3), (4, iv (zI s (a1 + 2) x2)), (5, iv (zI s (a1 + 3) x2)), (6, iv 0)] [] (zwI s46 a0 6 ((zI s46 a0 6) + ((zI s (a1 + 3) x2) * (zI s46 a3 6)))) Q)) (fun e46 => False) o46)) ∧ (y43 ≠ 0 → wp S 47 0 [(0, rf a0), (1, iv x2), (2, iv ((zI s (a1 + 2) x2) - 20))] [] s43 (fun o51 s51 => zkU (wp S 43 145 [(0, rf a0), (1, rf a1), (2, iv x2), (3, rf a3), (4, iv (zI s (a1 + 2) x2)), (5, iv (zI s (a1 + 3) x2)), (6, iv 0)] [] s51 Q) (fun e51 => False) o51))) (fun e43 => False) o43)) (fun e41 => False) o41)) (fun e36 => False) o36)) ∧ (a3 < 0 → wp S 16 0 [(0, iv (zI (zwI s30 (a0 + 3) x2 y30) (a0 + 3) x2)), (1, iv (zI (zwI s30 (a0 + 3) x2 y30) a1 0))] [] (zwI s30 (a0 + 3) x2 y30) (fun o56 s56 => zkI (fun y56 => wp S 15 0 [(0, iv (zI (zwI s56 (a0 + 4) x2 y56) a0 5)), (1, iv (zI (zwI s56 (a0 + 4) x2 y56) (a0 + 4) x2))] [] (zwI s56 (a0 + 4) x2 y56) (fun o61 s61 => zkI (fun y61 => wp S 46 0 [(0, iv (zI s (a1 + 2) x2))] [] (zwI s61 a0 5 y61) (fun o63 s63 => zkI (fun y63 => (y63 = 0 → wp S 48 0 [(0, rf a0), (1, iv x2), (2, iv (zI s (a1 + 3) x2))] [] s63 (fun o66 s66 => zkU ((0 ≤ a3 → rng ((zI s66 a0 6) + ((zI s (a1 + 3) x2) * (zI s66 a3 6))) ∧ (wp S 43 145 [(0, rf a0), (1, rf a1), (2, iv x2), (3, rf a3), (4, iv (zI s (a1 + 2) x2)), (5, iv (zI s (a1 + 3) x2)), (6, iv 0)] [] (zwI s66 a0 6 ((zI s66 a0 6) + ((zI s (a1 + 3) x2) * (zI s66 a3 6)))) Q)) ∧ (a3 < 0 → rng ((zI s66 a0 6) + ((zI s (a1 + 3) x2) * (zI s66 (a0 + 3) x2))) ∧ (wp S 43 145 [(0, rf a0), (1, rf a1), (2, iv x2), (3, orf a3), (4, iv (zI s (a1 + 2) x2)), (5, iv (zI s (a1 + 3) x2)), (6, iv 0)] [] (zwI s66 a0 6 ((zI s66 a0 6) + ((zI s (a1 + 3) x2) * (zI s66 (a0 + 3) x2)))) Q))) (fun e66 => False) o66)) ∧ (y63 ≠ 0 → wp S 47 0 [(0, rf a0), (1, iv x2), (2, iv ((zI s (a1 + 2) x2) - 20))] [] s63 (fun o75 s75 => zkU (wp S 43 145 [(0, rf a0), (1, rf a1), (2, iv x2), (3, orf a3), (4, iv (zI s (a1 + 2) x2)), (5, iv (zI s (a1 + 3) x2)), (6, iv 0)] [] s75 Q) (fun e75 => False) o75))) (fun e63 => False) o63)) (fun e61 => False) o61)) (fun e56 => False) o56))) (fun e30 => False) o30)))) :
    wp S 43 0 [(0, rf a0), (1, rf a1), (2, iv x2), (3, orf a3)] [] s Q := by
  refine i_aload_n (a := a1) r_43_0 (n_43_0 _) rfl ?_
  refine i_getR (a := a1) (b := a1 + 2) r_43_1 (n_43_1 _) rfl rfl rfl (by omega) ha1 (by omega) ?_
  have t1 := (t_1_3 ha1)
  refine i_iload_n (x := x2) r_43_4 (n_43_4 _) rfl ?_
  obtain ⟨g2, h⟩ := h
  refine i_iaload (a := a1 + 2) (j := x2) r_43_5 (n_43_5 _) t1 ⟨by omega, by omega⟩ (by omega) (by omega) (fun q3 => ?_)
  refine i_istore (l' := [(0, rf a0), (1, rf a1), (2, iv x2), (3, orf a3), (4, iv (zI s (a1 + 2) x2))]) r_43_6 (n_43_6 _) (by decide) rfl ?_
  refine i_aload_n (a := a1) r_43_8 (n_43_8 _) rfl ?_
  refine i_getR (a := a1) (b := a1 + 3) r_43_9 (n_43_9 _) rfl rfl rfl (by omega) ha1 (by omega) ?_
  have t4 := (t_1_4 ha1)
  refine i_iload_n (x := x2) r_43_12 (n_43_12 _) rfl ?_
  refine i_iaload (a := a1 + 3) (j := x2) r_43_13 (n_43_13 _) t4 ⟨by omega, by omega⟩ (by omega) (by omega) (fun q5 => ?_)
  refine i_istore (l' := [(0, rf a0), (1, rf a1), (2, iv x2), (3, orf a3), (4, iv (zI s (a1 + 2) x2)), (5, iv (zI s (a1 + 3) x2))]) r_43_14 (n_43_14 _) (by decide) rfl ?_
  refine i_aload_n (a := a0) r_43_16 (n_43_16 _) rfl ?_
  refine i_getR (a := a0) (b := a0 + 3) r_43_17 (n_43_17 _) rfl rfl rfl (by omega) ha0 (by omega) ?_
  have t6 := (t_4_2 ha0)
  refine i_iload_n (x := x2) r_43_20 (n_43_20 _) rfl ?_
  refine i_aloadN_n (a := a3) r_43_21 (n_43_21 _) rfl ?_
  refine i_ifnonnull (t := 33) r_43_22 (n_43_22 _) rfl (fun c7 => ?_) (fun c7 => ?_)
  · replace h := h.1 c7
    rw [show [(0, rf a0), (1, rf a1), (2, iv x2), (3, orf a3), (4, iv (zI s (a1 + 2) x2)), (5, iv (zI s (a1 + 3) x2))] = [(0, rf a0), (1, rf a1), (2, iv x2), (3, rf a3), (4, iv (zI s (a1 + 2) x2)), (5, iv (zI s (a1 + 3) x2))] by rw [orf_pos c7]]
    refine i_aload_n (a := a3) r_43_33 (n_43_33 _) rfl ?_
    refine wp_virt (b := a3) (rest := [iv x2, rf (a0 + 3)]) (Ls := [(0, rf a3)]) r_43_34 (n_43_34 _) rfl ⟨rfl, rfl, by decide, by decide⟩ rfl rfl (ha3 c7) ⟨rfl, Nat.le_of_ble_eq_true rfl, Nat.le_of_ble_eq_true rfl⟩ rfl h ?_
    intro o8 s8 h
    rcases h with ⟨y8, q9, rfl, h⟩ | ⟨e8, rfl, h⟩
    · refine .inl ⟨some (iv y8), rfl, ?_⟩
      show wp S 43 37 [(0, rf a0), (1, rf a1), (2, iv x2), (3, rf a3), (4, iv (zI s (a1 + 2) x2)), (5, iv (zI s (a1 + 3) x2))] [iv y8, iv x2, rf (a0 + 3)] s8 Q
      refine i_iastore (a := a0 + 3) (j := x2) (x := y8) r_43_37 (n_43_37 _) t6 ⟨by omega, by omega⟩ (by omega) (by omega) q9 ?_
      refine i_aload_n (a := a0) r_43_38 (n_43_38 _) rfl ?_
      refine i_getR (a := a0) (b := a0 + 4) r_43_39 (n_43_39 _) rfl rfl rfl (by omega) ha0 (by omega) ?_
      have t10 := (t_4_3 ha0)
      refine i_iload_n (x := x2) r_43_42 (n_43_42 _) rfl ?_
      refine i_aload_n (a := a3) r_43_43 (n_43_43 _) rfl ?_
      refine i_ifnonnullA (t := 56) (a := a3) r_43_44 (n_43_44 _) rfl (ha3 c7).1 ?_
      refine i_aload_n (a := a3) r_43_56 (n_43_56 _) rfl ?_
      refine i_getI (a := a3) r_43_57 (n_43_57 _) rfl (by decide) (ha3 c7) (fun q11 => ?_)
      refine i_aload_n (a := a1) r_43_60 (n_43_60 _) rfl ?_
      refine i_getI (a := a1) r_43_61 (n_43_61 _) rfl (by decide) ha1 (fun q12 => ?_)
      refine wp_stat (rest := [iv x2, rf (a0 + 4)]) (Ls := [(0, iv (zI (zwI s8 (a0 + 3) x2 y8) a3 5)), (1, iv (zI (zwI s8 (a0 + 3) x2 y8) a1 0))]) r_43_64 (n_43_64 _) rfl ⟨rfl, by decide, by decide, by decide⟩ rfl rfl ⟨rfl, Nat.le_of_ble_eq_true rfl, Nat.le_of_ble_eq_true rfl⟩ rfl h ?_
      intro o13 s13 h
      rcases h with ⟨y13, q14, rfl, h⟩ | ⟨e13, rfl, h⟩
      · refine .inl ⟨some (iv y13), rfl, ?_⟩
        show wp S 43 67 [(0, rf a0), (1, rf a1), (2, iv x2), (3, rf a3), (4, iv (zI s (a1 + 2) x2)), (5, iv (zI s (a1 + 3) x2))] [iv y13, iv x2, rf (a0 + 4)] s13 Q
        refine i_iastore (a := a0 + 4) (j := x2) (x := y13) r_43_67 (n_43_67 _) t10 ⟨by omega, by omega⟩ (by omega) (by omega) q14 ?_
        refine i_aload_n (a := a0) r_43_68 (n_43_68 _) rfl ?_
        refine i_aload_n (a := a0) r_43_69 (n_43_69 _) rfl ?_
        refine i_getI (a := a0) r_43_70 (n_43_70 _) rfl (by decide) ha0 (fun q15 => ?_)
        refine i_aload_n (a := a0) r_43_73 (n_43_73 _) rfl ?_
        refine i_getR (a := a0) (b := a0 + 4) r_43_74 (n_43_74 _) rfl rfl rfl (by omega) ha0 (by omega) ?_
        have t16 := (t_4_3 ha0)
        refine i_iload_n (x := x2) r_43_77 (n_43_77 _) rfl ?_
        refine i_iaload (a := a0 + 4) (j := x2) r_43_78 (n_43_78 _) t16 ⟨by omega, by omega⟩ (by omega) (by omega) (fun q17 => ?_)
        refine wp_stat (rest := [rf a0]) (Ls := [(0, iv (zI (zwI s13 (a0 + 4) x2 y13) a0 5)), (1, iv (zI (zwI s13 (a0 + 4) x2 y13) (a0 + 4) x2))]) r_43_79 (n_43_79 _) rfl ⟨rfl, by decide, by decide, by decide⟩ rfl rfl ⟨rfl, Nat.le_of_ble_eq_true rfl, Nat.le_of_ble_eq_true rfl⟩ rfl h ?_
        intro o18 s18 h
        rcases h with ⟨y18, q19, rfl, h⟩ | ⟨e18, rfl, h⟩
        · refine .inl ⟨some (iv y18), rfl, ?_⟩
          show wp S 43 82 [(0, rf a0), (1, rf a1), (2, iv x2), (3, rf a3), (4, iv (zI s (a1 + 2) x2)), (5, iv (zI s (a1 + 3) x2))] [iv y18, rf a0] s18 Q
          refine i_putI (a := a0) (x := y18) r_43_82 (n_43_82 _) rfl (.inl rfl) rfl ha0 q19 ?_
          refine i_iload (x := zI s (a1 + 2) x2) r_43_85 (n_43_85 _) rfl ?_
          refine wp_stat (rest := []) (Ls := [(0, iv (zI s (a1 + 2) x2))]) r_43_87 (n_43_87 _) rfl ⟨rfl, by decide, by decide, by decide⟩ rfl rfl ⟨rfl, Nat.le_of_ble_eq_true rfl, Nat.le_of_ble_eq_true rfl⟩ rfl h ?_
          intro o20 s20 h
          rcases h with ⟨y20, q21, rfl, h⟩ | ⟨e20, rfl, h⟩
          · refine .inl ⟨some (iv y20), rfl, ?_⟩
            show wp S 43 90 [(0, rf a0), (1, rf a1), (2, iv x2), (3, rf a3), (4, iv (zI s (a1 + 2) x2)), (5, iv (zI s (a1 + 3) x2))] [iv y20] s20 Q
            refine i_if (t := 106) r_43_90 (n_43_90 _) rfl (T_eq q21 ⟨by omega, by omega⟩) (fun c22 => ?_) (fun c22 => ?_)
            · replace h := h.1 c22
              refine i_aload_n (a := a0) r_43_106 (n_43_106 _) rfl ?_
              refine i_iload_n (x := x2) r_43_107 (n_43_107 _) rfl ?_
              refine i_iload (x := zI s (a1 + 3) x2) r_43_108 (n_43_108 _) rfl ?_
              refine wp_virt (b := a0) (rest := []) (Ls := [(0, rf a0), (1, iv x2), (2, iv (zI s (a1 + 3) x2))]) r_43_110 (n_43_110 _) rfl ⟨rfl, rfl, by decide, by decide⟩ rfl rfl ha0 ⟨rfl, Nat.le_of_ble_eq_true rfl, Nat.le_of_ble_eq_true rfl⟩ rfl h ?_
              intro o23 s23 h
              rcases h with ⟨rfl, h⟩ | ⟨e23, rfl, h⟩
              · refine .inl ⟨none, rfl, ?_⟩
                refine i_aload_n (a := a0) r_43_113 (n_43_113 _) rfl ?_
                refine i_dup r_43_114 (n_43_114 _) rfl ?_
                refine i_getI (a := a0) r_43_115 (n_43_115 _) rfl (by decide) ha0 (fun q25 => ?_)
                refine i_iload (x := zI s (a1 + 3) x2) r_43_118 (n_43_118 _) rfl ?_
                refine i_aload_n (a := a3) r_43_120 (n_43_120 _) rfl ?_
                refine i_ifnonnullA (t := 133) (a := a3) r_43_121 (n_43_121 _) rfl (ha3 c7).1 ?_
                refine i_aload_n (a := a3) r_43_133 (n_43_133 _) rfl ?_
                refine i_getI (a := a3) r_43_134 (n_43_134 _) rfl (by decide) (ha3 c7) (fun q26 => ?_)
                refine i_imul r_43_137 (n_43_137 _) ?_
                refine i_iadd r_43_138 (n_43_138 _) ?_
                obtain ⟨g27, h⟩ := h
                refine i_putI (a := a0) (x := (zI s23 a0 6) + ((zI s (a1 + 3) x2) * (zI s23 a3 6))) r_43_139 (n_43_139 _) rfl (.inl rfl) rfl ha0 g27 ?_
                refine i_iconst r_43_142 (n_43_142 _) ?_
                refine i_istore (l' := [(0, rf a0), (1, rf a1), (2, iv x2), (3, rf a3), (4, iv (zI s (a1 + 2) x2)), (5, iv (zI s (a1 + 3) x2)), (6, iv 0)]) r_43_143 (n_43_143 _) (by decide) rfl ?_
                exact wp_pr (l' := [(0, rf a0), (1, rf a1), (2, iv x2), (3, rf a3), (4, iv (zI s (a1 + 2) x2)), (5, iv (zI s (a1 + 3) x2)), (6, iv 0)]) rfl h
              · skip
                exact h.elim
            · replace h := h.2 c22
              refine i_aload_n (a := a0) r_43_93 (n_43_93 _) rfl ?_
              refine i_iload_n (x := x2) r_43_94 (n_43_94 _) rfl ?_
              refine i_iload (x := zI s (a1 + 2) x2) r_43_95 (n_43_95 _) rfl ?_
              refine i_bipush r_43_97 (n_43_97 _) rfl ?_
              refine i_isub r_43_99 (n_43_99 _) ?_
              refine wp_virt (b := a0) (rest := []) (Ls := [(0, rf a0), (1, iv x2), (2, iv ((zI s (a1 + 2) x2) - 20))]) r_43_100 (n_43_100 _) rfl ⟨rfl, rfl, by decide, by decide⟩ rfl rfl ha0 ⟨rfl, Nat.le_of_ble_eq_true rfl, Nat.le_of_ble_eq_true rfl⟩ rfl h ?_
              intro o28 s28 h
              rcases h with ⟨rfl, h⟩ | ⟨e28, rfl, h⟩
              · refine .inl ⟨none, rfl, ?_⟩
                refine i_goto (t := 142) r_43_103 (n_43_103 _) rfl ?_
                refine i_iconst r_43_142 (n_43_142 _) ?_
                refine i_istore (l' := [(0, rf a0), (1, rf a1), (2, iv x2), (3, rf a3), (4, iv (zI s (a1 + 2) x2)), (5, iv (zI s (a1 + 3) x2)), (6, iv 0)]) r_43_143 (n_43_143 _) (by decide) rfl ?_
                exact wp_pr (l' := [(0, rf a0), (1, rf a1), (2, iv x2), (3, rf a3), (4, iv (zI s (a1 + 2) x2)), (5, iv (zI s (a1 + 3) x2)), (6, iv 0)]) rfl h
              · skip
                exact h.elim
          · skip
            exact h.elim
        · skip
          exact h.elim
      · skip
        exact h.elim
    · skip
      exact h.elim
  · replace h := h.2 c7
    refine i_iload (x := zI s (a1 + 2) x2) r_43_25 (n_43_25 _) rfl ?_
    refine wp_stat (rest := [iv x2, rf (a0 + 3)]) (Ls := [(0, iv (zI s (a1 + 2) x2))]) r_43_27 (n_43_27 _) rfl ⟨rfl, by decide, by decide, by decide⟩ rfl rfl ⟨rfl, Nat.le_of_ble_eq_true rfl, Nat.le_of_ble_eq_true rfl⟩ rfl h ?_
    intro o30 s30 h
    rcases h with ⟨y30, q31, rfl, h⟩ | ⟨e30, rfl, h⟩
    · refine .inl ⟨some (iv y30), rfl, ?_⟩
      show wp S 43 30 [(0, rf a0), (1, rf a1), (2, iv x2), (3, orf a3), (4, iv (zI s (a1 + 2) x2)), (5, iv (zI s (a1 + 3) x2))] [iv y30, iv x2, rf (a0 + 3)] s30 Q
      refine i_goto (t := 37) r_43_30 (n_43_30 _) rfl ?_
      refine i_iastore (a := a0 + 3) (j := x2) (x := y30) r_43_37 (n_43_37 _) t6 ⟨by omega, by omega⟩ (by omega) (by omega) q31 ?_
      refine i_aload_n (a := a0) r_43_38 (n_43_38 _) rfl ?_
      refine i_getR (a := a0) (b := a0 + 4) r_43_39 (n_43_39 _) rfl rfl rfl (by omega) ha0 (by omega) ?_
      have t32 := (t_4_3 ha0)
      refine i_iload_n (x := x2) r_43_42 (n_43_42 _) rfl ?_
      refine i_aloadN_n (a := a3) r_43_43 (n_43_43 _) rfl ?_
      refine i_ifnonnull (t := 56) r_43_44 (n_43_44 _) rfl (fun c33 => ?_) (fun c33 => ?_)
      · replace h := h.1 c33
        rw [show [(0, rf a0), (1, rf a1), (2, iv x2), (3, orf a3), (4, iv (zI s (a1 + 2) x2)), (5, iv (zI s (a1 + 3) x2))] = [(0, rf a0), (1, rf a1), (2, iv x2), (3, rf a3), (4, iv (zI s (a1 + 2) x2)), (5, iv (zI s (a1 + 3) x2))] by rw [orf_pos c33]]
        refine i_aload_n (a := a3) r_43_56 (n_43_56 _) rfl ?_
        refine i_getI (a := a3) r_43_57 (n_43_57 _) rfl (by decide) (ha3 c33) (fun q34 => ?_)
        refine i_aload_n (a := a1) r_43_60 (n_43_60 _) rfl ?_
        refine i_getI (a := a1) r_43_61 (n_43_61 _) rfl (by decide) ha1 (fun q35 => ?_)
        refine wp_stat (rest := [iv x2, rf (a0 + 4)]) (Ls := [(0, iv (zI (zwI s30 (a0 + 3) x2 y30) a3 5)), (1, iv (zI (zwI s30 (a0 + 3) x2 y30) a1 0))]) r_43_64 (n_43_64 _) rfl ⟨rfl, by decide, by decide, by decide⟩ rfl rfl ⟨rfl, Nat.le_of_ble_eq_true rfl, Nat.le_of_ble_eq_true rfl⟩ rfl h ?_
        intro o36 s36 h
        rcases h with ⟨y36, q37, rfl, h⟩ | ⟨e36, rfl, h⟩
        · refine .inl ⟨some (iv y36), rfl, ?_⟩
          show wp S 43 67 [(0, rf a0), (1, rf a1), (2, iv x2), (3, rf a3), (4, iv (zI s (a1 + 2) x2)), (5, iv (zI s (a1 + 3) x2))] [iv y36, iv x2, rf (a0 + 4)] s36 Q
          refine i_iastore (a := a0 + 4) (j := x2) (x := y36) r_43_67 (n_43_67 _) t32 ⟨by omega, by omega⟩ (by omega) (by omega) q37 ?_
          refine i_aload_n (a := a0) r_43_68 (n_43_68 _) rfl ?_
          refine i_aload_n (a := a0) r_43_69 (n_43_69 _) rfl ?_
          refine i_getI (a := a0) r_43_70 (n_43_70 _) rfl (by decide) ha0 (fun q38 => ?_)
          refine i_aload_n (a := a0) r_43_73 (n_43_73 _) rfl ?_
          refine i_getR (a := a0) (b := a0 + 4) r_43_74 (n_43_74 _) rfl rfl rfl (by omega) ha0 (by omega) ?_
          have t39 := (t_4_3 ha0)
          refine i_iload_n (x := x2) r_43_77 (n_43_77 _) rfl ?_
          refine i_iaload (a := a0 + 4) (j := x2) r_43_78 (n_43_78 _) t39 ⟨by omega, by omega⟩ (by omega) (by omega) (fun q40 => ?_)
          refine wp_stat (rest := [rf a0]) (Ls := [(0, iv (zI (zwI s36 (a0 + 4) x2 y36) a0 5)), (1, iv (zI (zwI s36 (a0 + 4) x2 y36) (a0 + 4) x2))]) r_43_79 (n_43_79 _) rfl ⟨rfl, by decide, by decide, by decide⟩ rfl rfl ⟨rfl, Nat.le_of_ble_eq_true rfl, Nat.le_of_ble_eq_true rfl⟩ rfl h ?_
          intro o41 s41 h
          rcases h with ⟨y41, q42, rfl, h⟩ | ⟨e41, rfl, h⟩
          · refine .inl ⟨some (iv y41), rfl, ?_⟩
            show wp S 43 82 [(0, rf a0), (1, rf a1), (2, iv x2), (3, rf a3), (4, iv (zI s (a1 + 2) x2)), (5, iv (zI s (a1 + 3) x2))] [iv y41, rf a0] s41 Q
            refine i_putI (a := a0) (x := y41) r_43_82 (n_43_82 _) rfl (.inl rfl) rfl ha0 q42 ?_
            refine i_iload (x := zI s (a1 + 2) x2) r_43_85 (n_43_85 _) rfl ?_
            refine wp_stat (rest := []) (Ls := [(0, iv (zI s (a1 + 2) x2))]) r_43_87 (n_43_87 _) rfl ⟨rfl, by decide, by decide, by decide⟩ rfl rfl ⟨rfl, Nat.le_of_ble_eq_true rfl, Nat.le_of_ble_eq_true rfl⟩ rfl h ?_
            intro o43 s43 h
            rcases h with ⟨y43, q44, rfl, h⟩ | ⟨e43, rfl, h⟩
            · refine .inl ⟨some (iv y43), rfl, ?_⟩
              show wp S 43 90 [(0, rf a0), (1, rf a1), (2, iv x2), (3, rf a3), (4, iv (zI s (a1 + 2) x2)), (5, iv (zI s (a1 + 3) x2))] [iv y43] s43 Q
              refine i_if (t := 106) r_43_90 (n_43_90 _) rfl (T_eq q44 ⟨by omega, by omega⟩) (fun c45 => ?_) (fun c45 => ?_)
              · replace h := h.1 c45
                refine i_aload_n (a := a0) r_43_106 (n_43_106 _) rfl ?_
                refine i_iload_n (x := x2) r_43_107 (n_43_107 _) rfl ?_
                refine i_iload (x := zI s (a1 + 3) x2) r_43_108 (n_43_108 _) rfl ?_
                refine wp_virt (b := a0) (rest := []) (Ls := [(0, rf a0), (1, iv x2), (2, iv (zI s (a1 + 3) x2))]) r_43_110 (n_43_110 _) rfl ⟨rfl, rfl, by decide, by decide⟩ rfl rfl ha0 ⟨rfl, Nat.le_of_ble_eq_true rfl, Nat.le_of_ble_eq_true rfl⟩ rfl h ?_
                intro o46 s46 h
                rcases h with ⟨rfl, h⟩ | ⟨e46, rfl, h⟩
                · refine .inl ⟨none, rfl, ?_⟩
                  refine i_aload_n (a := a0) r_43_113 (n_43_113 _) rfl ?_
                  refine i_dup r_43_114 (n_43_114 _) rfl ?_
                  refine i_getI (a := a0) r_43_115 (n_43_115 _) rfl (by decide) ha0 (fun q48 => ?_)
                  refine i_iload (x := zI s (a1 + 3) x2) r_43_118 (n_43_118 _) rfl ?_
                  refine i_aload_n (a := a3) r_43_120 (n_43_120 _) rfl ?_
                  refine i_ifnonnullA (t := 133) (a := a3) r_43_121 (n_43_121 _) rfl (ha3 c33).1 ?_
                  refine i_aload_n (a := a3) r_43_133 (n_43_133 _) rfl ?_
                  refine i_getI (a := a3) r_43_134 (n_43_134 _) rfl (by decide) (ha3 c33) (fun q49 => ?_)
                  refine i_imul r_43_137 (n_43_137 _) ?_
                  refine i_iadd r_43_138 (n_43_138 _) ?_
                  obtain ⟨g50, h⟩ := h
                  refine i_putI (a := a0) (x := (zI s46 a0 6) + ((zI s (a1 + 3) x2) * (zI s46 a3 6))) r_43_139 (n_43_139 _) rfl (.inl rfl) rfl ha0 g50 ?_
                  refine i_iconst r_43_142 (n_43_142 _) ?_
                  refine i_istore (l' := [(0, rf a0), (1, rf a1), (2, iv x2), (3, rf a3), (4, iv (zI s (a1 + 2) x2)), (5, iv (zI s (a1 + 3) x2)), (6, iv 0)]) r_43_143 (n_43_143 _) (by decide) rfl ?_
                  exact wp_pr (l' := [(0, rf a0), (1, rf a1), (2, iv x2), (3, rf a3), (4, iv (zI s (a1 + 2) x2)), (5, iv (zI s (a1 + 3) x2)), (6, iv 0)]) rfl h
                · skip
                  exact h.elim
              · replace h := h.2 c45
                refine i_aload_n (a := a0) r_43_93 (n_43_93 _) rfl ?_
                refine i_iload_n (x := x2) r_43_94 (n_43_94 _) rfl ?_
                refine i_iload (x := zI s (a1 + 2) x2) r_43_95 (n_43_95 _) rfl ?_
                refine i_bipush r_43_97 (n_43_97 _) rfl ?_
                refine i_isub r_43_99 (n_43_99 _) ?_
                refine wp_virt (b := a0) (rest := []) (Ls := [(0, rf a0), (1, iv x2), (2, iv ((zI s (a1 + 2) x2) - 20))]) r_43_100 (n_43_100 _) rfl ⟨rfl, rfl, by decide, by decide⟩ rfl rfl ha0 ⟨rfl, Nat.le_of_ble_eq_true rfl, Nat.le_of_ble_eq_true rfl⟩ rfl h ?_
                intro o51 s51 h
                rcases h with ⟨rfl, h⟩ | ⟨e51, rfl, h⟩
                · refine .inl ⟨none, rfl, ?_⟩
                  refine i_goto (t := 142) r_43_103 (n_43_103 _) rfl ?_
                  refine i_iconst r_43_142 (n_43_142 _) ?_
                  refine i_istore (l' := [(0, rf a0), (1, rf a1), (2, iv x2), (3, rf a3), (4, iv (zI s (a1 + 2) x2)), (5, iv (zI s (a1 + 3) x2)), (6, iv 0)]) r_43_143 (n_43_143 _) (by decide) rfl ?_
                  exact wp_pr (l' := [(0, rf a0), (1, rf a1), (2, iv x2), (3, rf a3), (4, iv (zI s (a1 + 2) x2)), (5, iv (zI s (a1 + 3) x2)), (6, iv 0)]) rfl h
                · skip
                  exact h.elim
            · skip
              exact h.elim
          · skip
            exact h.elim
        · skip
          exact h.elim
      · replace h := h.2 c33
        refine i_aload_n (a := a0) r_43_47 (n_43_47 _) rfl ?_
        refine i_getR (a := a0) (b := a0 + 3) r_43_48 (n_43_48 _) rfl rfl rfl (by omega) ha0 (by omega) ?_
        have t53 := (t_4_2 ha0)
        refine i_iload_n (x := x2) r_43_51 (n_43_51 _) rfl ?_
        refine i_iaload (a := a0 + 3) (j := x2) r_43_52 (n_43_52 _) t53 ⟨by omega, by omega⟩ (by omega) (by omega) (fun q54 => ?_)
        refine i_goto (t := 60) r_43_53 (n_43_53 _) rfl ?_
        refine i_aload_n (a := a1) r_43_60 (n_43_60 _) rfl ?_
        refine i_getI (a := a1) r_43_61 (n_43_61 _) rfl (by decide) ha1 (fun q55 => ?_)
        refine wp_stat (rest := [iv x2, rf (a0 + 4)]) (Ls := [(0, iv (zI (zwI s30 (a0 + 3) x2 y30) (a0 + 3) x2)), (1, iv (zI (zwI s30 (a0 + 3) x2 y30) a1 0))]) r_43_64 (n_43_64 _) rfl ⟨rfl, by decide, by decide, by decide⟩ rfl rfl ⟨rfl, Nat.le_of_ble_eq_true rfl, Nat.le_of_ble_eq_true rfl⟩ rfl h ?_
        intro o56 s56 h
        rcases h with ⟨y56, q57, rfl, h⟩ | ⟨e56, rfl, h⟩
        · refine .inl ⟨some (iv y56), rfl, ?_⟩
          show wp S 43 67 [(0, rf a0), (1, rf a1), (2, iv x2), (3, orf a3), (4, iv (zI s (a1 + 2) x2)), (5, iv (zI s (a1 + 3) x2))] [iv y56, iv x2, rf (a0 + 4)] s56 Q
          refine i_iastore (a := a0 + 4) (j := x2) (x := y56) r_43_67 (n_43_67 _) t32 ⟨by omega, by omega⟩ (by omega) (by omega) q57 ?_
          refine i_aload_n (a := a0) r_43_68 (n_43_68 _) rfl ?_
          refine i_aload_n (a := a0) r_43_69 (n_43_69 _) rfl ?_
          refine i_getI (a := a0) r_43_70 (n_43_70 _) rfl (by decide) ha0 (fun q58 => ?_)
          refine i_aload_n (a := a0) r_43_73 (n_43_73 _) rfl ?_
          refine i_getR (a := a0) (b := a0 + 4) r_43_74 (n_43_74 _) rfl rfl rfl (by omega) ha0 (by omega) ?_
          have t59 := (t_4_3 ha0)
          refine i_iload_n (x := x2) r_43_77 (n_43_77 _) rfl ?_
          refine i_iaload (a := a0 + 4) (j := x2) r_43_78 (n_43_78 _) t59 ⟨by omega, by omega⟩ (by omega) (by omega) (fun q60 => ?_)
          refine wp_stat (rest := [rf a0]) (Ls := [(0, iv (zI (zwI s56 (a0 + 4) x2 y56) a0 5)), (1, iv (zI (zwI s56 (a0 + 4) x2 y56) (a0 + 4) x2))]) r_43_79 (n_43_79 _) rfl ⟨rfl, by decide, by decide, by decide⟩ rfl rfl ⟨rfl, Nat.le_of_ble_eq_true rfl, Nat.le_of_ble_eq_true rfl⟩ rfl h ?_
          intro o61 s61 h
          rcases h with ⟨y61, q62, rfl, h⟩ | ⟨e61, rfl, h⟩
          · refine .inl ⟨some (iv y61), rfl, ?_⟩
            show wp S 43 82 [(0, rf a0), (1, rf a1), (2, iv x2), (3, orf a3), (4, iv (zI s (a1 + 2) x2)), (5, iv (zI s (a1 + 3) x2))] [iv y61, rf a0] s61 Q
            refine i_putI (a := a0) (x := y61) r_43_82 (n_43_82 _) rfl (.inl rfl) rfl ha0 q62 ?_
            refine i_iload (x := zI s (a1 + 2) x2) r_43_85 (n_43_85 _) rfl ?_
            refine wp_stat (rest := []) (Ls := [(0, iv (zI s (a1 + 2) x2))]) r_43_87 (n_43_87 _) rfl ⟨rfl, by decide, by decide, by decide⟩ rfl rfl ⟨rfl, Nat.le_of_ble_eq_true rfl, Nat.le_of_ble_eq_true rfl⟩ rfl h ?_
            intro o63 s63 h
            rcases h with ⟨y63, q64, rfl, h⟩ | ⟨e63, rfl, h⟩
            · refine .inl ⟨some (iv y63), rfl, ?_⟩
              show wp S 43 90 [(0, rf a0), (1, rf a1), (2, iv x2), (3, orf a3), (4, iv (zI s (a1 + 2) x2)), (5, iv (zI s (a1 + 3) x2))] [iv y63] s63 Q
              refine i_if (t := 106) r_43_90 (n_43_90 _) rfl (T_eq q64 ⟨by omega, by omega⟩) (fun c65 => ?_) (fun c65 => ?_)
              · replace h := h.1 c65
                refine i_aload_n (a := a0) r_43_106 (n_43_106 _) rfl ?_
                refine i_iload_n (x := x2) r_43_107 (n_43_107 _) rfl ?_
                refine i_iload (x := zI s (a1 + 3) x2) r_43_108 (n_43_108 _) rfl ?_
                refine wp_virt (b := a0) (rest := []) (Ls := [(0, rf a0), (1, iv x2), (2, iv (zI s (a1 + 3) x2))]) r_43_110 (n_43_110 _) rfl ⟨rfl, rfl, by decide, by decide⟩ rfl rfl ha0 ⟨rfl, Nat.le_of_ble_eq_true rfl, Nat.le_of_ble_eq_true rfl⟩ rfl h ?_
                intro o66 s66 h
                rcases h with ⟨rfl, h⟩ | ⟨e66, rfl, h⟩
                · refine .inl ⟨none, rfl, ?_⟩
                  refine i_aload_n (a := a0) r_43_113 (n_43_113 _) rfl ?_
                  refine i_dup r_43_114 (n_43_114 _) rfl ?_
                  refine i_getI (a := a0) r_43_115 (n_43_115 _) rfl (by decide) ha0 (fun q68 => ?_)
                  refine i_iload (x := zI s (a1 + 3) x2) r_43_118 (n_43_118 _) rfl ?_
                  refine i_aloadN_n (a := a3) r_43_120 (n_43_120 _) rfl ?_
                  refine i_ifnonnull (t := 133) r_43_121 (n_43_121 _) rfl (fun c69 => ?_) (fun c69 => ?_)
                  · replace h := h.1 c69
                    rw [show [(0, rf a0), (1, rf a1), (2, iv x2), (3, orf a3), (4, iv (zI s (a1 + 2) x2)), (5, iv (zI s (a1 + 3) x2))] = [(0, rf a0), (1, rf a1), (2, iv x2), (3, rf a3), (4, iv (zI s (a1 + 2) x2)), (5, iv (zI s (a1 + 3) x2))] by rw [orf_pos c69]]
                    refine i_aload_n (a := a3) r_43_133 (n_43_133 _) rfl ?_
                    refine i_getI (a := a3) r_43_134 (n_43_134 _) rfl (by decide) (ha3 c69) (fun q70 => ?_)
                    refine i_imul r_43_137 (n_43_137 _) ?_
                    refine i_iadd r_43_138 (n_43_138 _) ?_
                    obtain ⟨g71, h⟩ := h
                    refine i_putI (a := a0) (x := (zI s66 a0 6) + ((zI s (a1 + 3) x2) * (zI s66 a3 6))) r_43_139 (n_43_139 _) rfl (.inl rfl) rfl ha0 g71 ?_
                    refine i_iconst r_43_142 (n_43_142 _) ?_
                    refine i_istore (l' := [(0, rf a0), (1, rf a1), (2, iv x2), (3, rf a3), (4, iv (zI s (a1 + 2) x2)), (5, iv (zI s (a1 + 3) x2)), (6, iv 0)]) r_43_143 (n_43_143 _) (by decide) rfl ?_
                    exact wp_pr (l' := [(0, rf a0), (1, rf a1), (2, iv x2), (3, rf a3), (4, iv (zI s (a1 + 2) x2)), (5, iv (zI s (a1 + 3) x2)), (6, iv 0)]) rfl h
                  · replace h := h.2 c69
                    refine i_aload_n (a := a0) r_43_124 (n_43_124 _) rfl ?_
                    refine i_getR (a := a0) (b := a0 + 3) r_43_125 (n_43_125 _) rfl rfl rfl (by omega) ha0 (by omega) ?_
                    have t72 := (t_4_2 ha0)
                    refine i_iload_n (x := x2) r_43_128 (n_43_128 _) rfl ?_
                    refine i_iaload (a := a0 + 3) (j := x2) r_43_129 (n_43_129 _) t72 ⟨by omega, by omega⟩ (by omega) (by omega) (fun q73 => ?_)
                    refine i_goto (t := 137) r_43_130 (n_43_130 _) rfl ?_
                    refine i_imul r_43_137 (n_43_137 _) ?_
                    refine i_iadd r_43_138 (n_43_138 _) ?_
                    obtain ⟨g74, h⟩ := h
                    refine i_putI (a := a0) (x := (zI s66 a0 6) + ((zI s (a1 + 3) x2) * (zI s66 (a0 + 3) x2))) r_43_139 (n_43_139 _) rfl (.inl rfl) rfl ha0 g74 ?_
                    refine i_iconst r_43_142 (n_43_142 _) ?_
                    refine i_istore (l' := [(0, rf a0), (1, rf a1), (2, iv x2), (3, orf a3), (4, iv (zI s (a1 + 2) x2)), (5, iv (zI s (a1 + 3) x2)), (6, iv 0)]) r_43_143 (n_43_143 _) (by decide) rfl ?_
                    exact wp_pr (l' := [(0, rf a0), (1, rf a1), (2, iv x2), (3, orf a3), (4, iv (zI s (a1 + 2) x2)), (5, iv (zI s (a1 + 3) x2)), (6, iv 0)]) rfl h
                · skip
                  exact h.elim
              · replace h := h.2 c65
                refine i_aload_n (a := a0) r_43_93 (n_43_93 _) rfl ?_
                refine i_iload_n (x := x2) r_43_94 (n_43_94 _) rfl ?_
                refine i_iload (x := zI s (a1 + 2) x2) r_43_95 (n_43_95 _) rfl ?_
                refine i_bipush r_43_97 (n_43_97 _) rfl ?_
                refine i_isub r_43_99 (n_43_99 _) ?_
                refine wp_virt (b := a0) (rest := []) (Ls := [(0, rf a0), (1, iv x2), (2, iv ((zI s (a1 + 2) x2) - 20))]) r_43_100 (n_43_100 _) rfl ⟨rfl, rfl, by decide, by decide⟩ rfl rfl ha0 ⟨rfl, Nat.le_of_ble_eq_true rfl, Nat.le_of_ble_eq_true rfl⟩ rfl h ?_
                intro o75 s75 h
                rcases h with ⟨rfl, h⟩ | ⟨e75, rfl, h⟩
                · refine .inl ⟨none, rfl, ?_⟩
                  refine i_goto (t := 142) r_43_103 (n_43_103 _) rfl ?_
                  refine i_iconst r_43_142 (n_43_142 _) ?_
                  refine i_istore (l' := [(0, rf a0), (1, rf a1), (2, iv x2), (3, orf a3), (4, iv (zI s (a1 + 2) x2)), (5, iv (zI s (a1 + 3) x2)), (6, iv 0)]) r_43_143 (n_43_143 _) (by decide) rfl ?_
                  exact wp_pr (l' := [(0, rf a0), (1, rf a1), (2, iv x2), (3, orf a3), (4, iv (zI s (a1 + 2) x2)), (5, iv (zI s (a1 + 3) x2)), (6, iv 0)]) rfl h
                · skip
                  exact h.elim
            · skip
              exact h.elim
          · skip
            exact h.elim
        · skip
          exact h.elim
    · skip
      exact h.elim
theorem v_Shape_place_145 {S : Option (Nat × (Nat → Int32))} {s : zSt} {Q : Option Value ⊕ Nat → zSt → Prop} {a0 : Int} {a1 : Int} {x2 : Int} {a3 : Int} {x4 : Int} {x5 : Int} {x6 : Int} (ha0 : isO a0 4) (ha1 : isO a1 1) (ha3 : 0 ≤ a3 → isO a3 4)
    (h : rng x6 ∧ (rng x5 ∧ ((x5 ≤ x6 → Q rU s) ∧ (x6 < x5 → (0 ≤ a3 → wp S 51 0 [(0, rf a0), (1, rf a1), (2, iv x2), (3, iv x6), (4, rf (a3 + 5))] [] s (fun o6 s6 => zkU (wp S 43 145 [(0, rf a0), (1, rf a1), (2, iv x2), (3, rf a3), (4, iv x4), (5, iv x5), (6, iv (x6 + 1))] [] s6 Q) (fun e6 => False) o6)) ∧ (a3 < 0 → (0 ≤ x2 ∧ x2 < 8) ∧ (wp S 49 0 [(0, iv (zI s (a1 + 1) x2)), (1, iv x6), (2, iv x5), (3, .long 0)] [] s (fun o18 s18 => zkL (fun y18 => wp S 50 0 [(0, rf (a0 + 5)), (1, iv x4), (2, iv ((zI s (a0 + 1) x2) + (x6 * (zI s (a0 + 3) x2)))), (3, iv (zI s (a0 + 2) x2)), (4, iv x2), (5, .long y18)] [] s18 (fun o20 s20 => zkU (wp S 43 145 [(0, rf a0), (1, rf a1), (2, iv x2), (3, orf a3), (4, iv x4), (5, iv x5), (6, iv (x6 + 1))] [] s20 Q) (fun e20 => False) o20)) (fun e18 => False) o18))))))) :
    wp S 43 145 [(0, rf a0), (1, rf a1), (2, iv x2), (3, orf a3), (4, iv x4), (5, iv x5), (6, iv x6)] [] s Q := by
  refine i_iload (x := x6) r_43_145 rfl rfl ?_
  refine i_iload (x := x5) r_43_147 (n_43_147 _) rfl ?_
  obtain ⟨g1, h⟩ := h
  obtain ⟨g2, h⟩ := h
  refine i_icmp (t := 223) r_43_149 (n_43_149 _) rfl (T_ge g1 g2) (fun c3 => ?_) (fun c3 => ?_)
  · replace h := h.1 c3
    exact i_return r_43_223 (n_43_223 _) rfl h
  · replace h := h.2 c3
    refine i_aloadN_n (a := a3) r_43_152 (n_43_152 _) rfl ?_
    refine i_ifnonnull (t := 205) r_43_153 (n_43_153 _) rfl (fun c4 => ?_) (fun c4 => ?_)
    · replace h := h.1 c4
      rw [show [(0, rf a0), (1, rf a1), (2, iv x2), (3, orf a3), (4, iv x4), (5, iv x5), (6, iv x6)] = [(0, rf a0), (1, rf a1), (2, iv x2), (3, rf a3), (4, iv x4), (5, iv x5), (6, iv x6)] by rw [orf_pos c4]]
      refine i_aload_n (a := a0) r_43_205 (n_43_205 _) rfl ?_
      refine i_aload_n (a := a1) r_43_206 (n_43_206 _) rfl ?_
      refine i_iload_n (x := x2) r_43_207 (n_43_207 _) rfl ?_
      refine i_iload (x := x6) r_43_208 (n_43_208 _) rfl ?_
      refine i_aload_n (a := a3) r_43_210 (n_43_210 _) rfl ?_
      refine i_getR (a := a3) (b := a3 + 5) r_43_211 (n_43_211 _) rfl rfl rfl (by omega) (ha3 c4) (by omega) ?_
      have t5 := (t_4_4 (ha3 c4))
      refine wp_virt (b := a0) (rest := []) (Ls := [(0, rf a0), (1, rf a1), (2, iv x2), (3, iv x6), (4, rf (a3 + 5))]) r_43_214 (n_43_214 _) rfl ⟨rfl, rfl, by decide, by decide⟩ rfl rfl ha0 ⟨rfl, Nat.le_of_ble_eq_true rfl, Nat.le_of_ble_eq_true rfl⟩ rfl h ?_
      intro o6 s6 h
      rcases h with ⟨rfl, h⟩ | ⟨e6, rfl, h⟩
      · refine .inl ⟨none, rfl, ?_⟩
        refine i_iinc (x := x6) (l' := [(0, rf a0), (1, rf a1), (2, iv x2), (3, rf a3), (4, iv x4), (5, iv x5), (6, iv (x6 + 1))]) r_43_217 (n_43_217 _) (by decide) rfl rfl ?_
        refine i_goto (t := 145) r_43_220 (n_43_220 _) rfl ?_
        exact wp_pr (l' := [(0, rf a0), (1, rf a1), (2, iv x2), (3, rf a3), (4, iv x4), (5, iv x5), (6, iv (x6 + 1))]) rfl h
      · skip
        exact h.elim
    · replace h := h.2 c4
      refine i_aload_n (a := a0) r_43_156 (n_43_156 _) rfl ?_
      refine i_getR (a := a0) (b := a0 + 5) r_43_157 (n_43_157 _) rfl rfl rfl (by omega) ha0 (by omega) ?_
      have t8 := (t_4_4 ha0)
      refine i_iload (x := x4) r_43_160 (n_43_160 _) rfl ?_
      refine i_aload_n (a := a0) r_43_162 (n_43_162 _) rfl ?_
      refine i_getR (a := a0) (b := a0 + 1) r_43_163 (n_43_163 _) rfl rfl rfl (by omega) ha0 (by omega) ?_
      have t9 := (t_4_0 ha0)
      refine i_iload_n (x := x2) r_43_166 (n_43_166 _) rfl ?_
      obtain ⟨g10, h⟩ := h
      refine i_iaload (a := a0 + 1) (j := x2) r_43_167 (n_43_167 _) t9 ⟨by omega, by omega⟩ (by omega) (by omega) (fun q11 => ?_)
      refine i_iload (x := x6) r_43_168 (n_43_168 _) rfl ?_
      refine i_aload_n (a := a0) r_43_170 (n_43_170 _) rfl ?_
      refine i_getR (a := a0) (b := a0 + 3) r_43_171 (n_43_171 _) rfl rfl rfl (by omega) ha0 (by omega) ?_
      have t12 := (t_4_2 ha0)
      refine i_iload_n (x := x2) r_43_174 (n_43_174 _) rfl ?_
      refine i_iaload (a := a0 + 3) (j := x2) r_43_175 (n_43_175 _) t12 ⟨by omega, by omega⟩ (by omega) (by omega) (fun q13 => ?_)
      refine i_imul r_43_176 (n_43_176 _) ?_
      refine i_iadd r_43_177 (n_43_177 _) ?_
      refine i_aload_n (a := a0) r_43_178 (n_43_178 _) rfl ?_
      refine i_getR (a := a0) (b := a0 + 2) r_43_179 (n_43_179 _) rfl rfl rfl (by omega) ha0 (by omega) ?_
      have t14 := (t_4_1 ha0)
      refine i_iload_n (x := x2) r_43_182 (n_43_182 _) rfl ?_
      refine i_iaload (a := a0 + 2) (j := x2) r_43_183 (n_43_183 _) t14 ⟨by omega, by omega⟩ (by omega) (by omega) (fun q15 => ?_)
      refine i_iload_n (x := x2) r_43_184 (n_43_184 _) rfl ?_
      refine i_aload_n (a := a1) r_43_185 (n_43_185 _) rfl ?_
      refine i_getR (a := a1) (b := a1 + 1) r_43_186 (n_43_186 _) rfl rfl rfl (by omega) ha1 (by omega) ?_
      have t16 := (t_1_2 ha1)
      refine i_iload_n (x := x2) r_43_189 (n_43_189 _) rfl ?_
      refine i_iaload (a := a1 + 1) (j := x2) r_43_190 (n_43_190 _) t16 ⟨by omega, by omega⟩ (by omega) (by omega) (fun q17 => ?_)
      refine i_iload (x := x6) r_43_191 (n_43_191 _) rfl ?_
      refine i_iload (x := x5) r_43_193 (n_43_193 _) rfl ?_
      refine i_lconst r_43_195 (n_43_195 _) ?_
      refine wp_stat (rest := [iv x2, iv (zI s (a0 + 2) x2), iv ((zI s (a0 + 1) x2) + (x6 * (zI s (a0 + 3) x2))), iv x4, rf (a0 + 5)]) (Ls := [(0, iv (zI s (a1 + 1) x2)), (1, iv x6), (2, iv x5), (3, .long 0)]) r_43_196 (n_43_196 _) rfl ⟨rfl, by decide, by decide, by decide⟩ rfl rfl ⟨rfl, Nat.le_of_ble_eq_true rfl, Nat.le_of_ble_eq_true rfl⟩ rfl h ?_
      intro o18 s18 h
      rcases h with ⟨y18, rfl, h⟩ | ⟨e18, rfl, h⟩
      · refine .inl ⟨some (.long y18), rfl, ?_⟩
        show wp S 43 199 [(0, rf a0), (1, rf a1), (2, iv x2), (3, orf a3), (4, iv x4), (5, iv x5), (6, iv x6)] [.long y18, iv x2, iv (zI s (a0 + 2) x2), iv ((zI s (a0 + 1) x2) + (x6 * (zI s (a0 + 3) x2))), iv x4, rf (a0 + 5)] s18 Q
        refine wp_virt (b := a0 + 5) (rest := []) (Ls := [(0, rf (a0 + 5)), (1, iv x4), (2, iv ((zI s (a0 + 1) x2) + (x6 * (zI s (a0 + 3) x2)))), (3, iv (zI s (a0 + 2) x2)), (4, iv x2), (5, .long y18)]) r_43_199 (n_43_199 _) rfl ⟨rfl, rfl, by decide, by decide⟩ rfl rfl t8 ⟨rfl, Nat.le_of_ble_eq_true rfl, Nat.le_of_ble_eq_true rfl⟩ rfl h ?_
        intro o20 s20 h
        rcases h with ⟨rfl, h⟩ | ⟨e20, rfl, h⟩
        · refine .inl ⟨none, rfl, ?_⟩
          refine i_goto (t := 217) r_43_202 (n_43_202 _) rfl ?_
          refine i_iinc (x := x6) (l' := [(0, rf a0), (1, rf a1), (2, iv x2), (3, orf a3), (4, iv x4), (5, iv x5), (6, iv (x6 + 1))]) r_43_217 (n_43_217 _) (by decide) rfl rfl ?_
          refine i_goto (t := 145) r_43_220 (n_43_220 _) rfl ?_
          exact wp_pr (l' := [(0, rf a0), (1, rf a1), (2, iv x2), (3, orf a3), (4, iv x4), (5, iv x5), (6, iv (x6 + 1))]) rfl h
        · skip
          exact h.elim
      · skip
        exact h.elim
theorem r_125_0 : xfetch 125 0 = some (.aload_n 0, 1) := by decide +kernel
theorem n_125_0 : ∀ l, xpr 125 0 l = l := xpr_no (by decide +kernel)
theorem r_125_1 : xfetch 125 1 = some (.iload_n 1, 1) := by decide +kernel
theorem n_125_1 : ∀ l, xpr 125 1 l = l := xpr_no (by decide +kernel)
theorem r_125_2 : xfetch 125 2 = some (.iload_n 2, 1) := by decide +kernel
theorem n_125_2 : ∀ l, xpr 125 2 l = l := xpr_no (by decide +kernel)
theorem r_125_3 : xfetch 125 3 = some (.iload_n 3, 1) := by decide +kernel
theorem n_125_3 : ∀ l, xpr 125 3 l = l := xpr_no (by decide +kernel)
theorem r_125_4 : xfetch 125 4 = some (.invokevirtual 290, 3) := by decide +kernel
theorem n_125_4 : ∀ l, xpr 125 4 l = l := xpr_no (by decide +kernel)
theorem r_125_7 : xfetch 125 7 = some (.aload_n 0, 1) := by decide +kernel
theorem n_125_7 : ∀ l, xpr 125 7 l = l := xpr_no (by decide +kernel)
theorem r_125_8 : xfetch 125 8 = some (.iload_n 1, 1) := by decide +kernel
theorem n_125_8 : ∀ l, xpr 125 8 l = l := xpr_no (by decide +kernel)
theorem r_125_9 : xfetch 125 9 = some (.invokevirtual 293, 3) := by decide +kernel
theorem n_125_9 : ∀ l, xpr 125 9 l = l := xpr_no (by decide +kernel)
theorem r_125_12 : xfetch 125 12 = some (.aload_n 0, 1) := by decide +kernel
theorem n_125_12 : ∀ l, xpr 125 12 l = l := xpr_no (by decide +kernel)
theorem r_125_13 : xfetch 125 13 = some (.getfield 47, 3) := by decide +kernel
theorem n_125_13 : ∀ l, xpr 125 13 l = l := xpr_no (by decide +kernel)
theorem r_125_16 : xfetch 125 16 = some (.aload_n 0, 1) := by decide +kernel
theorem n_125_16 : ∀ l, xpr 125 16 l = l := xpr_no (by decide +kernel)
theorem r_125_17 : xfetch 125 17 = some (.getfield 10, 3) := by decide +kernel
theorem n_125_17 : ∀ l, xpr 125 17 l = l := xpr_no (by decide +kernel)
theorem r_125_20 : xfetch 125 20 = some (.getfield 299, 3) := by decide +kernel
theorem n_125_20 : ∀ l, xpr 125 20 l = l := xpr_no (by decide +kernel)
theorem r_125_23 : xfetch 125 23 = some (.iload_n 2, 1) := by decide +kernel
theorem n_125_23 : ∀ l, xpr 125 23 l = l := xpr_no (by decide +kernel)
theorem r_125_24 : xfetch 125 24 = some (.iload_n 3, 1) := by decide +kernel
theorem n_125_24 : ∀ l, xpr 125 24 l = l := xpr_no (by decide +kernel)
theorem r_125_25 : xfetch 125 25 = some (.invokevirtual 303, 3) := by decide +kernel
theorem n_125_25 : ∀ l, xpr 125 25 l = l := xpr_no (by decide +kernel)
theorem r_125_28 : xfetch 125 28 = some (.lreturn, 1) := by decide +kernel
theorem n_125_28 : ∀ l, xpr 125 28 l = l := xpr_no (by decide +kernel)
theorem v_RL_get_0 {S : Option (Nat × (Nat → Int32))} {s : zSt} {Q : Option Value ⊕ Nat → zSt → Prop} {x1 : Int} {x2 : Int} {x3 : Int} 
    (h : wp S 117 0 [(0, rf 2), (1, iv x1), (2, iv x2), (3, iv x3)] [] s (fun o1 s1 => zkU (wp S 120 0 [(0, rf 2), (1, iv x1)] [] s1 (fun o3 s3 => zkU (wp S 126 0 [(0, rf 48), (1, rf 6), (2, iv x2), (3, iv x3)] [] s3 (fun o5 s5 => zkL (fun y5 => Q (rL y5) s5) (fun e5 => False) o5)) (fun e3 => False) o3)) (fun e1 => Q (rT e1) s1) o1)) :
    wp S 125 0 [(0, rf 2), (1, iv x1), (2, iv x2), (3, iv x3)] [] s Q := by
  refine i_aload_n (a := 2) r_125_0 (n_125_0 _) rfl ?_
  refine i_iload_n (x := x1) r_125_1 (n_125_1 _) rfl ?_
  refine i_iload_n (x := x2) r_125_2 (n_125_2 _) rfl ?_
  refine i_iload_n (x := x3) r_125_3 (n_125_3 _) rfl ?_
  refine wp_virt (b := 2) (rest := []) (Ls := [(0, rf 2), (1, iv x1), (2, iv x2), (3, iv x3)]) r_125_4 (n_125_4 _) rfl ⟨rfl, rfl, by decide, by decide⟩ rfl rfl lf_2 ⟨rfl, Nat.le_of_ble_eq_true rfl, Nat.le_of_ble_eq_true rfl⟩ rfl h ?_
  intro o1 s1 h
  rcases h with ⟨rfl, h⟩ | ⟨e1, rfl, h⟩
  · refine .inl ⟨none, rfl, ?_⟩
    refine i_aload_n (a := 2) r_125_7 (n_125_7 _) rfl ?_
    refine i_iload_n (x := x1) r_125_8 (n_125_8 _) rfl ?_
    refine wp_virt (b := 2) (rest := []) (Ls := [(0, rf 2), (1, iv x1)]) r_125_9 (n_125_9 _) rfl ⟨rfl, rfl, by decide, by decide⟩ rfl rfl lf_2 ⟨rfl, Nat.le_of_ble_eq_true rfl, Nat.le_of_ble_eq_true rfl⟩ rfl h ?_
    intro o3 s3 h
    rcases h with ⟨rfl, h⟩ | ⟨e3, rfl, h⟩
    · refine .inl ⟨none, rfl, ?_⟩
      refine i_aload_n (a := 2) r_125_12 (n_125_12 _) rfl ?_
      refine i_getR (a := 2) (b := 48) r_125_13 (n_125_13 _) rfl rfl rfl (by omega) lf_2 (by omega) ?_
      refine i_aload_n (a := 2) r_125_16 (n_125_16 _) rfl ?_
      refine i_getR (a := 2) (b := 3) r_125_17 (n_125_17 _) rfl rfl rfl (by omega) lf_2 (by omega) ?_
      refine i_getR (a := 3) (b := 6) r_125_20 (n_125_20 _) rfl rfl rfl (by omega) lf_3 (by omega) ?_
      refine i_iload_n (x := x2) r_125_23 (n_125_23 _) rfl ?_
      refine i_iload_n (x := x3) r_125_24 (n_125_24 _) rfl ?_
      refine wp_virt (b := 48) (rest := []) (Ls := [(0, rf 48), (1, rf 6), (2, iv x2), (3, iv x3)]) r_125_25 (n_125_25 _) rfl ⟨rfl, rfl, by decide, by decide⟩ rfl rfl lf_48 ⟨rfl, Nat.le_of_ble_eq_true rfl, Nat.le_of_ble_eq_true rfl⟩ rfl h ?_
      intro o5 s5 h
      rcases h with ⟨y5, rfl, h⟩ | ⟨e5, rfl, h⟩
      · refine .inl ⟨some (.long y5), rfl, ?_⟩
        show wp S 125 28 [(0, rf 2), (1, iv x1), (2, iv x2), (3, iv x3)] [.long y5] s5 Q
        exact i_lreturn r_125_28 (n_125_28 _) rfl h
      · skip
        exact h.elim
    · skip
      exact h.elim
  · skip
    exact .inr ⟨e1, rfl, .inl ⟨rfl, h⟩⟩
theorem r_124_0 : xfetch 124 0 = some (.aload 4, 2) := by decide +kernel
theorem n_124_0 : ∀ l, xpr 124 0 l = l := xpr_no (by decide +kernel)
theorem r_124_2 : xfetch 124 2 = some (.iconst 0, 1) := by decide +kernel
theorem n_124_2 : ∀ l, xpr 124 2 l = l := xpr_no (by decide +kernel)
theorem r_124_3 : xfetch 124 3 = some (.aload_n 0, 1) := by decide +kernel
theorem n_124_3 : ∀ l, xpr 124 3 l = l := xpr_no (by decide +kernel)
theorem r_124_4 : xfetch 124 4 = some (.iload_n 1, 1) := by decide +kernel
theorem n_124_4 : ∀ l, xpr 124 4 l = l := xpr_no (by decide +kernel)
theorem r_124_5 : xfetch 124 5 = some (.iload_n 2, 1) := by decide +kernel
theorem n_124_5 : ∀ l, xpr 124 5 l = l := xpr_no (by decide +kernel)
theorem r_124_6 : xfetch 124 6 = some (.iload_n 3, 1) := by decide +kernel
theorem n_124_6 : ∀ l, xpr 124 6 l = l := xpr_no (by decide +kernel)
theorem r_124_7 : xfetch 124 7 = some (.invokevirtual 64, 3) := by decide +kernel
theorem n_124_7 : ∀ l, xpr 124 7 l = l := xpr_no (by decide +kernel)
theorem r_124_10 : xfetch 124 10 = some (.lastore, 1) := by decide +kernel
theorem n_124_10 : ∀ l, xpr 124 10 l = l := xpr_no (by decide +kernel)
theorem r_124_11 : xfetch 124 11 = some (.goto 7, 3) := by decide +kernel
theorem n_124_11 : ∀ l, xpr 124 11 l = l := xpr_no (by decide +kernel)
theorem r_124_16 : xfetch 124 16 = some (.iconst 1, 1) := by decide +kernel
theorem n_124_16 : ∀ l, xpr 124 16 l = l := xpr_no (by decide +kernel)
theorem r_124_17 : xfetch 124 17 = some (.ireturn, 1) := by decide +kernel
theorem n_124_17 : ∀ l, xpr 124 17 l = l := xpr_no (by decide +kernel)
theorem r_124_18 : xfetch 124 18 = some (.iconst 0, 1) := by decide +kernel
theorem n_124_18 : ∀ l, xpr 124 18 l = l := xpr_no (by decide +kernel)
theorem r_124_19 : xfetch 124 19 = some (.ireturn, 1) := by decide +kernel
theorem n_124_19 : ∀ l, xpr 124 19 l = l := xpr_no (by decide +kernel)
theorem v_Law_get_0 {S : Option (Nat × (Nat → Int32))} {s : zSt} {Q : Option Value ⊕ Nat → zSt → Prop} {x1 : Int} {x2 : Int} {x3 : Int} 
    (h : wp S 125 0 [(0, rf 2), (1, iv x1), (2, iv x2), (3, iv x3)] [] s (fun o1 s1 => zkL (fun y1 => Q (rI 0) (zwL s1 275 0 y1)) (fun e1 => (e1 = 2 ∧ Q (rI 1) s1)) o1)) :
    wp S 124 0 [(0, rf 2), (1, iv x1), (2, iv x2), (3, iv x3), (4, rf 275)] [] s Q := by
  refine i_aload (a := 275) r_124_0 (n_124_0 _) rfl ?_
  refine i_iconst r_124_2 (n_124_2 _) ?_
  refine i_aload_n (a := 2) r_124_3 (n_124_3 _) rfl ?_
  refine i_iload_n (x := x1) r_124_4 (n_124_4 _) rfl ?_
  refine i_iload_n (x := x2) r_124_5 (n_124_5 _) rfl ?_
  refine i_iload_n (x := x3) r_124_6 (n_124_6 _) rfl ?_
  refine wp_virt (b := 2) (rest := [iv 0, rf 275]) (Ls := [(0, rf 2), (1, iv x1), (2, iv x2), (3, iv x3)]) r_124_7 (n_124_7 _) rfl ⟨rfl, rfl, by decide, by decide⟩ rfl rfl lf_2 ⟨rfl, Nat.le_of_ble_eq_true rfl, Nat.le_of_ble_eq_true rfl⟩ rfl h ?_
  intro o1 s1 h
  rcases h with ⟨y1, rfl, h⟩ | ⟨e1, rfl, h⟩
  · refine .inl ⟨some (.long y1), rfl, ?_⟩
    show wp S 124 10 [(0, rf 2), (1, iv x1), (2, iv x2), (3, iv x3), (4, rf 275)] [.long y1, iv 0, rf 275] s1 Q
    refine i_lastore (a := 275) (j := 0) r_124_10 (n_124_10 _) lf_275 ⟨by omega, by omega⟩ (by omega) (by omega) ?_
    refine i_goto (t := 18) r_124_11 (n_124_11 _) rfl ?_
    refine i_iconst r_124_18 (n_124_18 _) ?_
    exact i_ireturn r_124_19 (n_124_19 _) rfl h
  · skip
    rcases h with ⟨rfl, h⟩
    · refine .inr ⟨_, rfl, .inr ⟨_, _, 14, (16, [(0, rf 2), (1, iv x1), (2, iv x2), (3, iv x3), (4, rf 275)]), rfl, rfl, rfl, ?_⟩⟩
      refine i_iconst r_124_16 (n_124_16 _) ?_
      exact i_ireturn r_124_17 (n_124_17 _) rfl h
theorem r_189_0 : xfetch 189 0 = some (.aload_n 0, 1) := by decide +kernel
theorem n_189_0 : ∀ l, xpr 189 0 l = l := xpr_no (by decide +kernel)
theorem r_189_1 : xfetch 189 1 = some (.getfield 7, 3) := by decide +kernel
theorem n_189_1 : ∀ l, xpr 189 1 l = l := xpr_no (by decide +kernel)
theorem r_189_4 : xfetch 189 4 = some (.iload_n 1, 1) := by decide +kernel
theorem n_189_4 : ∀ l, xpr 189 4 l = l := xpr_no (by decide +kernel)
theorem r_189_5 : xfetch 189 5 = some (.invokestatic 92, 3) := by decide +kernel
theorem n_189_5 : ∀ l, xpr 189 5 l = l := xpr_no (by decide +kernel)
theorem r_189_8 : xfetch 189 8 = some (.iconst 1, 1) := by decide +kernel
theorem n_189_8 : ∀ l, xpr 189 8 l = l := xpr_no (by decide +kernel)
theorem r_189_9 : xfetch 189 9 = some (.iadd, 1) := by decide +kernel
theorem n_189_9 : ∀ l, xpr 189 9 l = l := xpr_no (by decide +kernel)
theorem r_189_10 : xfetch 189 10 = some (.iaload, 1) := by decide +kernel
theorem n_189_10 : ∀ l, xpr 189 10 l = l := xpr_no (by decide +kernel)
theorem r_189_11 : xfetch 189 11 = some (.ireturn, 1) := by decide +kernel
theorem n_189_11 : ∀ l, xpr 189 11 l = l := xpr_no (by decide +kernel)
theorem v_Model_fieldsOf_0 {S : Option (Nat × (Nat → Int32))} {s : zSt} {Q : Option Value ⊕ Nat → zSt → Prop} {x1 : Int} 
    (h : wp S 184 0 [(0, iv x1)] [] s (fun o1 s1 => zkI (fun y1 => (0 ≤ (y1 + 1) ∧ (y1 + 1) < 1199) ∧ (Q (rI (zI s1 253 (y1 + 1))) s1)) (fun e1 => False) o1)) :
    wp S 189 0 [(0, rf 252), (1, iv x1)] [] s Q := by
  refine i_aload_n (a := 252) r_189_0 (n_189_0 _) rfl ?_
  refine i_getR (a := 252) (b := 253) r_189_1 (n_189_1 _) rfl rfl rfl (by omega) lf_252 (by omega) ?_
  refine i_iload_n (x := x1) r_189_4 (n_189_4 _) rfl ?_
  refine wp_stat (rest := [rf 253]) (Ls := [(0, iv x1)]) r_189_5 (n_189_5 _) rfl ⟨rfl, by decide, by decide, by decide⟩ rfl rfl ⟨rfl, Nat.le_of_ble_eq_true rfl, Nat.le_of_ble_eq_true rfl⟩ rfl h ?_
  intro o1 s1 h
  rcases h with ⟨y1, q2, rfl, h⟩ | ⟨e1, rfl, h⟩
  · refine .inl ⟨some (iv y1), rfl, ?_⟩
    show wp S 189 8 [(0, rf 252), (1, iv x1)] [iv y1, rf 253] s1 Q
    refine i_iconst r_189_8 (n_189_8 _) ?_
    refine i_iadd r_189_9 (n_189_9 _) ?_
    obtain ⟨g3, h⟩ := h
    refine i_iaload (a := 253) (j := y1 + 1) r_189_10 (n_189_10 _) lf_253 ⟨by omega, by omega⟩ (by omega) (by omega) (fun q4 => ?_)
    exact i_ireturn r_189_11 (n_189_11 _) rfl h
  · skip
    exact h.elim
theorem r_190_0 : xfetch 190 0 = some (.iconst 1, 1) := by decide +kernel
theorem n_190_0 : ∀ l, xpr 190 0 l = l := xpr_no (by decide +kernel)
theorem r_190_1 : xfetch 190 1 = some (.bipush 26, 2) := by decide +kernel
theorem n_190_1 : ∀ l, xpr 190 1 l = l := xpr_no (by decide +kernel)
theorem r_190_3 : xfetch 190 3 = some (.iload_n 0, 1) := by decide +kernel
theorem n_190_3 : ∀ l, xpr 190 3 l = l := xpr_no (by decide +kernel)
theorem r_190_4 : xfetch 190 4 = some (.imul, 1) := by decide +kernel
theorem n_190_4 : ∀ l, xpr 190 4 l = l := xpr_no (by decide +kernel)
theorem r_190_5 : xfetch 190 5 = some (.iadd, 1) := by decide +kernel
theorem n_190_5 : ∀ l, xpr 190 5 l = l := xpr_no (by decide +kernel)
theorem r_190_6 : xfetch 190 6 = some (.iconst 2, 1) := by decide +kernel
theorem n_190_6 : ∀ l, xpr 190 6 l = l := xpr_no (by decide +kernel)
theorem r_190_7 : xfetch 190 7 = some (.iadd, 1) := by decide +kernel
theorem n_190_7 : ∀ l, xpr 190 7 l = l := xpr_no (by decide +kernel)
theorem r_190_8 : xfetch 190 8 = some (.iconst 3, 1) := by decide +kernel
theorem n_190_8 : ∀ l, xpr 190 8 l = l := xpr_no (by decide +kernel)
theorem r_190_9 : xfetch 190 9 = some (.iload_n 1, 1) := by decide +kernel
theorem n_190_9 : ∀ l, xpr 190 9 l = l := xpr_no (by decide +kernel)
theorem r_190_10 : xfetch 190 10 = some (.imul, 1) := by decide +kernel
theorem n_190_10 : ∀ l, xpr 190 10 l = l := xpr_no (by decide +kernel)
theorem r_190_11 : xfetch 190 11 = some (.iadd, 1) := by decide +kernel
theorem n_190_11 : ∀ l, xpr 190 11 l = l := xpr_no (by decide +kernel)
theorem r_190_12 : xfetch 190 12 = some (.ireturn, 1) := by decide +kernel
theorem n_190_12 : ∀ l, xpr 190 12 l = l := xpr_no (by decide +kernel)
theorem v_Model_field_0 {S : Option (Nat × (Nat → Int32))} {s : zSt} {Q : Option Value ⊕ Nat → zSt → Prop} {x0 : Int} {x1 : Int} 
    (h : Q (rI (((1 + (26 * x0)) + 2) + (3 * x1))) s) :
    wp S 190 0 [(0, iv x0), (1, iv x1)] [] s Q := by
  refine i_iconst r_190_0 (n_190_0 _) ?_
  refine i_bipush r_190_1 (n_190_1 _) rfl ?_
  refine i_iload_n (x := x0) r_190_3 (n_190_3 _) rfl ?_
  refine i_imul r_190_4 (n_190_4 _) ?_
  refine i_iadd r_190_5 (n_190_5 _) ?_
  refine i_iconst r_190_6 (n_190_6 _) ?_
  refine i_iadd r_190_7 (n_190_7 _) ?_
  refine i_iconst r_190_8 (n_190_8 _) ?_
  refine i_iload_n (x := x1) r_190_9 (n_190_9 _) rfl ?_
  refine i_imul r_190_10 (n_190_10 _) ?_
  refine i_iadd r_190_11 (n_190_11 _) ?_
  exact i_ireturn r_190_12 (n_190_12 _) rfl h
theorem r_15_0 : xfetch 15 0 = some (.iload_n 0, 1) := by decide +kernel
theorem n_15_0 : ∀ l, xpr 15 0 l = l := xpr_no (by decide +kernel)
theorem r_15_1 : xfetch 15 1 = some (.iload_n 1, 1) := by decide +kernel
theorem n_15_1 : ∀ l, xpr 15 1 l = l := xpr_no (by decide +kernel)
theorem r_15_2 : xfetch 15 2 = some (.if_icmp .lt 7, 3) := by decide +kernel
theorem n_15_2 : ∀ l, xpr 15 2 l = l := xpr_no (by decide +kernel)
theorem r_15_5 : xfetch 15 5 = some (.iload_n 0, 1) := by decide +kernel
theorem n_15_5 : ∀ l, xpr 15 5 l = l := xpr_no (by decide +kernel)
theorem r_15_6 : xfetch 15 6 = some (.goto 4, 3) := by decide +kernel
theorem n_15_6 : ∀ l, xpr 15 6 l = l := xpr_no (by decide +kernel)
theorem r_15_9 : xfetch 15 9 = some (.iload_n 1, 1) := by decide +kernel
theorem n_15_9 : ∀ l, xpr 15 9 l = l := xpr_no (by decide +kernel)
theorem r_15_10 : xfetch 15 10 = some (.ireturn, 1) := by decide +kernel
theorem n_15_10 : ∀ l, xpr 15 10 l = l := xpr_no (by decide +kernel)
theorem v_Math_max_0 {S : Option (Nat × (Nat → Int32))} {s : zSt} {Q : Option Value ⊕ Nat → zSt → Prop} {x0 : Int} {x1 : Int} 
    (h : rng x0 ∧ (rng x1 ∧ ((x0 < x1 → Q (rI x1) s) ∧ (x1 ≤ x0 → Q (rI x0) s)))) :
    wp S 15 0 [(0, iv x0), (1, iv x1)] [] s Q := by
  refine i_iload_n (x := x0) r_15_0 (n_15_0 _) rfl ?_
  refine i_iload_n (x := x1) r_15_1 (n_15_1 _) rfl ?_
  obtain ⟨g1, h⟩ := h
  obtain ⟨g2, h⟩ := h
  refine i_icmp (t := 9) r_15_2 (n_15_2 _) rfl (T_lt g1 g2) (fun c3 => ?_) (fun c3 => ?_)
  · replace h := h.1 c3
    refine i_iload_n (x := x1) r_15_9 (n_15_9 _) rfl ?_
    exact i_ireturn r_15_10 (n_15_10 _) rfl h
  · replace h := h.2 c3
    refine i_iload_n (x := x0) r_15_5 (n_15_5 _) rfl ?_
    refine i_goto (t := 10) r_15_6 (n_15_6 _) rfl ?_
    exact i_ireturn r_15_10 (n_15_10 _) rfl h
theorem r_16_0 : xfetch 16 0 = some (.iload_n 0, 1) := by decide +kernel
theorem n_16_0 : ∀ l, xpr 16 0 l = l := xpr_no (by decide +kernel)
theorem r_16_1 : xfetch 16 1 = some (.iload_n 1, 1) := by decide +kernel
theorem n_16_1 : ∀ l, xpr 16 1 l = l := xpr_no (by decide +kernel)
theorem r_16_2 : xfetch 16 2 = some (.if_icmp .gt 7, 3) := by decide +kernel
theorem n_16_2 : ∀ l, xpr 16 2 l = l := xpr_no (by decide +kernel)
theorem r_16_5 : xfetch 16 5 = some (.iload_n 0, 1) := by decide +kernel
theorem n_16_5 : ∀ l, xpr 16 5 l = l := xpr_no (by decide +kernel)
theorem r_16_6 : xfetch 16 6 = some (.goto 4, 3) := by decide +kernel
theorem n_16_6 : ∀ l, xpr 16 6 l = l := xpr_no (by decide +kernel)
theorem r_16_9 : xfetch 16 9 = some (.iload_n 1, 1) := by decide +kernel
theorem n_16_9 : ∀ l, xpr 16 9 l = l := xpr_no (by decide +kernel)
theorem r_16_10 : xfetch 16 10 = some (.ireturn, 1) := by decide +kernel
theorem n_16_10 : ∀ l, xpr 16 10 l = l := xpr_no (by decide +kernel)
theorem v_Math_min_0 {S : Option (Nat × (Nat → Int32))} {s : zSt} {Q : Option Value ⊕ Nat → zSt → Prop} {x0 : Int} {x1 : Int} 
    (h : rng x0 ∧ (rng x1 ∧ ((x1 < x0 → Q (rI x1) s) ∧ (x0 ≤ x1 → Q (rI x0) s)))) :
    wp S 16 0 [(0, iv x0), (1, iv x1)] [] s Q := by
  refine i_iload_n (x := x0) r_16_0 (n_16_0 _) rfl ?_
  refine i_iload_n (x := x1) r_16_1 (n_16_1 _) rfl ?_
  obtain ⟨g1, h⟩ := h
  obtain ⟨g2, h⟩ := h
  refine i_icmp (t := 9) r_16_2 (n_16_2 _) rfl (T_gt g1 g2) (fun c3 => ?_) (fun c3 => ?_)
  · replace h := h.1 c3
    refine i_iload_n (x := x1) r_16_9 (n_16_9 _) rfl ?_
    exact i_ireturn r_16_10 (n_16_10 _) rfl h
  · replace h := h.2 c3
    refine i_iload_n (x := x0) r_16_5 (n_16_5 _) rfl ?_
    refine i_goto (t := 10) r_16_6 (n_16_6 _) rfl ?_
    exact i_ireturn r_16_10 (n_16_10 _) rfl h
theorem r_12_0 : xfetch 12 0 = some (.iconst 0, 1) := by decide +kernel
theorem n_12_0 : ∀ l, xpr 12 0 l = l := xpr_no (by decide +kernel)
theorem r_12_1 : xfetch 12 1 = some (.istore_n 1, 1) := by decide +kernel
theorem n_12_1 : ∀ l, xpr 12 1 l = l := xpr_no (by decide +kernel)
theorem r_12_2 : xfetch 12 2 = some (.iconst 0, 1) := by decide +kernel
theorem n_12_2 : ∀ l, xpr 12 2 l = l := xpr_no (by decide +kernel)
theorem r_12_3 : xfetch 12 3 = some (.istore_n 2, 1) := by decide +kernel
theorem n_12_3 : ∀ l, xpr 12 3 l = l := xpr_no (by decide +kernel)
theorem r_12_4 : xfetch 12 4 = some (.iload_n 2, 1) := by decide +kernel
theorem r_12_5 : xfetch 12 5 = some (.iconst 3, 1) := by decide +kernel
theorem n_12_5 : ∀ l, xpr 12 5 l = l := xpr_no (by decide +kernel)
theorem r_12_6 : xfetch 12 6 = some (.if_icmp .ge 30, 3) := by decide +kernel
theorem n_12_6 : ∀ l, xpr 12 6 l = l := xpr_no (by decide +kernel)
theorem r_12_9 : xfetch 12 9 = some (.aload_n 0, 1) := by decide +kernel
theorem n_12_9 : ∀ l, xpr 12 9 l = l := xpr_no (by decide +kernel)
theorem r_12_10 : xfetch 12 10 = some (.getfield 10, 3) := by decide +kernel
theorem n_12_10 : ∀ l, xpr 12 10 l = l := xpr_no (by decide +kernel)
theorem r_12_13 : xfetch 12 13 = some (.getfield 256, 3) := by decide +kernel
theorem n_12_13 : ∀ l, xpr 12 13 l = l := xpr_no (by decide +kernel)
theorem r_12_16 : xfetch 12 16 = some (.iload_n 2, 1) := by decide +kernel
theorem n_12_16 : ∀ l, xpr 12 16 l = l := xpr_no (by decide +kernel)
theorem r_12_17 : xfetch 12 17 = some (.aaload, 1) := by decide +kernel
theorem n_12_17 : ∀ l, xpr 12 17 l = l := xpr_no (by decide +kernel)
theorem r_12_18 : xfetch 12 18 = some (.getfield 260, 3) := by decide +kernel
theorem n_12_18 : ∀ l, xpr 12 18 l = l := xpr_no (by decide +kernel)
theorem r_12_21 : xfetch 12 21 = some (.ifCond .eq 9, 3) := by decide +kernel
theorem n_12_21 : ∀ l, xpr 12 21 l = l := xpr_no (by decide +kernel)
theorem r_12_24 : xfetch 12 24 = some (.iload_n 1, 1) := by decide +kernel
theorem n_12_24 : ∀ l, xpr 12 24 l = l := xpr_no (by decide +kernel)
theorem r_12_25 : xfetch 12 25 = some (.iconst 1, 1) := by decide +kernel
theorem n_12_25 : ∀ l, xpr 12 25 l = l := xpr_no (by decide +kernel)
theorem r_12_26 : xfetch 12 26 = some (.iload_n 2, 1) := by decide +kernel
theorem n_12_26 : ∀ l, xpr 12 26 l = l := xpr_no (by decide +kernel)
theorem r_12_27 : xfetch 12 27 = some (.ishl, 1) := by decide +kernel
theorem n_12_27 : ∀ l, xpr 12 27 l = l := xpr_no (by decide +kernel)
theorem r_12_28 : xfetch 12 28 = some (.ior, 1) := by decide +kernel
theorem n_12_28 : ∀ l, xpr 12 28 l = l := xpr_no (by decide +kernel)
theorem r_12_29 : xfetch 12 29 = some (.istore_n 1, 1) := by decide +kernel
theorem n_12_29 : ∀ l, xpr 12 29 l = l := xpr_no (by decide +kernel)
theorem r_12_30 : xfetch 12 30 = some (.iinc 2 1, 3) := by decide +kernel
theorem n_12_30 : ∀ l, xpr 12 30 l = l := xpr_no (by decide +kernel)
theorem r_12_33 : xfetch 12 33 = some (.goto (-29), 3) := by decide +kernel
theorem n_12_33 : ∀ l, xpr 12 33 l = l := xpr_no (by decide +kernel)
theorem r_12_36 : xfetch 12 36 = some (.iload_n 1, 1) := by decide +kernel
theorem n_12_36 : ∀ l, xpr 12 36 l = l := xpr_no (by decide +kernel)
theorem r_12_37 : xfetch 12 37 = some (.ireturn, 1) := by decide +kernel
theorem n_12_37 : ∀ l, xpr 12 37 l = l := xpr_no (by decide +kernel)
theorem v_RL_tables_0 {S : Option (Nat × (Nat → Int32))} {s : zSt} {Q : Option Value ⊕ Nat → zSt → Prop}  
    (h : wp S 12 4 [(0, rf 2), (1, iv 0), (2, iv 0)] [] s Q) :
    wp S 12 0 [(0, rf 2)] [] s Q := by
  refine i_iconst r_12_0 (n_12_0 _) ?_
  refine i_istore_n (l' := [(0, rf 2), (1, iv 0)]) r_12_1 (n_12_1 _) (by decide) rfl ?_
  refine i_iconst r_12_2 (n_12_2 _) ?_
  refine i_istore_n (l' := [(0, rf 2), (1, iv 0), (2, iv 0)]) r_12_3 (n_12_3 _) (by decide) rfl ?_
  exact wp_pr (l' := [(0, rf 2), (1, iv 0), (2, iv 0)]) rfl h
theorem v_RL_tables_4 {S : Option (Nat × (Nat → Int32))} {s : zSt} {Q : Option Value ⊕ Nat → zSt → Prop} {x1 : Int} {x2 : Int} 
    (h : rng x2 ∧ ((3 ≤ x2 → Q (rI x1) s) ∧ (x2 < 3 → (0 ≤ x2 ∧ x2 < 3) ∧ (((zI s (31 + x2) 0) = 0 → wp S 12 4 [(0, rf 2), (1, iv x1), (2, iv (x2 + 1))] [] s Q) ∧ ((zI s (31 + x2) 0) ≠ 0 → wp S 12 4 [(0, rf 2), (1, iv (zor x1 (zshl 1 x2))), (2, iv (x2 + 1))] [] s Q))))) :
    wp S 12 4 [(0, rf 2), (1, iv x1), (2, iv x2)] [] s Q := by
  refine i_iload_n (x := x2) r_12_4 rfl rfl ?_
  refine i_iconst r_12_5 (n_12_5 _) ?_
  obtain ⟨g1, h⟩ := h
  refine i_icmp (t := 36) r_12_6 (n_12_6 _) rfl (T_ge g1 ⟨by omega, by omega⟩) (fun c2 => ?_) (fun c2 => ?_)
  · replace h := h.1 c2
    refine i_iload_n (x := x1) r_12_36 (n_12_36 _) rfl ?_
    exact i_ireturn r_12_37 (n_12_37 _) rfl h
  · replace h := h.2 c2
    refine i_aload_n (a := 2) r_12_9 (n_12_9 _) rfl ?_
    refine i_getR (a := 2) (b := 3) r_12_10 (n_12_10 _) rfl rfl rfl (by omega) lf_2 (by omega) ?_
    refine i_getR (a := 3) (b := 5) r_12_13 (n_12_13 _) rfl rfl rfl (by omega) lf_3 (by omega) ?_
    refine i_iload_n (x := x2) r_12_16 (n_12_16 _) rfl ?_
    obtain ⟨g3, h⟩ := h
    refine i_aaload (c := 6) (a := 5) (j := x2) (b := 31 + x2) r_12_17 (n_12_17 _) lf_5 ⟨by omega, by omega⟩ (by omega) (by omega) rfl (by omega) ?_
    have t4 := e_6 (j := x2) lf_5 (by omega) (by omega)
    rw [show 5 + 26 + 1 * x2 = 31 + x2 by omega] at t4
    refine i_getI (a := 31 + x2) r_12_18 (n_12_18 _) rfl (by decide) t4 (fun q5 => ?_)
    refine i_if (t := 30) r_12_21 (n_12_21 _) rfl (T_eq q5 ⟨by omega, by omega⟩) (fun c6 => ?_) (fun c6 => ?_)
    · replace h := h.1 c6
      refine i_iinc (x := x2) (l' := [(0, rf 2), (1, iv x1), (2, iv (x2 + 1))]) r_12_30 (n_12_30 _) (by decide) rfl rfl ?_
      refine i_goto (t := 4) r_12_33 (n_12_33 _) rfl ?_
      exact wp_pr (l' := [(0, rf 2), (1, iv x1), (2, iv (x2 + 1))]) rfl h
    · replace h := h.2 c6
      refine i_iload_n (x := x1) r_12_24 (n_12_24 _) rfl ?_
      refine i_iconst r_12_25 (n_12_25 _) ?_
      refine i_iload_n (x := x2) r_12_26 (n_12_26 _) rfl ?_
      refine i_ishl r_12_27 (n_12_27 _) ?_
      refine i_ior r_12_28 (n_12_28 _) ?_
      refine i_istore_n (l' := [(0, rf 2), (1, iv (zor x1 (zshl 1 x2))), (2, iv x2)]) r_12_29 (n_12_29 _) (by decide) rfl ?_
      refine i_iinc (x := x2) (l' := [(0, rf 2), (1, iv (zor x1 (zshl 1 x2))), (2, iv (x2 + 1))]) r_12_30 (n_12_30 _) (by decide) rfl rfl ?_
      refine i_goto (t := 4) r_12_33 (n_12_33 _) rfl ?_
      exact wp_pr (l' := [(0, rf 2), (1, iv (zor x1 (zshl 1 x2))), (2, iv (x2 + 1))]) rfl h
theorem r_17_0 : xfetch 17 0 = some (.aload_n 0, 1) := by decide +kernel
theorem n_17_0 : ∀ l, xpr 17 0 l = l := xpr_no (by decide +kernel)
theorem r_17_1 : xfetch 17 1 = some (.invokevirtual 77, 3) := by decide +kernel
theorem n_17_1 : ∀ l, xpr 17 1 l = l := xpr_no (by decide +kernel)
theorem r_17_4 : xfetch 17 4 = some (.iconst 0, 1) := by decide +kernel
theorem n_17_4 : ∀ l, xpr 17 4 l = l := xpr_no (by decide +kernel)
theorem r_17_5 : xfetch 17 5 = some (.istore_n 1, 1) := by decide +kernel
theorem n_17_5 : ∀ l, xpr 17 5 l = l := xpr_no (by decide +kernel)
theorem r_17_6 : xfetch 17 6 = some (.iconst 0, 1) := by decide +kernel
theorem n_17_6 : ∀ l, xpr 17 6 l = l := xpr_no (by decide +kernel)
theorem r_17_7 : xfetch 17 7 = some (.istore_n 2, 1) := by decide +kernel
theorem n_17_7 : ∀ l, xpr 17 7 l = l := xpr_no (by decide +kernel)
theorem r_17_8 : xfetch 17 8 = some (.iconst 0, 1) := by decide +kernel
theorem n_17_8 : ∀ l, xpr 17 8 l = l := xpr_no (by decide +kernel)
theorem r_17_9 : xfetch 17 9 = some (.istore_n 3, 1) := by decide +kernel
theorem n_17_9 : ∀ l, xpr 17 9 l = l := xpr_no (by decide +kernel)
theorem r_17_10 : xfetch 17 10 = some (.iload_n 3, 1) := by decide +kernel
theorem r_17_11 : xfetch 17 11 = some (.iconst 3, 1) := by decide +kernel
theorem n_17_11 : ∀ l, xpr 17 11 l = l := xpr_no (by decide +kernel)
theorem r_17_12 : xfetch 17 12 = some (.if_icmp .ge 77, 3) := by decide +kernel
theorem n_17_12 : ∀ l, xpr 17 12 l = l := xpr_no (by decide +kernel)
theorem r_17_15 : xfetch 17 15 = some (.aload_n 0, 1) := by decide +kernel
theorem n_17_15 : ∀ l, xpr 17 15 l = l := xpr_no (by decide +kernel)
theorem r_17_16 : xfetch 17 16 = some (.iload_n 2, 1) := by decide +kernel
theorem n_17_16 : ∀ l, xpr 17 16 l = l := xpr_no (by decide +kernel)
theorem r_17_17 : xfetch 17 17 = some (.invokevirtual 328, 3) := by decide +kernel
theorem n_17_17 : ∀ l, xpr 17 17 l = l := xpr_no (by decide +kernel)
theorem r_17_20 : xfetch 17 20 = some (.astore 4, 2) := by decide +kernel
theorem n_17_20 : ∀ l, xpr 17 20 l = l := xpr_no (by decide +kernel)
theorem r_17_22 : xfetch 17 22 = some (.aload 4, 2) := by decide +kernel
theorem n_17_22 : ∀ l, xpr 17 22 l = l := xpr_no (by decide +kernel)
theorem r_17_24 : xfetch 17 24 = some (.ifnonnull 6, 3) := by decide +kernel
theorem n_17_24 : ∀ l, xpr 17 24 l = l := xpr_no (by decide +kernel)
theorem r_17_27 : xfetch 17 27 = some (.goto 62, 3) := by decide +kernel
theorem n_17_27 : ∀ l, xpr 17 27 l = l := xpr_no (by decide +kernel)
theorem r_17_30 : xfetch 17 30 = some (.iload_n 2, 1) := by decide +kernel
theorem n_17_30 : ∀ l, xpr 17 30 l = l := xpr_no (by decide +kernel)
theorem r_17_31 : xfetch 17 31 = some (.bipush 16, 2) := by decide +kernel
theorem n_17_31 : ∀ l, xpr 17 31 l = l := xpr_no (by decide +kernel)
theorem r_17_33 : xfetch 17 33 = some (.invokestatic 332, 3) := by decide +kernel
theorem n_17_33 : ∀ l, xpr 17 33 l = l := xpr_no (by decide +kernel)
theorem r_17_36 : xfetch 17 36 = some (.istore 5, 2) := by decide +kernel
theorem n_17_36 : ∀ l, xpr 17 36 l = l := xpr_no (by decide +kernel)
theorem r_17_38 : xfetch 17 38 = some (.iload 5, 2) := by decide +kernel
theorem n_17_38 : ∀ l, xpr 17 38 l = l := xpr_no (by decide +kernel)
theorem r_17_40 : xfetch 17 40 = some (.aload 4, 2) := by decide +kernel
theorem n_17_40 : ∀ l, xpr 17 40 l = l := xpr_no (by decide +kernel)
theorem r_17_42 : xfetch 17 42 = some (.getfield 277, 3) := by decide +kernel
theorem n_17_42 : ∀ l, xpr 17 42 l = l := xpr_no (by decide +kernel)
theorem r_17_45 : xfetch 17 45 = some (.if_icmp .eq 29, 3) := by decide +kernel
theorem n_17_45 : ∀ l, xpr 17 45 l = l := xpr_no (by decide +kernel)
theorem r_17_48 : xfetch 17 48 = some (.aload_n 0, 1) := by decide +kernel
theorem n_17_48 : ∀ l, xpr 17 48 l = l := xpr_no (by decide +kernel)
theorem r_17_49 : xfetch 17 49 = some (.aload 4, 2) := by decide +kernel
theorem n_17_49 : ∀ l, xpr 17 49 l = l := xpr_no (by decide +kernel)
theorem r_17_51 : xfetch 17 51 = some (.getfield 277, 3) := by decide +kernel
theorem n_17_51 : ∀ l, xpr 17 51 l = l := xpr_no (by decide +kernel)
theorem r_17_54 : xfetch 17 54 = some (.iload 5, 2) := by decide +kernel
theorem n_17_54 : ∀ l, xpr 17 54 l = l := xpr_no (by decide +kernel)
theorem r_17_56 : xfetch 17 56 = some (.aload 4, 2) := by decide +kernel
theorem n_17_56 : ∀ l, xpr 17 56 l = l := xpr_no (by decide +kernel)
theorem r_17_58 : xfetch 17 58 = some (.getfield 280, 3) := by decide +kernel
theorem n_17_58 : ∀ l, xpr 17 58 l = l := xpr_no (by decide +kernel)
theorem r_17_61 : xfetch 17 61 = some (.invokevirtual 335, 3) := by decide +kernel
theorem n_17_61 : ∀ l, xpr 17 61 l = l := xpr_no (by decide +kernel)
theorem r_17_64 : xfetch 17 64 = some (.aload 4, 2) := by decide +kernel
theorem n_17_64 : ∀ l, xpr 17 64 l = l := xpr_no (by decide +kernel)
theorem r_17_66 : xfetch 17 66 = some (.iload 5, 2) := by decide +kernel
theorem n_17_66 : ∀ l, xpr 17 66 l = l := xpr_no (by decide +kernel)
theorem r_17_68 : xfetch 17 68 = some (.putfield 277, 3) := by decide +kernel
theorem n_17_68 : ∀ l, xpr 17 68 l = l := xpr_no (by decide +kernel)
theorem r_17_71 : xfetch 17 71 = some (.iinc 1 1, 3) := by decide +kernel
theorem n_17_71 : ∀ l, xpr 17 71 l = l := xpr_no (by decide +kernel)
theorem r_17_74 : xfetch 17 74 = some (.iload 5, 2) := by decide +kernel
theorem n_17_74 : ∀ l, xpr 17 74 l = l := xpr_no (by decide +kernel)
theorem r_17_76 : xfetch 17 76 = some (.aload 4, 2) := by decide +kernel
theorem n_17_76 : ∀ l, xpr 17 76 l = l := xpr_no (by decide +kernel)
theorem r_17_78 : xfetch 17 78 = some (.getfield 280, 3) := by decide +kernel
theorem n_17_78 : ∀ l, xpr 17 78 l = l := xpr_no (by decide +kernel)
theorem r_17_81 : xfetch 17 81 = some (.iadd, 1) := by decide +kernel
theorem n_17_81 : ∀ l, xpr 17 81 l = l := xpr_no (by decide +kernel)
theorem r_17_82 : xfetch 17 82 = some (.istore_n 2, 1) := by decide +kernel
theorem n_17_82 : ∀ l, xpr 17 82 l = l := xpr_no (by decide +kernel)
theorem r_17_83 : xfetch 17 83 = some (.iinc 3 1, 3) := by decide +kernel
theorem n_17_83 : ∀ l, xpr 17 83 l = l := xpr_no (by decide +kernel)
theorem r_17_86 : xfetch 17 86 = some (.goto (-76), 3) := by decide +kernel
theorem n_17_86 : ∀ l, xpr 17 86 l = l := xpr_no (by decide +kernel)
theorem r_17_89 : xfetch 17 89 = some (.iload_n 1, 1) := by decide +kernel
theorem n_17_89 : ∀ l, xpr 17 89 l = l := xpr_no (by decide +kernel)
theorem r_17_90 : xfetch 17 90 = some (.ireturn, 1) := by decide +kernel
theorem n_17_90 : ∀ l, xpr 17 90 l = l := xpr_no (by decide +kernel)
theorem v_RL_compact_0 {S : Option (Nat × (Nat → Int32))} {s : zSt} {Q : Option Value ⊕ Nat → zSt → Prop}  
    (h : wp S 18 0 [(0, rf 2)] [] s (fun o1 s1 => zkU (wp S 17 10 [(0, rf 2), (1, iv 0), (2, iv 0), (3, iv 0)] [] s1 Q) (fun e1 => False) o1)) :
    wp S 17 0 [(0, rf 2)] [] s Q := by
  refine i_aload_n (a := 2) r_17_0 (n_17_0 _) rfl ?_
  refine wp_virt (b := 2) (rest := []) (Ls := [(0, rf 2)]) r_17_1 (n_17_1 _) rfl ⟨rfl, rfl, by decide, by decide⟩ rfl rfl lf_2 ⟨rfl, Nat.le_of_ble_eq_true rfl, Nat.le_of_ble_eq_true rfl⟩ rfl h ?_
  intro o1 s1 h
  rcases h with ⟨rfl, h⟩ | ⟨e1, rfl, h⟩
  · refine .inl ⟨none, rfl, ?_⟩
    refine i_iconst r_17_4 (n_17_4 _) ?_
    refine i_istore_n (l' := [(0, rf 2), (1, iv 0)]) r_17_5 (n_17_5 _) (by decide) rfl ?_
    refine i_iconst r_17_6 (n_17_6 _) ?_
    refine i_istore_n (l' := [(0, rf 2), (1, iv 0), (2, iv 0)]) r_17_7 (n_17_7 _) (by decide) rfl ?_
    refine i_iconst r_17_8 (n_17_8 _) ?_
    refine i_istore_n (l' := [(0, rf 2), (1, iv 0), (2, iv 0), (3, iv 0)]) r_17_9 (n_17_9 _) (by decide) rfl ?_
    exact wp_pr (l' := [(0, rf 2), (1, iv 0), (2, iv 0), (3, iv 0)]) rfl h
  · skip
    exact h.elim
theorem v_RL_compact_10 {S : Option (Nat × (Nat → Int32))} {s : zSt} {Q : Option Value ⊕ Nat → zSt → Prop} {x1 : Int} {x2 : Int} {x3 : Int} 
    (h : rng x3 ∧ ((3 ≤ x3 → Q (rI x1) s) ∧ (x3 < 3 → wp S 23 0 [(0, rf 2), (1, iv x2)] [] s (fun o3 s3 => zkN (fun y3 => (0 ≤ y3 → isO y3 6) ∧ ((0 ≤ y3 → wp S 24 0 [(0, iv x2), (1, iv 16)] [] s3 (fun o6 s6 => zkI (fun y6 => (y6 = (zI s6 y3 5) → wp S 17 10 [(0, rf 2), (1, iv x1), (2, iv (y6 + (zI s6 y3 6))), (3, iv (x3 + 1))] [] s6 Q) ∧ (y6 ≠ (zI s6 y3 5) → wp S 25 0 [(0, rf 2), (1, iv (zI s6 y3 5)), (2, iv y6), (3, iv (zI s6 y3 6))] [] s6 (fun o13 s13 => zkU (wp S 17 10 [(0, rf 2), (1, iv (x1 + 1)), (2, iv (y6 + (zI (zwI s13 y3 5 y6) y3 6))), (3, iv (x3 + 1))] [] (zwI s13 y3 5 y6) Q) (fun e13 => False) o13))) (fun e6 => False) o6)) ∧ (y3 < 0 → Q (rI x1) s3))) o3)))) :
    wp S 17 10 [(0, rf 2), (1, iv x1), (2, iv x2), (3, iv x3)] [] s Q := by
  refine i_iload_n (x := x3) r_17_10 rfl rfl ?_
  refine i_iconst r_17_11 (n_17_11 _) ?_
  obtain ⟨g1, h⟩ := h
  refine i_icmp (t := 89) r_17_12 (n_17_12 _) rfl (T_ge g1 ⟨by omega, by omega⟩) (fun c2 => ?_) (fun c2 => ?_)
  · replace h := h.1 c2
    refine i_iload_n (x := x1) r_17_89 (n_17_89 _) rfl ?_
    exact i_ireturn r_17_90 (n_17_90 _) rfl h
  · replace h := h.2 c2
    refine i_aload_n (a := 2) r_17_15 (n_17_15 _) rfl ?_
    refine i_iload_n (x := x2) r_17_16 (n_17_16 _) rfl ?_
    refine wp_virt (b := 2) (rest := []) (Ls := [(0, rf 2), (1, iv x2)]) r_17_17 (n_17_17 _) rfl ⟨rfl, rfl, by decide, by decide⟩ rfl rfl lf_2 ⟨rfl, Nat.le_of_ble_eq_true rfl, Nat.le_of_ble_eq_true rfl⟩ rfl h ?_
    intro o3 s3 h
    obtain ⟨y3, rfl, q4, h⟩ := h
    refine .inl ⟨some (orf y3), rfl, ?_⟩
    show wp S 17 20 [(0, rf 2), (1, iv x1), (2, iv x2), (3, iv x3)] [orf y3] s3 Q
    refine i_astoreN (l' := [(0, rf 2), (1, iv x1), (2, iv x2), (3, iv x3), (4, orf y3)]) r_17_20 (n_17_20 _) (by decide) rfl ?_
    refine i_aloadN (a := y3) r_17_22 (n_17_22 _) rfl ?_
    refine i_ifnonnull (t := 30) r_17_24 (n_17_24 _) rfl (fun c5 => ?_) (fun c5 => ?_)
    · replace h := h.1 c5
      rw [show [(0, rf 2), (1, iv x1), (2, iv x2), (3, iv x3), (4, orf y3)] = [(0, rf 2), (1, iv x1), (2, iv x2), (3, iv x3), (4, rf y3)] by rw [orf_pos c5]]
      refine i_iload_n (x := x2) r_17_30 (n_17_30 _) rfl ?_
      refine i_bipush r_17_31 (n_17_31 _) rfl ?_
      refine wp_stat (rest := []) (Ls := [(0, iv x2), (1, iv 16)]) r_17_33 (n_17_33 _) rfl ⟨rfl, by decide, by decide, by decide⟩ rfl rfl ⟨rfl, Nat.le_of_ble_eq_true rfl, Nat.le_of_ble_eq_true rfl⟩ rfl h ?_
      intro o6 s6 h
      rcases h with ⟨y6, q7, rfl, h⟩ | ⟨e6, rfl, h⟩
      · refine .inl ⟨some (iv y6), rfl, ?_⟩
        show wp S 17 36 [(0, rf 2), (1, iv x1), (2, iv x2), (3, iv x3), (4, rf y3)] [iv y6] s6 Q
        refine i_istore (l' := [(0, rf 2), (1, iv x1), (2, iv x2), (3, iv x3), (4, rf y3), (5, iv y6)]) r_17_36 (n_17_36 _) (by decide) rfl ?_
        refine i_iload (x := y6) r_17_38 (n_17_38 _) rfl ?_
        refine i_aload (a := y3) r_17_40 (n_17_40 _) rfl ?_
        refine i_getI (a := y3) r_17_42 (n_17_42 _) rfl (by decide) (q4 c5) (fun q8 => ?_)
        refine i_icmp (t := 74) r_17_45 (n_17_45 _) rfl (T_eq q7 q8) (fun c9 => ?_) (fun c9 => ?_)
        · replace h := h.1 c9
          refine i_iload (x := y6) r_17_74 (n_17_74 _) rfl ?_
          refine i_aload (a := y3) r_17_76 (n_17_76 _) rfl ?_
          refine i_getI (a := y3) r_17_78 (n_17_78 _) rfl (by decide) (q4 c5) (fun q10 => ?_)
          refine i_iadd r_17_81 (n_17_81 _) ?_
          refine i_istore_n (l' := [(0, rf 2), (1, iv x1), (2, iv (y6 + (zI s6 y3 6))), (3, iv x3), (4, rf y3), (5, iv y6)]) r_17_82 (n_17_82 _) (by decide) rfl ?_
          refine i_iinc (x := x3) (l' := [(0, rf 2), (1, iv x1), (2, iv (y6 + (zI s6 y3 6))), (3, iv (x3 + 1)), (4, rf y3), (5, iv y6)]) r_17_83 (n_17_83 _) (by decide) rfl rfl ?_
          refine i_goto (t := 10) r_17_86 (n_17_86 _) rfl ?_
          exact wp_pr (l' := [(0, rf 2), (1, iv x1), (2, iv (y6 + (zI s6 y3 6))), (3, iv (x3 + 1))]) rfl h
        · replace h := h.2 c9
          refine i_aload_n (a := 2) r_17_48 (n_17_48 _) rfl ?_
          refine i_aload (a := y3) r_17_49 (n_17_49 _) rfl ?_
          refine i_getI (a := y3) r_17_51 (n_17_51 _) rfl (by decide) (q4 c5) (fun q11 => ?_)
          refine i_iload (x := y6) r_17_54 (n_17_54 _) rfl ?_
          refine i_aload (a := y3) r_17_56 (n_17_56 _) rfl ?_
          refine i_getI (a := y3) r_17_58 (n_17_58 _) rfl (by decide) (q4 c5) (fun q12 => ?_)
          refine wp_virt (b := 2) (rest := []) (Ls := [(0, rf 2), (1, iv (zI s6 y3 5)), (2, iv y6), (3, iv (zI s6 y3 6))]) r_17_61 (n_17_61 _) rfl ⟨rfl, rfl, by decide, by decide⟩ rfl rfl lf_2 ⟨rfl, Nat.le_of_ble_eq_true rfl, Nat.le_of_ble_eq_true rfl⟩ rfl h ?_
          intro o13 s13 h
          rcases h with ⟨rfl, h⟩ | ⟨e13, rfl, h⟩
          · refine .inl ⟨none, rfl, ?_⟩
            refine i_aload (a := y3) r_17_64 (n_17_64 _) rfl ?_
            refine i_iload (x := y6) r_17_66 (n_17_66 _) rfl ?_
            refine i_putI (a := y3) (x := y6) r_17_68 (n_17_68 _) rfl (.inl rfl) rfl (q4 c5) q7 ?_
            refine i_iinc (x := x1) (l' := [(0, rf 2), (1, iv (x1 + 1)), (2, iv x2), (3, iv x3), (4, rf y3), (5, iv y6)]) r_17_71 (n_17_71 _) (by decide) rfl rfl ?_
            refine i_iload (x := y6) r_17_74 (n_17_74 _) rfl ?_
            refine i_aload (a := y3) r_17_76 (n_17_76 _) rfl ?_
            refine i_getI (a := y3) r_17_78 (n_17_78 _) rfl (by decide) (q4 c5) (fun q15 => ?_)
            refine i_iadd r_17_81 (n_17_81 _) ?_
            refine i_istore_n (l' := [(0, rf 2), (1, iv (x1 + 1)), (2, iv (y6 + (zI (zwI s13 y3 5 y6) y3 6))), (3, iv x3), (4, rf y3), (5, iv y6)]) r_17_82 (n_17_82 _) (by decide) rfl ?_
            refine i_iinc (x := x3) (l' := [(0, rf 2), (1, iv (x1 + 1)), (2, iv (y6 + (zI (zwI s13 y3 5 y6) y3 6))), (3, iv (x3 + 1)), (4, rf y3), (5, iv y6)]) r_17_83 (n_17_83 _) (by decide) rfl rfl ?_
            refine i_goto (t := 10) r_17_86 (n_17_86 _) rfl ?_
            exact wp_pr (l' := [(0, rf 2), (1, iv (x1 + 1)), (2, iv (y6 + (zI (zwI s13 y3 5 y6) y3 6))), (3, iv (x3 + 1))]) rfl h
          · skip
            exact h.elim
      · skip
        exact h.elim
    · replace h := h.2 c5
      refine i_goto (t := 89) r_17_27 (n_17_27 _) rfl ?_
      refine i_iload_n (x := x1) r_17_89 (n_17_89 _) rfl ?_
      exact i_ireturn r_17_90 (n_17_90 _) rfl h

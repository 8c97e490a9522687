theorem r_249_0 : xfetch 249 0 = some (.lconst 0, 1) := by decide +kernel
theorem n_249_0 : ∀ l, xpr 249 0 l = l := xpr_no (by decide +kernel)
theorem r_249_1 : xfetch 249 1 = some (.lstore 4, 2) := by decide +kernel
theorem n_249_1 : ∀ l, xpr 249 1 l = l := xpr_no (by decide +kernel)
theorem r_249_3 : xfetch 249 3 = some (.iconst 0, 1) := by decide +kernel
theorem n_249_3 : ∀ l, xpr 249 3 l = l := xpr_no (by decide +kernel)
theorem r_249_4 : xfetch 249 4 = some (.istore 6, 2) := by decide +kernel
theorem n_249_4 : ∀ l, xpr 249 4 l = l := xpr_no (by decide +kernel)
theorem r_249_6 : xfetch 249 6 = some (.iload 6, 2) := by decide +kernel
theorem r_249_8 : xfetch 249 8 = some (.iload_n 2, 1) := by decide +kernel
theorem n_249_8 : ∀ l, xpr 249 8 l = l := xpr_no (by decide +kernel)
theorem r_249_9 : xfetch 249 9 = some (.if_icmp .ge 50, 3) := by decide +kernel
theorem n_249_9 : ∀ l, xpr 249 9 l = l := xpr_no (by decide +kernel)
theorem r_249_12 : xfetch 249 12 = some (.iload_n 3, 1) := by decide +kernel
theorem n_249_12 : ∀ l, xpr 249 12 l = l := xpr_no (by decide +kernel)
theorem r_249_13 : xfetch 249 13 = some (.ifCond .ne 14, 3) := by decide +kernel
theorem n_249_13 : ∀ l, xpr 249 13 l = l := xpr_no (by decide +kernel)
theorem r_249_16 : xfetch 249 16 = some (.iload_n 1, 1) := by decide +kernel
theorem n_249_16 : ∀ l, xpr 249 16 l = l := xpr_no (by decide +kernel)
theorem r_249_17 : xfetch 249 17 = some (.iload_n 2, 1) := by decide +kernel
theorem n_249_17 : ∀ l, xpr 249 17 l = l := xpr_no (by decide +kernel)
theorem r_249_18 : xfetch 249 18 = some (.iadd, 1) := by decide +kernel
theorem n_249_18 : ∀ l, xpr 249 18 l = l := xpr_no (by decide +kernel)
theorem r_249_19 : xfetch 249 19 = some (.iconst 1, 1) := by decide +kernel
theorem n_249_19 : ∀ l, xpr 249 19 l = l := xpr_no (by decide +kernel)
theorem r_249_20 : xfetch 249 20 = some (.isub, 1) := by decide +kernel
theorem n_249_20 : ∀ l, xpr 249 20 l = l := xpr_no (by decide +kernel)
theorem r_249_21 : xfetch 249 21 = some (.iload 6, 2) := by decide +kernel
theorem n_249_21 : ∀ l, xpr 249 21 l = l := xpr_no (by decide +kernel)
theorem r_249_23 : xfetch 249 23 = some (.isub, 1) := by decide +kernel
theorem n_249_23 : ∀ l, xpr 249 23 l = l := xpr_no (by decide +kernel)
theorem r_249_24 : xfetch 249 24 = some (.goto 7, 3) := by decide +kernel
theorem n_249_24 : ∀ l, xpr 249 24 l = l := xpr_no (by decide +kernel)
theorem r_249_27 : xfetch 249 27 = some (.iload_n 1, 1) := by decide +kernel
theorem n_249_27 : ∀ l, xpr 249 27 l = l := xpr_no (by decide +kernel)
theorem r_249_28 : xfetch 249 28 = some (.iload 6, 2) := by decide +kernel
theorem n_249_28 : ∀ l, xpr 249 28 l = l := xpr_no (by decide +kernel)
theorem r_249_30 : xfetch 249 30 = some (.iadd, 1) := by decide +kernel
theorem n_249_30 : ∀ l, xpr 249 30 l = l := xpr_no (by decide +kernel)
theorem r_249_31 : xfetch 249 31 = some (.istore 7, 2) := by decide +kernel
theorem n_249_31 : ∀ l, xpr 249 31 l = l := xpr_no (by decide +kernel)
theorem r_249_33 : xfetch 249 33 = some (.lload 4, 2) := by decide +kernel
theorem n_249_33 : ∀ l, xpr 249 33 l = l := xpr_no (by decide +kernel)
theorem r_249_35 : xfetch 249 35 = some (.bipush 8, 2) := by decide +kernel
theorem n_249_35 : ∀ l, xpr 249 35 l = l := xpr_no (by decide +kernel)
theorem r_249_37 : xfetch 249 37 = some (.lshl, 1) := by decide +kernel
theorem n_249_37 : ∀ l, xpr 249 37 l = l := xpr_no (by decide +kernel)
theorem r_249_38 : xfetch 249 38 = some (.aload_n 0, 1) := by decide +kernel
theorem n_249_38 : ∀ l, xpr 249 38 l = l := xpr_no (by decide +kernel)
theorem r_249_39 : xfetch 249 39 = some (.getfield 7, 3) := by decide +kernel
theorem n_249_39 : ∀ l, xpr 249 39 l = l := xpr_no (by decide +kernel)
theorem r_249_42 : xfetch 249 42 = some (.sipush 175, 3) := by decide +kernel
theorem n_249_42 : ∀ l, xpr 249 42 l = l := xpr_no (by decide +kernel)
theorem r_249_45 : xfetch 249 45 = some (.iload 7, 2) := by decide +kernel
theorem n_249_45 : ∀ l, xpr 249 45 l = l := xpr_no (by decide +kernel)
theorem r_249_47 : xfetch 249 47 = some (.iadd, 1) := by decide +kernel
theorem n_249_47 : ∀ l, xpr 249 47 l = l := xpr_no (by decide +kernel)
theorem r_249_48 : xfetch 249 48 = some (.iaload, 1) := by decide +kernel
theorem n_249_48 : ∀ l, xpr 249 48 l = l := xpr_no (by decide +kernel)
theorem r_249_49 : xfetch 249 49 = some (.i2l, 1) := by decide +kernel
theorem n_249_49 : ∀ l, xpr 249 49 l = l := xpr_no (by decide +kernel)
theorem r_249_50 : xfetch 249 50 = some (.lor, 1) := by decide +kernel
theorem n_249_50 : ∀ l, xpr 249 50 l = l := xpr_no (by decide +kernel)
theorem r_249_51 : xfetch 249 51 = some (.lstore 4, 2) := by decide +kernel
theorem n_249_51 : ∀ l, xpr 249 51 l = l := xpr_no (by decide +kernel)
theorem r_249_53 : xfetch 249 53 = some (.iinc 6 1, 3) := by decide +kernel
theorem n_249_53 : ∀ l, xpr 249 53 l = l := xpr_no (by decide +kernel)
theorem r_249_56 : xfetch 249 56 = some (.goto (-50), 3) := by decide +kernel
theorem n_249_56 : ∀ l, xpr 249 56 l = l := xpr_no (by decide +kernel)
theorem r_249_59 : xfetch 249 59 = some (.lload 4, 2) := by decide +kernel
theorem n_249_59 : ∀ l, xpr 249 59 l = l := xpr_no (by decide +kernel)
theorem r_249_61 : xfetch 249 61 = some (.lreturn, 1) := by decide +kernel
theorem n_249_61 : ∀ l, xpr 249 61 l = l := xpr_no (by decide +kernel)
theorem v_Model_taken_0 {S : Option (Nat × (Nat → Int32))} {s : zSt} {Q : Option Value ⊕ Nat → zSt → Prop} {x1 : Int} {x2 : Int} {x3 : Int} 
    (h : wp S 249 6 [(0, rf 252), (1, iv x1), (2, iv x2), (3, iv x3), (4, .long 0), (6, iv 0)] [] s Q) :
    wp S 249 0 [(0, rf 252), (1, iv x1), (2, iv x2), (3, iv x3)] [] s Q := by
  refine i_lconst r_249_0 (n_249_0 _) ?_
  refine i_lstore (l' := [(0, rf 252), (1, iv x1), (2, iv x2), (3, iv x3), (4, .long 0)]) r_249_1 (n_249_1 _) (by decide) rfl ?_
  refine i_iconst r_249_3 (n_249_3 _) ?_
  refine i_istore (l' := [(0, rf 252), (1, iv x1), (2, iv x2), (3, iv x3), (4, .long 0), (6, iv 0)]) r_249_4 (n_249_4 _) (by decide) rfl ?_
  exact wp_pr (l' := [(0, rf 252), (1, iv x1), (2, iv x2), (3, iv x3), (4, .long 0), (6, iv 0)]) rfl h
theorem v_Model_taken_6 {S : Option (Nat × (Nat → Int32))} {s : zSt} {Q : Option Value ⊕ Nat → zSt → Prop} {x1 : Int} {x2 : Int} {x3 : Int} {u4 : Int64} {x6 : Int} 
    (h : rng x6 ∧ (rng x2 ∧ ((x2 ≤ x6 → Q (rL u4) s) ∧ (x6 < x2 → rng x3 ∧ ((x3 ≠ 0 → (0 ≤ (175 + (x1 + x6)) ∧ (175 + (x1 + x6)) < 1199) ∧ (wp S 249 6 [(0, rf 252), (1, iv x1), (2, iv x2), (3, iv x3), (4, .long ((zshlL u4 8) ||| (zi2l (zI s 253 (175 + (x1 + x6)))))), (6, iv (x6 + 1))] [] s Q)) ∧ (x3 = 0 → (0 ≤ (175 + (((x1 + x2) - 1) - x6)) ∧ (175 + (((x1 + x2) - 1) - x6)) < 1199) ∧ (wp S 249 6 [(0, rf 252), (1, iv x1), (2, iv x2), (3, iv x3), (4, .long ((zshlL u4 8) ||| (zi2l (zI s 253 (175 + (((x1 + x2) - 1) - x6)))))), (6, iv (x6 + 1))] [] s Q))))))) :
    wp S 249 6 [(0, rf 252), (1, iv x1), (2, iv x2), (3, iv x3), (4, .long u4), (6, iv x6)] [] s Q := by
  refine i_iload (x := x6) r_249_6 rfl rfl ?_
  refine i_iload_n (x := x2) r_249_8 (n_249_8 _) rfl ?_
  obtain ⟨g1, h⟩ := h
  obtain ⟨g2, h⟩ := h
  refine i_icmp (t := 59) r_249_9 (n_249_9 _) rfl (T_ge g1 g2) (fun c3 => ?_) (fun c3 => ?_)
  · replace h := h.1 c3
    refine i_lload (u := u4) r_249_59 (n_249_59 _) rfl ?_
    exact i_lreturn r_249_61 (n_249_61 _) rfl h
  · replace h := h.2 c3
    refine i_iload_n (x := x3) r_249_12 (n_249_12 _) rfl ?_
    obtain ⟨g4, h⟩ := h
    refine i_if (t := 27) r_249_13 (n_249_13 _) rfl (T_ne g4 ⟨by omega, by omega⟩) (fun c5 => ?_) (fun c5 => ?_)
    · replace h := h.1 c5
      refine i_iload_n (x := x1) r_249_27 (n_249_27 _) rfl ?_
      refine i_iload (x := x6) r_249_28 (n_249_28 _) rfl ?_
      refine i_iadd r_249_30 (n_249_30 _) ?_
      refine i_istore (l' := [(0, rf 252), (1, iv x1), (2, iv x2), (3, iv x3), (4, .long u4), (6, iv x6), (7, iv (x1 + x6))]) r_249_31 (n_249_31 _) (by decide) rfl ?_
      refine i_lload (u := u4) r_249_33 (n_249_33 _) rfl ?_
      refine i_bipush r_249_35 (n_249_35 _) rfl ?_
      refine i_lshl r_249_37 (n_249_37 _) ?_
      refine i_aload_n (a := 252) r_249_38 (n_249_38 _) rfl ?_
      refine i_getR (a := 252) (b := 253) r_249_39 (n_249_39 _) rfl rfl rfl (by omega) lf_252 (by omega) ?_
      refine i_sipush r_249_42 (n_249_42 _) rfl ?_
      refine i_iload (x := x1 + x6) r_249_45 (n_249_45 _) rfl ?_
      refine i_iadd r_249_47 (n_249_47 _) ?_
      obtain ⟨g6, h⟩ := h
      refine i_iaload (a := 253) (j := 175 + (x1 + x6)) r_249_48 (n_249_48 _) lf_253 ⟨by omega, by omega⟩ (by omega) (by omega) (fun q7 => ?_)
      refine i_i2l r_249_49 (n_249_49 _) ?_
      refine i_lor r_249_50 (n_249_50 _) ?_
      refine i_lstore (l' := [(0, rf 252), (1, iv x1), (2, iv x2), (3, iv x3), (4, .long ((zshlL u4 8) ||| (zi2l (zI s 253 (175 + (x1 + x6)))))), (6, iv x6), (7, iv (x1 + x6))]) r_249_51 (n_249_51 _) (by decide) rfl ?_
      refine i_iinc (x := x6) (l' := [(0, rf 252), (1, iv x1), (2, iv x2), (3, iv x3), (4, .long ((zshlL u4 8) ||| (zi2l (zI s 253 (175 + (x1 + x6)))))), (6, iv (x6 + 1)), (7, iv (x1 + x6))]) r_249_53 (n_249_53 _) (by decide) rfl rfl ?_
      refine i_goto (t := 6) r_249_56 (n_249_56 _) rfl ?_
      exact wp_pr (l' := [(0, rf 252), (1, iv x1), (2, iv x2), (3, iv x3), (4, .long ((zshlL u4 8) ||| (zi2l (zI s 253 (175 + (x1 + x6)))))), (6, iv (x6 + 1))]) rfl h
    · replace h := h.2 c5
      refine i_iload_n (x := x1) r_249_16 (n_249_16 _) rfl ?_
      refine i_iload_n (x := x2) r_249_17 (n_249_17 _) rfl ?_
      refine i_iadd r_249_18 (n_249_18 _) ?_
      refine i_iconst r_249_19 (n_249_19 _) ?_
      refine i_isub r_249_20 (n_249_20 _) ?_
      refine i_iload (x := x6) r_249_21 (n_249_21 _) rfl ?_
      refine i_isub r_249_23 (n_249_23 _) ?_
      refine i_goto (t := 31) r_249_24 (n_249_24 _) rfl ?_
      refine i_istore (l' := [(0, rf 252), (1, iv x1), (2, iv x2), (3, iv x3), (4, .long u4), (6, iv x6), (7, iv (((x1 + x2) - 1) - x6))]) r_249_31 (n_249_31 _) (by decide) rfl ?_
      refine i_lload (u := u4) r_249_33 (n_249_33 _) rfl ?_
      refine i_bipush r_249_35 (n_249_35 _) rfl ?_
      refine i_lshl r_249_37 (n_249_37 _) ?_
      refine i_aload_n (a := 252) r_249_38 (n_249_38 _) rfl ?_
      refine i_getR (a := 252) (b := 253) r_249_39 (n_249_39 _) rfl rfl rfl (by omega) lf_252 (by omega) ?_
      refine i_sipush r_249_42 (n_249_42 _) rfl ?_
      refine i_iload (x := ((x1 + x2) - 1) - x6) r_249_45 (n_249_45 _) rfl ?_
      refine i_iadd r_249_47 (n_249_47 _) ?_
      obtain ⟨g8, h⟩ := h
      refine i_iaload (a := 253) (j := 175 + (((x1 + x2) - 1) - x6)) r_249_48 (n_249_48 _) lf_253 ⟨by omega, by omega⟩ (by omega) (by omega) (fun q9 => ?_)
      refine i_i2l r_249_49 (n_249_49 _) ?_
      refine i_lor r_249_50 (n_249_50 _) ?_
      refine i_lstore (l' := [(0, rf 252), (1, iv x1), (2, iv x2), (3, iv x3), (4, .long ((zshlL u4 8) ||| (zi2l (zI s 253 (175 + (((x1 + x2) - 1) - x6)))))), (6, iv x6), (7, iv (((x1 + x2) - 1) - x6))]) r_249_51 (n_249_51 _) (by decide) rfl ?_
      refine i_iinc (x := x6) (l' := [(0, rf 252), (1, iv x1), (2, iv x2), (3, iv x3), (4, .long ((zshlL u4 8) ||| (zi2l (zI s 253 (175 + (((x1 + x2) - 1) - x6)))))), (6, iv (x6 + 1)), (7, iv (((x1 + x2) - 1) - x6))]) r_249_53 (n_249_53 _) (by decide) rfl rfl ?_
      refine i_goto (t := 6) r_249_56 (n_249_56 _) rfl ?_
      exact wp_pr (l' := [(0, rf 252), (1, iv x1), (2, iv x2), (3, iv x3), (4, .long ((zshlL u4 8) ||| (zi2l (zI s 253 (175 + (((x1 + x2) - 1) - x6)))))), (6, iv (x6 + 1))]) rfl h
theorem r_251_0 : xfetch 251 0 = some (.aload_n 0, 1) := by decide +kernel
theorem n_251_0 : ∀ l, xpr 251 0 l = l := xpr_no (by decide +kernel)
theorem r_251_1 : xfetch 251 1 = some (.aload_n 0, 1) := by decide +kernel
theorem n_251_1 : ∀ l, xpr 251 1 l = l := xpr_no (by decide +kernel)
theorem r_251_2 : xfetch 251 2 = some (.aload_n 0, 1) := by decide +kernel
theorem n_251_2 : ∀ l, xpr 251 2 l = l := xpr_no (by decide +kernel)
theorem r_251_3 : xfetch 251 3 = some (.iload_n 1, 1) := by decide +kernel
theorem n_251_3 : ∀ l, xpr 251 3 l = l := xpr_no (by decide +kernel)
theorem r_251_4 : xfetch 251 4 = some (.iload_n 3, 1) := by decide +kernel
theorem n_251_4 : ∀ l, xpr 251 4 l = l := xpr_no (by decide +kernel)
theorem r_251_5 : xfetch 251 5 = some (.invokevirtual 254, 3) := by decide +kernel
theorem n_251_5 : ∀ l, xpr 251 5 l = l := xpr_no (by decide +kernel)
theorem r_251_8 : xfetch 251 8 = some (.ifCond .eq 16, 3) := by decide +kernel
theorem n_251_8 : ∀ l, xpr 251 8 l = l := xpr_no (by decide +kernel)
theorem r_251_11 : xfetch 251 11 = some (.aload_n 0, 1) := by decide +kernel
theorem n_251_11 : ∀ l, xpr 251 11 l = l := xpr_no (by decide +kernel)
theorem r_251_12 : xfetch 251 12 = some (.iload_n 1, 1) := by decide +kernel
theorem n_251_12 : ∀ l, xpr 251 12 l = l := xpr_no (by decide +kernel)
theorem r_251_13 : xfetch 251 13 = some (.iload_n 2, 1) := by decide +kernel
theorem n_251_13 : ∀ l, xpr 251 13 l = l := xpr_no (by decide +kernel)
theorem r_251_14 : xfetch 251 14 = some (.invokevirtual 257, 3) := by decide +kernel
theorem n_251_14 : ∀ l, xpr 251 14 l = l := xpr_no (by decide +kernel)
theorem r_251_17 : xfetch 251 17 = some (.ifCond .eq 7, 3) := by decide +kernel
theorem n_251_17 : ∀ l, xpr 251 17 l = l := xpr_no (by decide +kernel)
theorem r_251_20 : xfetch 251 20 = some (.iconst 1, 1) := by decide +kernel
theorem n_251_20 : ∀ l, xpr 251 20 l = l := xpr_no (by decide +kernel)
theorem r_251_21 : xfetch 251 21 = some (.goto 4, 3) := by decide +kernel
theorem n_251_21 : ∀ l, xpr 251 21 l = l := xpr_no (by decide +kernel)
theorem r_251_24 : xfetch 251 24 = some (.iconst 0, 1) := by decide +kernel
theorem n_251_24 : ∀ l, xpr 251 24 l = l := xpr_no (by decide +kernel)
theorem r_251_25 : xfetch 251 25 = some (.invokevirtual 175, 3) := by decide +kernel
theorem n_251_25 : ∀ l, xpr 251 25 l = l := xpr_no (by decide +kernel)
theorem r_251_28 : xfetch 251 28 = some (.invokevirtual 84, 3) := by decide +kernel
theorem n_251_28 : ∀ l, xpr 251 28 l = l := xpr_no (by decide +kernel)
theorem r_251_31 : xfetch 251 31 = some (.ifCond .eq 5, 3) := by decide +kernel
theorem n_251_31 : ∀ l, xpr 251 31 l = l := xpr_no (by decide +kernel)
theorem r_251_34 : xfetch 251 34 = some (.lconst 0, 1) := by decide +kernel
theorem n_251_34 : ∀ l, xpr 251 34 l = l := xpr_no (by decide +kernel)
theorem r_251_35 : xfetch 251 35 = some (.lreturn, 1) := by decide +kernel
theorem n_251_35 : ∀ l, xpr 251 35 l = l := xpr_no (by decide +kernel)
theorem r_251_36 : xfetch 251 36 = some (.aload_n 0, 1) := by decide +kernel
theorem n_251_36 : ∀ l, xpr 251 36 l = l := xpr_no (by decide +kernel)
theorem r_251_37 : xfetch 251 37 = some (.invokevirtual 135, 3) := by decide +kernel
theorem n_251_37 : ∀ l, xpr 251 37 l = l := xpr_no (by decide +kernel)
theorem r_251_40 : xfetch 251 40 = some (.aload_n 0, 1) := by decide +kernel
theorem n_251_40 : ∀ l, xpr 251 40 l = l := xpr_no (by decide +kernel)
theorem r_251_41 : xfetch 251 41 = some (.iload_n 1, 1) := by decide +kernel
theorem n_251_41 : ∀ l, xpr 251 41 l = l := xpr_no (by decide +kernel)
theorem r_251_42 : xfetch 251 42 = some (.iload_n 2, 1) := by decide +kernel
theorem n_251_42 : ∀ l, xpr 251 42 l = l := xpr_no (by decide +kernel)
theorem r_251_43 : xfetch 251 43 = some (.iload_n 3, 1) := by decide +kernel
theorem n_251_43 : ∀ l, xpr 251 43 l = l := xpr_no (by decide +kernel)
theorem r_251_44 : xfetch 251 44 = some (.invokevirtual 278, 3) := by decide +kernel
theorem n_251_44 : ∀ l, xpr 251 44 l = l := xpr_no (by decide +kernel)
theorem r_251_47 : xfetch 251 47 = some (.lstore 6, 2) := by decide +kernel
theorem n_251_47 : ∀ l, xpr 251 47 l = l := xpr_no (by decide +kernel)
theorem r_251_49 : xfetch 251 49 = some (.aload_n 0, 1) := by decide +kernel
theorem n_251_49 : ∀ l, xpr 251 49 l = l := xpr_no (by decide +kernel)
theorem r_251_50 : xfetch 251 50 = some (.iload_n 1, 1) := by decide +kernel
theorem n_251_50 : ∀ l, xpr 251 50 l = l := xpr_no (by decide +kernel)
theorem r_251_51 : xfetch 251 51 = some (.iload_n 2, 1) := by decide +kernel
theorem n_251_51 : ∀ l, xpr 251 51 l = l := xpr_no (by decide +kernel)
theorem r_251_52 : xfetch 251 52 = some (.iload_n 3, 1) := by decide +kernel
theorem n_251_52 : ∀ l, xpr 251 52 l = l := xpr_no (by decide +kernel)
theorem r_251_53 : xfetch 251 53 = some (.lload 4, 2) := by decide +kernel
theorem n_251_53 : ∀ l, xpr 251 53 l = l := xpr_no (by decide +kernel)
theorem r_251_55 : xfetch 251 55 = some (.invokevirtual 281, 3) := by decide +kernel
theorem n_251_55 : ∀ l, xpr 251 55 l = l := xpr_no (by decide +kernel)
theorem r_251_58 : xfetch 251 58 = some (.lload 6, 2) := by decide +kernel
theorem n_251_58 : ∀ l, xpr 251 58 l = l := xpr_no (by decide +kernel)
theorem r_251_60 : xfetch 251 60 = some (.lreturn, 1) := by decide +kernel
theorem n_251_60 : ∀ l, xpr 251 60 l = l := xpr_no (by decide +kernel)
theorem v_Model_set_0 {S : Option (Nat × (Nat → Int32))} {s : zSt} {Q : Option Value ⊕ Nat → zSt → Prop} {x1 : Int} {x2 : Int} {x3 : Int} {u4 : Int64} 
    (h : wp S 243 0 [(0, rf 252), (1, iv x1), (2, iv x3)] [] s (fun o1 s1 => zkI (fun y1 => (y1 = 0 → Q (rL 0) (zwI s1 252 3 1)) ∧ (y1 ≠ 0 → (0 ≤ ((157 + (6 * x1)) + 1) ∧ ((157 + (6 * x1)) + 1) < 1199) ∧ (rng x2 ∧ (rng ((zI s1 253 ((157 + (6 * x1)) + 1)) - 1) ∧ ((¬ (0 ≤ x2 ∧ x2 ≤ ((zI s1 253 ((157 + (6 * x1)) + 1)) - 1)) → Q (rL 0) (zwI s1 252 3 1)) ∧ (0 ≤ x2 ∧ x2 ≤ ((zI s1 253 ((157 + (6 * x1)) + 1)) - 1) → wp S 182 0 [(0, rf 252)] [] (zwI s1 252 3 0) (fun o15 s15 => zkU (wp S 248 0 [(0, rf 252), (1, iv x1), (2, iv x2), (3, iv x3)] [] s15 (fun o17 s17 => zkL (fun y17 => wp S 252 0 [(0, rf 252), (1, iv x1), (2, iv x2), (3, iv x3), (4, .long u4)] [] s17 (fun o19 s19 => zkU (Q (rL y17) s19) (fun e19 => False) o19)) (fun e17 => False) o17)) (fun e15 => False) o15))))))) (fun e1 => False) o1)) :
    wp S 251 0 [(0, rf 252), (1, iv x1), (2, iv x2), (3, iv x3), (4, .long u4)] [] s Q := by
  refine i_aload_n (a := 252) r_251_0 (n_251_0 _) rfl ?_
  refine i_aload_n (a := 252) r_251_1 (n_251_1 _) rfl ?_
  refine i_aload_n (a := 252) r_251_2 (n_251_2 _) rfl ?_
  refine i_iload_n (x := x1) r_251_3 (n_251_3 _) rfl ?_
  refine i_iload_n (x := x3) r_251_4 (n_251_4 _) rfl ?_
  refine wp_virt (b := 252) (rest := [rf 252, rf 252]) (Ls := [(0, rf 252), (1, iv x1), (2, iv x3)]) r_251_5 (n_251_5 _) rfl ⟨rfl, rfl, by decide, by decide⟩ rfl rfl lf_252 ⟨rfl, Nat.le_of_ble_eq_true rfl, Nat.le_of_ble_eq_true rfl⟩ rfl h ?_
  intro o1 s1 h
  rcases h with ⟨y1, q2, rfl, h⟩ | ⟨e1, rfl, h⟩
  · refine .inl ⟨some (iv y1), rfl, ?_⟩
    show wp S 251 8 [(0, rf 252), (1, iv x1), (2, iv x2), (3, iv x3), (4, .long u4)] [iv y1, rf 252, rf 252] s1 Q
    refine i_if (t := 24) r_251_8 (n_251_8 _) rfl (T_eq q2 ⟨by omega, by omega⟩) (fun c3 => ?_) (fun c3 => ?_)
    · replace h := h.1 c3
      refine i_iconst r_251_24 (n_251_24 _) ?_
      refine wp_virt (b := 252) (rest := [rf 252]) (Ls := [(0, rf 252), (1, iv 0)]) r_251_25 (n_251_25 _) rfl ⟨rfl, rfl, by decide, by decide⟩ rfl rfl lf_252 ⟨rfl, Nat.le_of_ble_eq_true rfl, Nat.le_of_ble_eq_true rfl⟩ rfl K_Model_need0 ?_
      rintro _ _ ⟨rfl, rfl⟩
      refine .inl ⟨some (iv 1), rfl, ?_⟩
      show wp S 251 28 [(0, rf 252), (1, iv x1), (2, iv x2), (3, iv x3), (4, .long u4)] [iv 1, rf 252] s1 Q
      refine wp_virt (b := 252) (rest := []) (Ls := [(0, rf 252), (1, iv 1)]) r_251_28 (n_251_28 _) rfl ⟨rfl, rfl, by decide, by decide⟩ rfl rfl lf_252 ⟨rfl, Nat.le_of_ble_eq_true rfl, Nat.le_of_ble_eq_true rfl⟩ rfl (K_Model_refused1 ⟨by omega, by omega⟩ (by omega)) ?_
      rintro _ _ ⟨rfl, rfl⟩
      refine .inl ⟨some (iv 1), rfl, ?_⟩
      show wp S 251 31 [(0, rf 252), (1, iv x1), (2, iv x2), (3, iv x3), (4, .long u4)] [iv 1] (zwI s1 252 3 1) Q
      refine i_if (t := 36) r_251_31 (n_251_31 _) rfl (T_eq ⟨by omega, by omega⟩ ⟨by omega, by omega⟩) (fun z => absurd z (by omega)) (fun _ => ?_)
      refine i_lconst r_251_34 (n_251_34 _) ?_
      exact i_lreturn r_251_35 (n_251_35 _) rfl h
    · replace h := h.2 c3
      refine i_aload_n (a := 252) r_251_11 (n_251_11 _) rfl ?_
      refine i_iload_n (x := x1) r_251_12 (n_251_12 _) rfl ?_
      refine i_iload_n (x := x2) r_251_13 (n_251_13 _) rfl ?_
      obtain ⟨g6, h⟩ := h
      obtain ⟨g7, h⟩ := h
      obtain ⟨g8, h⟩ := h
      refine wp_virt (b := 252) (rest := [rf 252, rf 252]) (Ls := [(0, rf 252), (1, iv x1), (2, iv x2)]) r_251_14 (n_251_14 _) rfl ⟨rfl, rfl, by decide, by decide⟩ rfl rfl lf_252 ⟨rfl, Nat.le_of_ble_eq_true rfl, Nat.le_of_ble_eq_true rfl⟩ rfl (K_Model_isRow g6 g7 g8) ?_
      rintro _ _ ⟨rfl, rfl⟩
      refine .inl ⟨some (iv (bi (0 ≤ x2 ∧ x2 ≤ ((zI s1 253 ((157 + (6 * x1)) + 1)) - 1)))), rfl, ?_⟩
      show wp S 251 17 [(0, rf 252), (1, iv x1), (2, iv x2), (3, iv x3), (4, .long u4)] [iv (bi (0 ≤ x2 ∧ x2 ≤ ((zI s1 253 ((157 + (6 * x1)) + 1)) - 1))), rf 252, rf 252] s1 Q
      refine i_if (t := 24) r_251_17 (n_251_17 _) rfl (TB_eq) (fun c10 => ?_) (fun c10 => ?_)
      · replace h := h.1 c10
        refine i_iconst r_251_24 (n_251_24 _) ?_
        refine wp_virt (b := 252) (rest := [rf 252]) (Ls := [(0, rf 252), (1, iv 0)]) r_251_25 (n_251_25 _) rfl ⟨rfl, rfl, by decide, by decide⟩ rfl rfl lf_252 ⟨rfl, Nat.le_of_ble_eq_true rfl, Nat.le_of_ble_eq_true rfl⟩ rfl K_Model_need0 ?_
        rintro _ _ ⟨rfl, rfl⟩
        refine .inl ⟨some (iv 1), rfl, ?_⟩
        show wp S 251 28 [(0, rf 252), (1, iv x1), (2, iv x2), (3, iv x3), (4, .long u4)] [iv 1, rf 252] s1 Q
        refine wp_virt (b := 252) (rest := []) (Ls := [(0, rf 252), (1, iv 1)]) r_251_28 (n_251_28 _) rfl ⟨rfl, rfl, by decide, by decide⟩ rfl rfl lf_252 ⟨rfl, Nat.le_of_ble_eq_true rfl, Nat.le_of_ble_eq_true rfl⟩ rfl (K_Model_refused1 ⟨by omega, by omega⟩ (by omega)) ?_
        rintro _ _ ⟨rfl, rfl⟩
        refine .inl ⟨some (iv 1), rfl, ?_⟩
        show wp S 251 31 [(0, rf 252), (1, iv x1), (2, iv x2), (3, iv x3), (4, .long u4)] [iv 1] (zwI s1 252 3 1) Q
        refine i_if (t := 36) r_251_31 (n_251_31 _) rfl (T_eq ⟨by omega, by omega⟩ ⟨by omega, by omega⟩) (fun z => absurd z (by omega)) (fun _ => ?_)
        refine i_lconst r_251_34 (n_251_34 _) ?_
        exact i_lreturn r_251_35 (n_251_35 _) rfl h
      · replace h := h.2 c10
        refine i_iconst r_251_20 (n_251_20 _) ?_
        refine i_goto (t := 25) r_251_21 (n_251_21 _) rfl ?_
        refine wp_virt (b := 252) (rest := [rf 252]) (Ls := [(0, rf 252), (1, iv 1)]) r_251_25 (n_251_25 _) rfl ⟨rfl, rfl, by decide, by decide⟩ rfl rfl lf_252 ⟨rfl, Nat.le_of_ble_eq_true rfl, Nat.le_of_ble_eq_true rfl⟩ rfl (K_Model_need1 ⟨by omega, by omega⟩ (by omega)) ?_
        rintro _ _ ⟨rfl, rfl⟩
        refine .inl ⟨some (iv 0), rfl, ?_⟩
        show wp S 251 28 [(0, rf 252), (1, iv x1), (2, iv x2), (3, iv x3), (4, .long u4)] [iv 0, rf 252] s1 Q
        refine wp_virt (b := 252) (rest := []) (Ls := [(0, rf 252), (1, iv 0)]) r_251_28 (n_251_28 _) rfl ⟨rfl, rfl, by decide, by decide⟩ rfl rfl lf_252 ⟨rfl, Nat.le_of_ble_eq_true rfl, Nat.le_of_ble_eq_true rfl⟩ rfl K_Model_refused0 ?_
        rintro _ _ ⟨rfl, rfl⟩
        refine .inl ⟨some (iv 0), rfl, ?_⟩
        show wp S 251 31 [(0, rf 252), (1, iv x1), (2, iv x2), (3, iv x3), (4, .long u4)] [iv 0] (zwI s1 252 3 0) Q
        refine i_if (t := 36) r_251_31 (n_251_31 _) rfl (T_eq ⟨by omega, by omega⟩ ⟨by omega, by omega⟩) (fun _ => ?_) (fun z => absurd z (by omega))
        refine i_aload_n (a := 252) r_251_36 (n_251_36 _) rfl ?_
        refine wp_virt (b := 252) (rest := []) (Ls := [(0, rf 252)]) r_251_37 (n_251_37 _) rfl ⟨rfl, rfl, by decide, by decide⟩ rfl rfl lf_252 ⟨rfl, Nat.le_of_ble_eq_true rfl, Nat.le_of_ble_eq_true rfl⟩ rfl h ?_
        intro o15 s15 h
        rcases h with ⟨rfl, h⟩ | ⟨e15, rfl, h⟩
        · refine .inl ⟨none, rfl, ?_⟩
          refine i_aload_n (a := 252) r_251_40 (n_251_40 _) rfl ?_
          refine i_iload_n (x := x1) r_251_41 (n_251_41 _) rfl ?_
          refine i_iload_n (x := x2) r_251_42 (n_251_42 _) rfl ?_
          refine i_iload_n (x := x3) r_251_43 (n_251_43 _) rfl ?_
          refine wp_virt (b := 252) (rest := []) (Ls := [(0, rf 252), (1, iv x1), (2, iv x2), (3, iv x3)]) r_251_44 (n_251_44 _) rfl ⟨rfl, rfl, by decide, by decide⟩ rfl rfl lf_252 ⟨rfl, Nat.le_of_ble_eq_true rfl, Nat.le_of_ble_eq_true rfl⟩ rfl h ?_
          intro o17 s17 h
          rcases h with ⟨y17, rfl, h⟩ | ⟨e17, rfl, h⟩
          · refine .inl ⟨some (.long y17), rfl, ?_⟩
            show wp S 251 47 [(0, rf 252), (1, iv x1), (2, iv x2), (3, iv x3), (4, .long u4)] [.long y17] s17 Q
            refine i_lstore (l' := [(0, rf 252), (1, iv x1), (2, iv x2), (3, iv x3), (4, .long u4), (6, .long y17)]) r_251_47 (n_251_47 _) (by decide) rfl ?_
            refine i_aload_n (a := 252) r_251_49 (n_251_49 _) rfl ?_
            refine i_iload_n (x := x1) r_251_50 (n_251_50 _) rfl ?_
            refine i_iload_n (x := x2) r_251_51 (n_251_51 _) rfl ?_
            refine i_iload_n (x := x3) r_251_52 (n_251_52 _) rfl ?_
            refine i_lload (u := u4) r_251_53 (n_251_53 _) rfl ?_
            refine wp_virt (b := 252) (rest := []) (Ls := [(0, rf 252), (1, iv x1), (2, iv x2), (3, iv x3), (4, .long u4)]) r_251_55 (n_251_55 _) rfl ⟨rfl, rfl, by decide, by decide⟩ rfl rfl lf_252 ⟨rfl, Nat.le_of_ble_eq_true rfl, Nat.le_of_ble_eq_true rfl⟩ rfl h ?_
            intro o19 s19 h
            rcases h with ⟨rfl, h⟩ | ⟨e19, rfl, h⟩
            · refine .inl ⟨none, rfl, ?_⟩
              refine i_lload (u := y17) r_251_58 (n_251_58 _) rfl ?_
              exact i_lreturn r_251_60 (n_251_60 _) rfl h
            · skip
              exact h.elim
          · skip
            exact h.elim
        · skip
          exact h.elim
  · skip
    exact h.elim
theorem r_252_0 : xfetch 252 0 = some (.aload_n 0, 1) := by decide +kernel
theorem n_252_0 : ∀ l, xpr 252 0 l = l := xpr_no (by decide +kernel)
theorem r_252_1 : xfetch 252 1 = some (.getfield 28, 3) := by decide +kernel
theorem n_252_1 : ∀ l, xpr 252 1 l = l := xpr_no (by decide +kernel)
theorem r_252_4 : xfetch 252 4 = some (.bipush 40, 2) := by decide +kernel
theorem n_252_4 : ∀ l, xpr 252 4 l = l := xpr_no (by decide +kernel)
theorem r_252_6 : xfetch 252 6 = some (.aload_n 0, 1) := by decide +kernel
theorem n_252_6 : ∀ l, xpr 252 6 l = l := xpr_no (by decide +kernel)
theorem r_252_7 : xfetch 252 7 = some (.iload_n 1, 1) := by decide +kernel
theorem n_252_7 : ∀ l, xpr 252 7 l = l := xpr_no (by decide +kernel)
theorem r_252_8 : xfetch 252 8 = some (.iconst 0, 1) := by decide +kernel
theorem n_252_8 : ∀ l, xpr 252 8 l = l := xpr_no (by decide +kernel)
theorem r_252_9 : xfetch 252 9 = some (.invokevirtual 228, 3) := by decide +kernel
theorem n_252_9 : ∀ l, xpr 252 9 l = l := xpr_no (by decide +kernel)
theorem r_252_12 : xfetch 252 12 = some (.imul, 1) := by decide +kernel
theorem n_252_12 : ∀ l, xpr 252 12 l = l := xpr_no (by decide +kernel)
theorem r_252_13 : xfetch 252 13 = some (.iload_n 3, 1) := by decide +kernel
theorem n_252_13 : ∀ l, xpr 252 13 l = l := xpr_no (by decide +kernel)
theorem r_252_14 : xfetch 252 14 = some (.iadd, 1) := by decide +kernel
theorem n_252_14 : ∀ l, xpr 252 14 l = l := xpr_no (by decide +kernel)
theorem r_252_15 : xfetch 252 15 = some (.iaload, 1) := by decide +kernel
theorem n_252_15 : ∀ l, xpr 252 15 l = l := xpr_no (by decide +kernel)
theorem r_252_16 : xfetch 252 16 = some (.istore 6, 2) := by decide +kernel
theorem n_252_16 : ∀ l, xpr 252 16 l = l := xpr_no (by decide +kernel)
theorem r_252_18 : xfetch 252 18 = some (.aload_n 0, 1) := by decide +kernel
theorem n_252_18 : ∀ l, xpr 252 18 l = l := xpr_no (by decide +kernel)
theorem r_252_19 : xfetch 252 19 = some (.iload_n 1, 1) := by decide +kernel
theorem n_252_19 : ∀ l, xpr 252 19 l = l := xpr_no (by decide +kernel)
theorem r_252_20 : xfetch 252 20 = some (.iload_n 2, 1) := by decide +kernel
theorem n_252_20 : ∀ l, xpr 252 20 l = l := xpr_no (by decide +kernel)
theorem r_252_21 : xfetch 252 21 = some (.iload_n 3, 1) := by decide +kernel
theorem n_252_21 : ∀ l, xpr 252 21 l = l := xpr_no (by decide +kernel)
theorem r_252_22 : xfetch 252 22 = some (.invokevirtual 260, 3) := by decide +kernel
theorem n_252_22 : ∀ l, xpr 252 22 l = l := xpr_no (by decide +kernel)
theorem r_252_25 : xfetch 252 25 = some (.istore 7, 2) := by decide +kernel
theorem n_252_25 : ∀ l, xpr 252 25 l = l := xpr_no (by decide +kernel)
theorem r_252_27 : xfetch 252 27 = some (.iload 6, 2) := by decide +kernel
theorem n_252_27 : ∀ l, xpr 252 27 l = l := xpr_no (by decide +kernel)
theorem r_252_29 : xfetch 252 29 = some (.invokestatic 96, 3) := by decide +kernel
theorem n_252_29 : ∀ l, xpr 252 29 l = l := xpr_no (by decide +kernel)
theorem r_252_32 : xfetch 252 32 = some (.istore 8, 2) := by decide +kernel
theorem n_252_32 : ∀ l, xpr 252 32 l = l := xpr_no (by decide +kernel)
theorem r_252_34 : xfetch 252 34 = some (.lload 4, 2) := by decide +kernel
theorem n_252_34 : ∀ l, xpr 252 34 l = l := xpr_no (by decide +kernel)
theorem r_252_36 : xfetch 252 36 = some (.lstore 9, 2) := by decide +kernel
theorem n_252_36 : ∀ l, xpr 252 36 l = l := xpr_no (by decide +kernel)
theorem r_252_38 : xfetch 252 38 = some (.iload 6, 2) := by decide +kernel
theorem n_252_38 : ∀ l, xpr 252 38 l = l := xpr_no (by decide +kernel)
theorem r_252_40 : xfetch 252 40 = some (.invokestatic 109, 3) := by decide +kernel
theorem n_252_40 : ∀ l, xpr 252 40 l = l := xpr_no (by decide +kernel)
theorem r_252_43 : xfetch 252 43 = some (.ifCond .eq 59, 3) := by decide +kernel
theorem n_252_43 : ∀ l, xpr 252 43 l = l := xpr_no (by decide +kernel)
theorem r_252_46 : xfetch 252 46 = some (.lconst 1, 1) := by decide +kernel
theorem n_252_46 : ∀ l, xpr 252 46 l = l := xpr_no (by decide +kernel)
theorem r_252_47 : xfetch 252 47 = some (.iload 6, 2) := by decide +kernel
theorem n_252_47 : ∀ l, xpr 252 47 l = l := xpr_no (by decide +kernel)
theorem r_252_49 : xfetch 252 49 = some (.bipush 20, 2) := by decide +kernel
theorem n_252_49 : ∀ l, xpr 252 49 l = l := xpr_no (by decide +kernel)
theorem r_252_51 : xfetch 252 51 = some (.isub, 1) := by decide +kernel
theorem n_252_51 : ∀ l, xpr 252 51 l = l := xpr_no (by decide +kernel)
theorem r_252_52 : xfetch 252 52 = some (.lshl, 1) := by decide +kernel
theorem n_252_52 : ∀ l, xpr 252 52 l = l := xpr_no (by decide +kernel)
theorem r_252_53 : xfetch 252 53 = some (.lconst 1, 1) := by decide +kernel
theorem n_252_53 : ∀ l, xpr 252 53 l = l := xpr_no (by decide +kernel)
theorem r_252_54 : xfetch 252 54 = some (.lsub, 1) := by decide +kernel
theorem n_252_54 : ∀ l, xpr 252 54 l = l := xpr_no (by decide +kernel)
theorem r_252_55 : xfetch 252 55 = some (.aload_n 0, 1) := by decide +kernel
theorem n_252_55 : ∀ l, xpr 252 55 l = l := xpr_no (by decide +kernel)
theorem r_252_56 : xfetch 252 56 = some (.iload_n 1, 1) := by decide +kernel
theorem n_252_56 : ∀ l, xpr 252 56 l = l := xpr_no (by decide +kernel)
theorem r_252_57 : xfetch 252 57 = some (.iload_n 3, 1) := by decide +kernel
theorem n_252_57 : ∀ l, xpr 252 57 l = l := xpr_no (by decide +kernel)
theorem r_252_58 : xfetch 252 58 = some (.invokevirtual 269, 3) := by decide +kernel
theorem n_252_58 : ∀ l, xpr 252 58 l = l := xpr_no (by decide +kernel)
theorem r_252_61 : xfetch 252 61 = some (.lshl, 1) := by decide +kernel
theorem n_252_61 : ∀ l, xpr 252 61 l = l := xpr_no (by decide +kernel)
theorem r_252_62 : xfetch 252 62 = some (.lstore 11, 2) := by decide +kernel
theorem n_252_62 : ∀ l, xpr 252 62 l = l := xpr_no (by decide +kernel)
theorem r_252_64 : xfetch 252 64 = some (.aload_n 0, 1) := by decide +kernel
theorem n_252_64 : ∀ l, xpr 252 64 l = l := xpr_no (by decide +kernel)
theorem r_252_65 : xfetch 252 65 = some (.iload 7, 2) := by decide +kernel
theorem n_252_65 : ∀ l, xpr 252 65 l = l := xpr_no (by decide +kernel)
theorem r_252_67 : xfetch 252 67 = some (.iconst 2, 1) := by decide +kernel
theorem n_252_67 : ∀ l, xpr 252 67 l = l := xpr_no (by decide +kernel)
theorem r_252_68 : xfetch 252 68 = some (.aload_n 0, 1) := by decide +kernel
theorem n_252_68 : ∀ l, xpr 252 68 l = l := xpr_no (by decide +kernel)
theorem r_252_69 : xfetch 252 69 = some (.iload_n 1, 1) := by decide +kernel
theorem n_252_69 : ∀ l, xpr 252 69 l = l := xpr_no (by decide +kernel)
theorem r_252_70 : xfetch 252 70 = some (.iconst 3, 1) := by decide +kernel
theorem n_252_70 : ∀ l, xpr 252 70 l = l := xpr_no (by decide +kernel)
theorem r_252_71 : xfetch 252 71 = some (.invokevirtual 228, 3) := by decide +kernel
theorem n_252_71 : ∀ l, xpr 252 71 l = l := xpr_no (by decide +kernel)
theorem r_252_74 : xfetch 252 74 = some (.invokevirtual 265, 3) := by decide +kernel
theorem n_252_74 : ∀ l, xpr 252 74 l = l := xpr_no (by decide +kernel)
theorem r_252_77 : xfetch 252 77 = some (.lload 11, 2) := by decide +kernel
theorem n_252_77 : ∀ l, xpr 252 77 l = l := xpr_no (by decide +kernel)
theorem r_252_79 : xfetch 252 79 = some (.ldc2_w 272, 3) := by decide +kernel
theorem n_252_79 : ∀ l, xpr 252 79 l = l := xpr_no (by decide +kernel)
theorem r_252_82 : xfetch 252 82 = some (.lxor, 1) := by decide +kernel
theorem n_252_82 : ∀ l, xpr 252 82 l = l := xpr_no (by decide +kernel)
theorem r_252_83 : xfetch 252 83 = some (.land, 1) := by decide +kernel
theorem n_252_83 : ∀ l, xpr 252 83 l = l := xpr_no (by decide +kernel)
theorem r_252_84 : xfetch 252 84 = some (.lload 4, 2) := by decide +kernel
theorem n_252_84 : ∀ l, xpr 252 84 l = l := xpr_no (by decide +kernel)
theorem r_252_86 : xfetch 252 86 = some (.aload_n 0, 1) := by decide +kernel
theorem n_252_86 : ∀ l, xpr 252 86 l = l := xpr_no (by decide +kernel)
theorem r_252_87 : xfetch 252 87 = some (.iload_n 1, 1) := by decide +kernel
theorem n_252_87 : ∀ l, xpr 252 87 l = l := xpr_no (by decide +kernel)
theorem r_252_88 : xfetch 252 88 = some (.iload_n 3, 1) := by decide +kernel
theorem n_252_88 : ∀ l, xpr 252 88 l = l := xpr_no (by decide +kernel)
theorem r_252_89 : xfetch 252 89 = some (.invokevirtual 269, 3) := by decide +kernel
theorem n_252_89 : ∀ l, xpr 252 89 l = l := xpr_no (by decide +kernel)
theorem r_252_92 : xfetch 252 92 = some (.lshl, 1) := by decide +kernel
theorem n_252_92 : ∀ l, xpr 252 92 l = l := xpr_no (by decide +kernel)
theorem r_252_93 : xfetch 252 93 = some (.lload 11, 2) := by decide +kernel
theorem n_252_93 : ∀ l, xpr 252 93 l = l := xpr_no (by decide +kernel)
theorem r_252_95 : xfetch 252 95 = some (.land, 1) := by decide +kernel
theorem n_252_95 : ∀ l, xpr 252 95 l = l := xpr_no (by decide +kernel)
theorem r_252_96 : xfetch 252 96 = some (.lor, 1) := by decide +kernel
theorem n_252_96 : ∀ l, xpr 252 96 l = l := xpr_no (by decide +kernel)
theorem r_252_97 : xfetch 252 97 = some (.lstore 9, 2) := by decide +kernel
theorem n_252_97 : ∀ l, xpr 252 97 l = l := xpr_no (by decide +kernel)
theorem r_252_99 : xfetch 252 99 = some (.goto 24, 3) := by decide +kernel
theorem n_252_99 : ∀ l, xpr 252 99 l = l := xpr_no (by decide +kernel)
theorem r_252_102 : xfetch 252 102 = some (.iload 6, 2) := by decide +kernel
theorem n_252_102 : ∀ l, xpr 252 102 l = l := xpr_no (by decide +kernel)
theorem r_252_104 : xfetch 252 104 = some (.bipush 7, 2) := by decide +kernel
theorem n_252_104 : ∀ l, xpr 252 104 l = l := xpr_no (by decide +kernel)
theorem r_252_106 : xfetch 252 106 = some (.if_icmp .ne 17, 3) := by decide +kernel
theorem n_252_106 : ∀ l, xpr 252 106 l = l := xpr_no (by decide +kernel)
theorem r_252_109 : xfetch 252 109 = some (.lload 4, 2) := by decide +kernel
theorem n_252_109 : ∀ l, xpr 252 109 l = l := xpr_no (by decide +kernel)
theorem r_252_111 : xfetch 252 111 = some (.lconst 0, 1) := by decide +kernel
theorem n_252_111 : ∀ l, xpr 252 111 l = l := xpr_no (by decide +kernel)
theorem r_252_112 : xfetch 252 112 = some (.lcmp, 1) := by decide +kernel
theorem n_252_112 : ∀ l, xpr 252 112 l = l := xpr_no (by decide +kernel)
theorem r_252_113 : xfetch 252 113 = some (.ifCond .ne 7, 3) := by decide +kernel
theorem n_252_113 : ∀ l, xpr 252 113 l = l := xpr_no (by decide +kernel)
theorem r_252_116 : xfetch 252 116 = some (.lconst 0, 1) := by decide +kernel
theorem n_252_116 : ∀ l, xpr 252 116 l = l := xpr_no (by decide +kernel)
theorem r_252_117 : xfetch 252 117 = some (.goto 4, 3) := by decide +kernel
theorem n_252_117 : ∀ l, xpr 252 117 l = l := xpr_no (by decide +kernel)
theorem r_252_120 : xfetch 252 120 = some (.lconst 1, 1) := by decide +kernel
theorem n_252_120 : ∀ l, xpr 252 120 l = l := xpr_no (by decide +kernel)
theorem r_252_121 : xfetch 252 121 = some (.lstore 9, 2) := by decide +kernel
theorem n_252_121 : ∀ l, xpr 252 121 l = l := xpr_no (by decide +kernel)
theorem r_252_123 : xfetch 252 123 = some (.aload_n 0, 1) := by decide +kernel
theorem n_252_123 : ∀ l, xpr 252 123 l = l := xpr_no (by decide +kernel)
theorem r_252_124 : xfetch 252 124 = some (.iload 7, 2) := by decide +kernel
theorem n_252_124 : ∀ l, xpr 252 124 l = l := xpr_no (by decide +kernel)
theorem r_252_126 : xfetch 252 126 = some (.iload 8, 2) := by decide +kernel
theorem n_252_126 : ∀ l, xpr 252 126 l = l := xpr_no (by decide +kernel)
theorem r_252_128 : xfetch 252 128 = some (.aload_n 0, 1) := by decide +kernel
theorem n_252_128 : ∀ l, xpr 252 128 l = l := xpr_no (by decide +kernel)
theorem r_252_129 : xfetch 252 129 = some (.iload_n 1, 1) := by decide +kernel
theorem n_252_129 : ∀ l, xpr 252 129 l = l := xpr_no (by decide +kernel)
theorem r_252_130 : xfetch 252 130 = some (.iconst 3, 1) := by decide +kernel
theorem n_252_130 : ∀ l, xpr 252 130 l = l := xpr_no (by decide +kernel)
theorem r_252_131 : xfetch 252 131 = some (.invokevirtual 228, 3) := by decide +kernel
theorem n_252_131 : ∀ l, xpr 252 131 l = l := xpr_no (by decide +kernel)
theorem r_252_134 : xfetch 252 134 = some (.lload 9, 2) := by decide +kernel
theorem n_252_134 : ∀ l, xpr 252 134 l = l := xpr_no (by decide +kernel)
theorem r_252_136 : xfetch 252 136 = some (.invokevirtual 274, 3) := by decide +kernel
theorem n_252_136 : ∀ l, xpr 252 136 l = l := xpr_no (by decide +kernel)
theorem r_252_139 : xfetch 252 139 = some (.return_, 1) := by decide +kernel
theorem n_252_139 : ∀ l, xpr 252 139 l = l := xpr_no (by decide +kernel)
theorem v_Model_writes_0 {S : Option (Nat × (Nat → Int32))} {s : zSt} {Q : Option Value ⊕ Nat → zSt → Prop} {x1 : Int} {x2 : Int} {x3 : Int} {u4 : Int64} 
    (h : (0 ≤ ((157 + (6 * x1)) + 0) ∧ ((157 + (6 * x1)) + 0) < 1199) ∧ ((0 ≤ ((40 * (zI s 253 ((157 + (6 * x1)) + 0))) + x3) ∧ ((40 * (zI s 253 ((157 + (6 * x1)) + 0))) + x3) < 240) ∧ (wp S 245 0 [(0, rf 252), (1, iv x1), (2, iv x2), (3, iv x3)] [] s (fun o6 s6 => zkI (fun y6 => (¬ (21 ≤ (zI s 259 ((40 * (zI s 253 ((157 + (6 * x1)) + 0))) + x3)) ∧ (zI s 259 ((40 * (zI s 253 ((157 + (6 * x1)) + 0))) + x3)) ≤ 36) → ((zI s 259 ((40 * (zI s 253 ((157 + (6 * x1)) + 0))) + x3)) ≠ 7 → (0 ≤ ((157 + (6 * x1)) + 3) ∧ ((157 + (6 * x1)) + 3) < 1199) ∧ (wp S 253 0 [(0, rf 252), (1, iv y6), (2, iv (zby (zI s 259 ((40 * (zI s 253 ((157 + (6 * x1)) + 0))) + x3)))), (3, iv (zI s6 253 ((157 + (6 * x1)) + 3))), (4, .long u4)] [] s6 (fun o15 s15 => zkU (Q rU s15) (fun e15 => False) o15))) ∧ ((zI s 259 ((40 * (zI s 253 ((157 + (6 * x1)) + 0))) + x3)) = 7 → ((zcmp u4 0) ≠ 0 → (0 ≤ ((157 + (6 * x1)) + 3) ∧ ((157 + (6 * x1)) + 3) < 1199) ∧ (wp S 253 0 [(0, rf 252), (1, iv y6), (2, iv (zby (zI s 259 ((40 * (zI s 253 ((157 + (6 * x1)) + 0))) + x3)))), (3, iv (zI s6 253 ((157 + (6 * x1)) + 3))), (4, .long 1)] [] s6 (fun o21 s21 => zkU (Q rU s21) (fun e21 => False) o21))) ∧ ((zcmp u4 0) = 0 → (0 ≤ ((157 + (6 * x1)) + 3) ∧ ((157 + (6 * x1)) + 3) < 1199) ∧ (wp S 253 0 [(0, rf 252), (1, iv y6), (2, iv (zby (zI s 259 ((40 * (zI s 253 ((157 + (6 * x1)) + 0))) + x3)))), (3, iv (zI s6 253 ((157 + (6 * x1)) + 3))), (4, .long 0)] [] s6 (fun o26 s26 => zkU (Q rU s26) (fun e26 => False) o26))))) ∧ (21 ≤ (zI s 259 ((40 * (zI s 253 ((157 + (6 * x1)) + 0))) + x3)) ∧ (zI s 259 ((40 * (zI s 253 ((157 + (6 * x1)) + 0))) + x3)) ≤ 36 → (0 ≤ 157 + 6 * x1 + 2 ∧ 157 + 6 * x1 + 2 < 1199) ∧ ((0 ≤ 157 + 6 * x1 + 0 ∧ 157 + 6 * x1 + 0 < 1199) ∧ ((0 ≤ 40 * zI s6 253 (157 + 6 * x1 + 0) + x3 ∧ 40 * zI s6 253 (157 + 6 * x1 + 0) + x3 < 240) ∧ ((0 ≤ ((157 + (6 * x1)) + 3) ∧ ((157 + (6 * x1)) + 3) < 1199) ∧ (wp S 249 0 [(0, rf 252), (1, iv y6), (2, iv 2), (3, iv (zI s6 253 ((157 + (6 * x1)) + 3)))] [] s6 (fun o35 s35 => zkL (fun y35 => (0 ≤ 40 * zI s35 253 (157 + 6 * x1 + 0) + x3 ∧ 40 * zI s35 253 (157 + 6 * x1 + 0) + x3 < 240) ∧ (wp S 253 0 [(0, rf 252), (1, iv y6), (2, iv (zby (zI s 259 ((40 * (zI s 253 ((157 + (6 * x1)) + 0))) + x3)))), (3, iv (zI s35 253 ((157 + (6 * x1)) + 3))), (4, .long ((y35 &&& ((zshlL ((zshlL 1 ((zI s 259 ((40 * (zI s 253 ((157 + (6 * x1)) + 0))) + x3)) - 20)) - 1) (zlw (zI s6 253 (157 + 6 * x1 + 2)) (zI s6 261 (40 * zI s6 253 (157 + 6 * x1 + 0) + x3)))) ^^^ (-1))) ||| ((zshlL u4 (zlw (zI s35 253 (157 + 6 * x1 + 2)) (zI s35 261 (40 * zI s35 253 (157 + 6 * x1 + 0) + x3)))) &&& (zshlL ((zshlL 1 ((zI s 259 ((40 * (zI s 253 ((157 + (6 * x1)) + 0))) + x3)) - 20)) - 1) (zlw (zI s6 253 (157 + 6 * x1 + 2)) (zI s6 261 (40 * zI s6 253 (157 + 6 * x1 + 0) + x3)))))))] [] s35 (fun o41 s41 => zkU (Q rU s41) (fun e41 => False) o41))) (fun e35 => False) o35))))))) (fun e6 => False) o6)))) :
    wp S 252 0 [(0, rf 252), (1, iv x1), (2, iv x2), (3, iv x3), (4, .long u4)] [] s Q := by
  refine i_aload_n (a := 252) r_252_0 (n_252_0 _) rfl ?_
  refine i_getR (a := 252) (b := 259) r_252_1 (n_252_1 _) rfl rfl rfl (by omega) lf_252 (by omega) ?_
  refine i_bipush r_252_4 (n_252_4 _) rfl ?_
  refine i_aload_n (a := 252) r_252_6 (n_252_6 _) rfl ?_
  refine i_iload_n (x := x1) r_252_7 (n_252_7 _) rfl ?_
  refine i_iconst r_252_8 (n_252_8 _) ?_
  obtain ⟨g1, h⟩ := h
  refine wp_virt (b := 252) (rest := [iv 40, rf 259]) (Ls := [(0, rf 252), (1, iv x1), (2, iv 0)]) r_252_9 (n_252_9 _) rfl ⟨rfl, rfl, by decide, by decide⟩ rfl rfl lf_252 ⟨rfl, Nat.le_of_ble_eq_true rfl, Nat.le_of_ble_eq_true rfl⟩ rfl (K_Model_of g1) ?_
  rintro _ _ ⟨rfl, rfl⟩
  refine .inl ⟨some (iv (zI s 253 ((157 + (6 * x1)) + 0))), rfl, ?_⟩
  show wp S 252 12 [(0, rf 252), (1, iv x1), (2, iv x2), (3, iv x3), (4, .long u4)] [iv (zI s 253 ((157 + (6 * x1)) + 0)), iv 40, rf 259] s Q
  refine wp_rd (a := 253) (j := ((157 + (6 * x1)) + 0)) (fun q3 => ?_)
  refine i_imul r_252_12 (n_252_12 _) ?_
  refine i_iload_n (x := x3) r_252_13 (n_252_13 _) rfl ?_
  refine i_iadd r_252_14 (n_252_14 _) ?_
  obtain ⟨g4, h⟩ := h
  refine i_iaload (a := 259) (j := (40 * (zI s 253 ((157 + (6 * x1)) + 0))) + x3) r_252_15 (n_252_15 _) lf_259 ⟨by omega, by omega⟩ (by omega) (by omega) (fun q5 => ?_)
  refine i_istore (l' := [(0, rf 252), (1, iv x1), (2, iv x2), (3, iv x3), (4, .long u4), (6, iv (zI s 259 ((40 * (zI s 253 ((157 + (6 * x1)) + 0))) + x3)))]) r_252_16 (n_252_16 _) (by decide) rfl ?_
  refine i_aload_n (a := 252) r_252_18 (n_252_18 _) rfl ?_
  refine i_iload_n (x := x1) r_252_19 (n_252_19 _) rfl ?_
  refine i_iload_n (x := x2) r_252_20 (n_252_20 _) rfl ?_
  refine i_iload_n (x := x3) r_252_21 (n_252_21 _) rfl ?_
  refine wp_virt (b := 252) (rest := []) (Ls := [(0, rf 252), (1, iv x1), (2, iv x2), (3, iv x3)]) r_252_22 (n_252_22 _) rfl ⟨rfl, rfl, by decide, by decide⟩ rfl rfl lf_252 ⟨rfl, Nat.le_of_ble_eq_true rfl, Nat.le_of_ble_eq_true rfl⟩ rfl h ?_
  intro o6 s6 h
  rcases h with ⟨y6, q7, rfl, h⟩ | ⟨e6, rfl, h⟩
  · refine .inl ⟨some (iv y6), rfl, ?_⟩
    show wp S 252 25 [(0, rf 252), (1, iv x1), (2, iv x2), (3, iv x3), (4, .long u4), (6, iv (zI s 259 ((40 * (zI s 253 ((157 + (6 * x1)) + 0))) + x3)))] [iv y6] s6 Q
    refine i_istore (l' := [(0, rf 252), (1, iv x1), (2, iv x2), (3, iv x3), (4, .long u4), (6, iv (zI s 259 ((40 * (zI s 253 ((157 + (6 * x1)) + 0))) + x3))), (7, iv y6)]) r_252_25 (n_252_25 _) (by decide) rfl ?_
    refine i_iload (x := zI s 259 ((40 * (zI s 253 ((157 + (6 * x1)) + 0))) + x3)) r_252_27 (n_252_27 _) rfl ?_
    refine wp_stat (rest := []) (Ls := [(0, iv (zI s 259 ((40 * (zI s 253 ((157 + (6 * x1)) + 0))) + x3)))]) r_252_29 (n_252_29 _) rfl ⟨rfl, by decide, by decide, by decide⟩ rfl rfl ⟨rfl, Nat.le_of_ble_eq_true rfl, Nat.le_of_ble_eq_true rfl⟩ rfl (K_Model_bytesOf q5) ?_
    rintro _ _ ⟨rfl, rfl⟩
    refine .inl ⟨some (iv (zby (zI s 259 ((40 * (zI s 253 ((157 + (6 * x1)) + 0))) + x3)))), rfl, ?_⟩
    show wp S 252 32 [(0, rf 252), (1, iv x1), (2, iv x2), (3, iv x3), (4, .long u4), (6, iv (zI s 259 ((40 * (zI s 253 ((157 + (6 * x1)) + 0))) + x3))), (7, iv y6)] [iv (zby (zI s 259 ((40 * (zI s 253 ((157 + (6 * x1)) + 0))) + x3)))] s6 Q
    refine i_istore (l' := [(0, rf 252), (1, iv x1), (2, iv x2), (3, iv x3), (4, .long u4), (6, iv (zI s 259 ((40 * (zI s 253 ((157 + (6 * x1)) + 0))) + x3))), (7, iv y6), (8, iv (zby (zI s 259 ((40 * (zI s 253 ((157 + (6 * x1)) + 0))) + x3))))]) r_252_32 (n_252_32 _) (by decide) rfl ?_
    refine i_lload (u := u4) r_252_34 (n_252_34 _) rfl ?_
    refine i_lstore (l' := [(0, rf 252), (1, iv x1), (2, iv x2), (3, iv x3), (4, .long u4), (6, iv (zI s 259 ((40 * (zI s 253 ((157 + (6 * x1)) + 0))) + x3))), (7, iv y6), (8, iv (zby (zI s 259 ((40 * (zI s 253 ((157 + (6 * x1)) + 0))) + x3)))), (9, .long u4)]) r_252_36 (n_252_36 _) (by decide) rfl ?_
    refine i_iload (x := zI s 259 ((40 * (zI s 253 ((157 + (6 * x1)) + 0))) + x3)) r_252_38 (n_252_38 _) rfl ?_
    refine wp_stat (rest := []) (Ls := [(0, iv (zI s 259 ((40 * (zI s 253 ((157 + (6 * x1)) + 0))) + x3)))]) r_252_40 (n_252_40 _) rfl ⟨rfl, by decide, by decide, by decide⟩ rfl rfl ⟨rfl, Nat.le_of_ble_eq_true rfl, Nat.le_of_ble_eq_true rfl⟩ rfl (K_Model_isBits q5) ?_
    rintro _ _ ⟨rfl, rfl⟩
    refine .inl ⟨some (iv (bi (21 ≤ (zI s 259 ((40 * (zI s 253 ((157 + (6 * x1)) + 0))) + x3)) ∧ (zI s 259 ((40 * (zI s 253 ((157 + (6 * x1)) + 0))) + x3)) ≤ 36))), rfl, ?_⟩
    show wp S 252 43 [(0, rf 252), (1, iv x1), (2, iv x2), (3, iv x3), (4, .long u4), (6, iv (zI s 259 ((40 * (zI s 253 ((157 + (6 * x1)) + 0))) + x3))), (7, iv y6), (8, iv (zby (zI s 259 ((40 * (zI s 253 ((157 + (6 * x1)) + 0))) + x3)))), (9, .long u4)] [iv (bi (21 ≤ (zI s 259 ((40 * (zI s 253 ((157 + (6 * x1)) + 0))) + x3)) ∧ (zI s 259 ((40 * (zI s 253 ((157 + (6 * x1)) + 0))) + x3)) ≤ 36))] s6 Q
    refine i_if (t := 102) r_252_43 (n_252_43 _) rfl (TB_eq) (fun c10 => ?_) (fun c10 => ?_)
    · replace h := h.1 c10
      refine i_iload (x := zI s 259 ((40 * (zI s 253 ((157 + (6 * x1)) + 0))) + x3)) r_252_102 (n_252_102 _) rfl ?_
      refine i_bipush r_252_104 (n_252_104 _) rfl ?_
      refine i_icmp (t := 123) r_252_106 (n_252_106 _) rfl (T_ne q5 ⟨by omega, by omega⟩) (fun c11 => ?_) (fun c11 => ?_)
      · replace h := h.1 c11
        refine i_aload_n (a := 252) r_252_123 (n_252_123 _) rfl ?_
        refine i_iload (x := y6) r_252_124 (n_252_124 _) rfl ?_
        refine i_iload (x := zby (zI s 259 ((40 * (zI s 253 ((157 + (6 * x1)) + 0))) + x3))) r_252_126 (n_252_126 _) rfl ?_
        refine i_aload_n (a := 252) r_252_128 (n_252_128 _) rfl ?_
        refine i_iload_n (x := x1) r_252_129 (n_252_129 _) rfl ?_
        refine i_iconst r_252_130 (n_252_130 _) ?_
        obtain ⟨g12, h⟩ := h
        refine wp_virt (b := 252) (rest := [iv (zby (zI s 259 ((40 * (zI s 253 ((157 + (6 * x1)) + 0))) + x3))), iv y6, rf 252]) (Ls := [(0, rf 252), (1, iv x1), (2, iv 3)]) r_252_131 (n_252_131 _) rfl ⟨rfl, rfl, by decide, by decide⟩ rfl rfl lf_252 ⟨rfl, Nat.le_of_ble_eq_true rfl, Nat.le_of_ble_eq_true rfl⟩ rfl (K_Model_of g12) ?_
        rintro _ _ ⟨rfl, rfl⟩
        refine .inl ⟨some (iv (zI s6 253 ((157 + (6 * x1)) + 3))), rfl, ?_⟩
        show wp S 252 134 [(0, rf 252), (1, iv x1), (2, iv x2), (3, iv x3), (4, .long u4), (6, iv (zI s 259 ((40 * (zI s 253 ((157 + (6 * x1)) + 0))) + x3))), (7, iv y6), (8, iv (zby (zI s 259 ((40 * (zI s 253 ((157 + (6 * x1)) + 0))) + x3)))), (9, .long u4)] [iv (zI s6 253 ((157 + (6 * x1)) + 3)), iv (zby (zI s 259 ((40 * (zI s 253 ((157 + (6 * x1)) + 0))) + x3))), iv y6, rf 252] s6 Q
        refine wp_rd (a := 253) (j := ((157 + (6 * x1)) + 3)) (fun q14 => ?_)
        refine i_lload (u := u4) r_252_134 (n_252_134 _) rfl ?_
        refine wp_virt (b := 252) (rest := []) (Ls := [(0, rf 252), (1, iv y6), (2, iv (zby (zI s 259 ((40 * (zI s 253 ((157 + (6 * x1)) + 0))) + x3)))), (3, iv (zI s6 253 ((157 + (6 * x1)) + 3))), (4, .long u4)]) r_252_136 (n_252_136 _) rfl ⟨rfl, rfl, by decide, by decide⟩ rfl rfl lf_252 ⟨rfl, Nat.le_of_ble_eq_true rfl, Nat.le_of_ble_eq_true rfl⟩ rfl h ?_
        intro o15 s15 h
        rcases h with ⟨rfl, h⟩ | ⟨e15, rfl, h⟩
        · refine .inl ⟨none, rfl, ?_⟩
          exact i_return r_252_139 (n_252_139 _) rfl h
        · skip
          exact h.elim
      · replace h := h.2 c11
        refine i_lload (u := u4) r_252_109 (n_252_109 _) rfl ?_
        refine i_lconst r_252_111 (n_252_111 _) ?_
        refine i_lcmp r_252_112 (n_252_112 _) ?_
        refine i_if (t := 120) r_252_113 (n_252_113 _) rfl (T_ne (zcmp_rng _ _) ⟨by omega, by omega⟩) (fun c17 => ?_) (fun c17 => ?_)
        · replace h := h.1 c17
          refine i_lconst r_252_120 (n_252_120 _) ?_
          refine i_lstore (l' := [(0, rf 252), (1, iv x1), (2, iv x2), (3, iv x3), (4, .long u4), (6, iv (zI s 259 ((40 * (zI s 253 ((157 + (6 * x1)) + 0))) + x3))), (7, iv y6), (8, iv (zby (zI s 259 ((40 * (zI s 253 ((157 + (6 * x1)) + 0))) + x3)))), (9, .long 1)]) r_252_121 (n_252_121 _) (by decide) rfl ?_
          refine i_aload_n (a := 252) r_252_123 (n_252_123 _) rfl ?_
          refine i_iload (x := y6) r_252_124 (n_252_124 _) rfl ?_
          refine i_iload (x := zby (zI s 259 ((40 * (zI s 253 ((157 + (6 * x1)) + 0))) + x3))) r_252_126 (n_252_126 _) rfl ?_
          refine i_aload_n (a := 252) r_252_128 (n_252_128 _) rfl ?_
          refine i_iload_n (x := x1) r_252_129 (n_252_129 _) rfl ?_
          refine i_iconst r_252_130 (n_252_130 _) ?_
          obtain ⟨g18, h⟩ := h
          refine wp_virt (b := 252) (rest := [iv (zby (zI s 259 ((40 * (zI s 253 ((157 + (6 * x1)) + 0))) + x3))), iv y6, rf 252]) (Ls := [(0, rf 252), (1, iv x1), (2, iv 3)]) r_252_131 (n_252_131 _) rfl ⟨rfl, rfl, by decide, by decide⟩ rfl rfl lf_252 ⟨rfl, Nat.le_of_ble_eq_true rfl, Nat.le_of_ble_eq_true rfl⟩ rfl (K_Model_of g18) ?_
          rintro _ _ ⟨rfl, rfl⟩
          refine .inl ⟨some (iv (zI s6 253 ((157 + (6 * x1)) + 3))), rfl, ?_⟩
          show wp S 252 134 [(0, rf 252), (1, iv x1), (2, iv x2), (3, iv x3), (4, .long u4), (6, iv (zI s 259 ((40 * (zI s 253 ((157 + (6 * x1)) + 0))) + x3))), (7, iv y6), (8, iv (zby (zI s 259 ((40 * (zI s 253 ((157 + (6 * x1)) + 0))) + x3)))), (9, .long 1)] [iv (zI s6 253 ((157 + (6 * x1)) + 3)), iv (zby (zI s 259 ((40 * (zI s 253 ((157 + (6 * x1)) + 0))) + x3))), iv y6, rf 252] s6 Q
          refine wp_rd (a := 253) (j := ((157 + (6 * x1)) + 3)) (fun q20 => ?_)
          refine i_lload (u := 1) r_252_134 (n_252_134 _) rfl ?_
          refine wp_virt (b := 252) (rest := []) (Ls := [(0, rf 252), (1, iv y6), (2, iv (zby (zI s 259 ((40 * (zI s 253 ((157 + (6 * x1)) + 0))) + x3)))), (3, iv (zI s6 253 ((157 + (6 * x1)) + 3))), (4, .long 1)]) r_252_136 (n_252_136 _) rfl ⟨rfl, rfl, by decide, by decide⟩ rfl rfl lf_252 ⟨rfl, Nat.le_of_ble_eq_true rfl, Nat.le_of_ble_eq_true rfl⟩ rfl h ?_
          intro o21 s21 h
          rcases h with ⟨rfl, h⟩ | ⟨e21, rfl, h⟩
          · refine .inl ⟨none, rfl, ?_⟩
            exact i_return r_252_139 (n_252_139 _) rfl h
          · skip
            exact h.elim
        · replace h := h.2 c17
          refine i_lconst r_252_116 (n_252_116 _) ?_
          refine i_goto (t := 121) r_252_117 (n_252_117 _) rfl ?_
          refine i_lstore (l' := [(0, rf 252), (1, iv x1), (2, iv x2), (3, iv x3), (4, .long u4), (6, iv (zI s 259 ((40 * (zI s 253 ((157 + (6 * x1)) + 0))) + x3))), (7, iv y6), (8, iv (zby (zI s 259 ((40 * (zI s 253 ((157 + (6 * x1)) + 0))) + x3)))), (9, .long 0)]) r_252_121 (n_252_121 _) (by decide) rfl ?_
          refine i_aload_n (a := 252) r_252_123 (n_252_123 _) rfl ?_
          refine i_iload (x := y6) r_252_124 (n_252_124 _) rfl ?_
          refine i_iload (x := zby (zI s 259 ((40 * (zI s 253 ((157 + (6 * x1)) + 0))) + x3))) r_252_126 (n_252_126 _) rfl ?_
          refine i_aload_n (a := 252) r_252_128 (n_252_128 _) rfl ?_
          refine i_iload_n (x := x1) r_252_129 (n_252_129 _) rfl ?_
          refine i_iconst r_252_130 (n_252_130 _) ?_
          obtain ⟨g23, h⟩ := h
          refine wp_virt (b := 252) (rest := [iv (zby (zI s 259 ((40 * (zI s 253 ((157 + (6 * x1)) + 0))) + x3))), iv y6, rf 252]) (Ls := [(0, rf 252), (1, iv x1), (2, iv 3)]) r_252_131 (n_252_131 _) rfl ⟨rfl, rfl, by decide, by decide⟩ rfl rfl lf_252 ⟨rfl, Nat.le_of_ble_eq_true rfl, Nat.le_of_ble_eq_true rfl⟩ rfl (K_Model_of g23) ?_
          rintro _ _ ⟨rfl, rfl⟩
          refine .inl ⟨some (iv (zI s6 253 ((157 + (6 * x1)) + 3))), rfl, ?_⟩
          show wp S 252 134 [(0, rf 252), (1, iv x1), (2, iv x2), (3, iv x3), (4, .long u4), (6, iv (zI s 259 ((40 * (zI s 253 ((157 + (6 * x1)) + 0))) + x3))), (7, iv y6), (8, iv (zby (zI s 259 ((40 * (zI s 253 ((157 + (6 * x1)) + 0))) + x3)))), (9, .long 0)] [iv (zI s6 253 ((157 + (6 * x1)) + 3)), iv (zby (zI s 259 ((40 * (zI s 253 ((157 + (6 * x1)) + 0))) + x3))), iv y6, rf 252] s6 Q
          refine wp_rd (a := 253) (j := ((157 + (6 * x1)) + 3)) (fun q25 => ?_)
          refine i_lload (u := 0) r_252_134 (n_252_134 _) rfl ?_
          refine wp_virt (b := 252) (rest := []) (Ls := [(0, rf 252), (1, iv y6), (2, iv (zby (zI s 259 ((40 * (zI s 253 ((157 + (6 * x1)) + 0))) + x3)))), (3, iv (zI s6 253 ((157 + (6 * x1)) + 3))), (4, .long 0)]) r_252_136 (n_252_136 _) rfl ⟨rfl, rfl, by decide, by decide⟩ rfl rfl lf_252 ⟨rfl, Nat.le_of_ble_eq_true rfl, Nat.le_of_ble_eq_true rfl⟩ rfl h ?_
          intro o26 s26 h
          rcases h with ⟨rfl, h⟩ | ⟨e26, rfl, h⟩
          · refine .inl ⟨none, rfl, ?_⟩
            exact i_return r_252_139 (n_252_139 _) rfl h
          · skip
            exact h.elim
    · replace h := h.2 c10
      refine i_lconst r_252_46 (n_252_46 _) ?_
      refine i_iload (x := zI s 259 ((40 * (zI s 253 ((157 + (6 * x1)) + 0))) + x3)) r_252_47 (n_252_47 _) rfl ?_
      refine i_bipush r_252_49 (n_252_49 _) rfl ?_
      refine i_isub r_252_51 (n_252_51 _) ?_
      refine i_lshl r_252_52 (n_252_52 _) ?_
      refine i_lconst r_252_53 (n_252_53 _) ?_
      refine i_lsub r_252_54 (n_252_54 _) ?_
      refine i_aload_n (a := 252) r_252_55 (n_252_55 _) rfl ?_
      refine i_iload_n (x := x1) r_252_56 (n_252_56 _) rfl ?_
      refine i_iload_n (x := x3) r_252_57 (n_252_57 _) rfl ?_
      obtain ⟨g28, h⟩ := h
      obtain ⟨g29, h⟩ := h
      obtain ⟨g30, h⟩ := h
      refine wp_virt (b := 252) (rest := [.long ((zshlL 1 ((zI s 259 ((40 * (zI s 253 ((157 + (6 * x1)) + 0))) + x3)) - 20)) - 1)]) (Ls := [(0, rf 252), (1, iv x1), (2, iv x3)]) r_252_58 (n_252_58 _) rfl ⟨rfl, rfl, by decide, by decide⟩ rfl rfl lf_252 ⟨rfl, Nat.le_of_ble_eq_true rfl, Nat.le_of_ble_eq_true rfl⟩ rfl (K_Model_lowest g28 g29 g30) ?_
      rintro _ _ ⟨rfl, rfl⟩
      refine .inl ⟨some (iv (zlw (zI s6 253 (157 + 6 * x1 + 2)) (zI s6 261 (40 * zI s6 253 (157 + 6 * x1 + 0) + x3)))), rfl, ?_⟩
      show wp S 252 61 [(0, rf 252), (1, iv x1), (2, iv x2), (3, iv x3), (4, .long u4), (6, iv (zI s 259 ((40 * (zI s 253 ((157 + (6 * x1)) + 0))) + x3))), (7, iv y6), (8, iv (zby (zI s 259 ((40 * (zI s 253 ((157 + (6 * x1)) + 0))) + x3)))), (9, .long u4)] [iv (zlw (zI s6 253 (157 + 6 * x1 + 2)) (zI s6 261 (40 * zI s6 253 (157 + 6 * x1 + 0) + x3))), .long ((zshlL 1 ((zI s 259 ((40 * (zI s 253 ((157 + (6 * x1)) + 0))) + x3)) - 20)) - 1)] s6 Q
      refine i_lshl r_252_61 (n_252_61 _) ?_
      refine i_lstore (l' := [(0, rf 252), (1, iv x1), (2, iv x2), (3, iv x3), (4, .long u4), (6, iv (zI s 259 ((40 * (zI s 253 ((157 + (6 * x1)) + 0))) + x3))), (7, iv y6), (8, iv (zby (zI s 259 ((40 * (zI s 253 ((157 + (6 * x1)) + 0))) + x3)))), (9, .long u4), (11, .long (zshlL ((zshlL 1 ((zI s 259 ((40 * (zI s 253 ((157 + (6 * x1)) + 0))) + x3)) - 20)) - 1) (zlw (zI s6 253 (157 + 6 * x1 + 2)) (zI s6 261 (40 * zI s6 253 (157 + 6 * x1 + 0) + x3)))))]) r_252_62 (n_252_62 _) (by decide) rfl ?_
      refine i_aload_n (a := 252) r_252_64 (n_252_64 _) rfl ?_
      refine i_iload (x := y6) r_252_65 (n_252_65 _) rfl ?_
      refine i_iconst r_252_67 (n_252_67 _) ?_
      refine i_aload_n (a := 252) r_252_68 (n_252_68 _) rfl ?_
      refine i_iload_n (x := x1) r_252_69 (n_252_69 _) rfl ?_
      refine i_iconst r_252_70 (n_252_70 _) ?_
      obtain ⟨g32, h⟩ := h
      refine wp_virt (b := 252) (rest := [iv 2, iv y6, rf 252]) (Ls := [(0, rf 252), (1, iv x1), (2, iv 3)]) r_252_71 (n_252_71 _) rfl ⟨rfl, rfl, by decide, by decide⟩ rfl rfl lf_252 ⟨rfl, Nat.le_of_ble_eq_true rfl, Nat.le_of_ble_eq_true rfl⟩ rfl (K_Model_of g32) ?_
      rintro _ _ ⟨rfl, rfl⟩
      refine .inl ⟨some (iv (zI s6 253 ((157 + (6 * x1)) + 3))), rfl, ?_⟩
      show wp S 252 74 [(0, rf 252), (1, iv x1), (2, iv x2), (3, iv x3), (4, .long u4), (6, iv (zI s 259 ((40 * (zI s 253 ((157 + (6 * x1)) + 0))) + x3))), (7, iv y6), (8, iv (zby (zI s 259 ((40 * (zI s 253 ((157 + (6 * x1)) + 0))) + x3)))), (9, .long u4), (11, .long (zshlL ((zshlL 1 ((zI s 259 ((40 * (zI s 253 ((157 + (6 * x1)) + 0))) + x3)) - 20)) - 1) (zlw (zI s6 253 (157 + 6 * x1 + 2)) (zI s6 261 (40 * zI s6 253 (157 + 6 * x1 + 0) + x3)))))] [iv (zI s6 253 ((157 + (6 * x1)) + 3)), iv 2, iv y6, rf 252] s6 Q
      refine wp_rd (a := 253) (j := ((157 + (6 * x1)) + 3)) (fun q34 => ?_)
      refine wp_virt (b := 252) (rest := []) (Ls := [(0, rf 252), (1, iv y6), (2, iv 2), (3, iv (zI s6 253 ((157 + (6 * x1)) + 3)))]) r_252_74 (n_252_74 _) rfl ⟨rfl, rfl, by decide, by decide⟩ rfl rfl lf_252 ⟨rfl, Nat.le_of_ble_eq_true rfl, Nat.le_of_ble_eq_true rfl⟩ rfl h ?_
      intro o35 s35 h
      rcases h with ⟨y35, rfl, h⟩ | ⟨e35, rfl, h⟩
      · refine .inl ⟨some (.long y35), rfl, ?_⟩
        show wp S 252 77 [(0, rf 252), (1, iv x1), (2, iv x2), (3, iv x3), (4, .long u4), (6, iv (zI s 259 ((40 * (zI s 253 ((157 + (6 * x1)) + 0))) + x3))), (7, iv y6), (8, iv (zby (zI s 259 ((40 * (zI s 253 ((157 + (6 * x1)) + 0))) + x3)))), (9, .long u4), (11, .long (zshlL ((zshlL 1 ((zI s 259 ((40 * (zI s 253 ((157 + (6 * x1)) + 0))) + x3)) - 20)) - 1) (zlw (zI s6 253 (157 + 6 * x1 + 2)) (zI s6 261 (40 * zI s6 253 (157 + 6 * x1 + 0) + x3)))))] [.long y35] s35 Q
        refine i_lload (u := zshlL ((zshlL 1 ((zI s 259 ((40 * (zI s 253 ((157 + (6 * x1)) + 0))) + x3)) - 20)) - 1) (zlw (zI s6 253 (157 + 6 * x1 + 2)) (zI s6 261 (40 * zI s6 253 (157 + 6 * x1 + 0) + x3)))) r_252_77 (n_252_77 _) rfl ?_
        refine i_ldc2 r_252_79 (n_252_79 _) rfl ?_
        refine i_lxor r_252_82 (n_252_82 _) ?_
        refine i_land r_252_83 (n_252_83 _) ?_
        refine i_lload (u := u4) r_252_84 (n_252_84 _) rfl ?_
        refine i_aload_n (a := 252) r_252_86 (n_252_86 _) rfl ?_
        refine i_iload_n (x := x1) r_252_87 (n_252_87 _) rfl ?_
        refine i_iload_n (x := x3) r_252_88 (n_252_88 _) rfl ?_
        obtain ⟨g37, h⟩ := h
        refine wp_virt (b := 252) (rest := [.long u4, .long (y35 &&& ((zshlL ((zshlL 1 ((zI s 259 ((40 * (zI s 253 ((157 + (6 * x1)) + 0))) + x3)) - 20)) - 1) (zlw (zI s6 253 (157 + 6 * x1 + 2)) (zI s6 261 (40 * zI s6 253 (157 + 6 * x1 + 0) + x3)))) ^^^ (-1)))]) (Ls := [(0, rf 252), (1, iv x1), (2, iv x3)]) r_252_89 (n_252_89 _) rfl ⟨rfl, rfl, by decide, by decide⟩ rfl rfl lf_252 ⟨rfl, Nat.le_of_ble_eq_true rfl, Nat.le_of_ble_eq_true rfl⟩ rfl (K_Model_lowest g28 g29 g37) ?_
        rintro _ _ ⟨rfl, rfl⟩
        refine .inl ⟨some (iv (zlw (zI s35 253 (157 + 6 * x1 + 2)) (zI s35 261 (40 * zI s35 253 (157 + 6 * x1 + 0) + x3)))), rfl, ?_⟩
        show wp S 252 92 [(0, rf 252), (1, iv x1), (2, iv x2), (3, iv x3), (4, .long u4), (6, iv (zI s 259 ((40 * (zI s 253 ((157 + (6 * x1)) + 0))) + x3))), (7, iv y6), (8, iv (zby (zI s 259 ((40 * (zI s 253 ((157 + (6 * x1)) + 0))) + x3)))), (9, .long u4), (11, .long (zshlL ((zshlL 1 ((zI s 259 ((40 * (zI s 253 ((157 + (6 * x1)) + 0))) + x3)) - 20)) - 1) (zlw (zI s6 253 (157 + 6 * x1 + 2)) (zI s6 261 (40 * zI s6 253 (157 + 6 * x1 + 0) + x3)))))] [iv (zlw (zI s35 253 (157 + 6 * x1 + 2)) (zI s35 261 (40 * zI s35 253 (157 + 6 * x1 + 0) + x3))), .long u4, .long (y35 &&& ((zshlL ((zshlL 1 ((zI s 259 ((40 * (zI s 253 ((157 + (6 * x1)) + 0))) + x3)) - 20)) - 1) (zlw (zI s6 253 (157 + 6 * x1 + 2)) (zI s6 261 (40 * zI s6 253 (157 + 6 * x1 + 0) + x3)))) ^^^ (-1)))] s35 Q
        refine i_lshl r_252_92 (n_252_92 _) ?_
        refine i_lload (u := zshlL ((zshlL 1 ((zI s 259 ((40 * (zI s 253 ((157 + (6 * x1)) + 0))) + x3)) - 20)) - 1) (zlw (zI s6 253 (157 + 6 * x1 + 2)) (zI s6 261 (40 * zI s6 253 (157 + 6 * x1 + 0) + x3)))) r_252_93 (n_252_93 _) rfl ?_
        refine i_land r_252_95 (n_252_95 _) ?_
        refine i_lor r_252_96 (n_252_96 _) ?_
        refine i_lstore (l' := [(0, rf 252), (1, iv x1), (2, iv x2), (3, iv x3), (4, .long u4), (6, iv (zI s 259 ((40 * (zI s 253 ((157 + (6 * x1)) + 0))) + x3))), (7, iv y6), (8, iv (zby (zI s 259 ((40 * (zI s 253 ((157 + (6 * x1)) + 0))) + x3)))), (9, .long ((y35 &&& ((zshlL ((zshlL 1 ((zI s 259 ((40 * (zI s 253 ((157 + (6 * x1)) + 0))) + x3)) - 20)) - 1) (zlw (zI s6 253 (157 + 6 * x1 + 2)) (zI s6 261 (40 * zI s6 253 (157 + 6 * x1 + 0) + x3)))) ^^^ (-1))) ||| ((zshlL u4 (zlw (zI s35 253 (157 + 6 * x1 + 2)) (zI s35 261 (40 * zI s35 253 (157 + 6 * x1 + 0) + x3)))) &&& (zshlL ((zshlL 1 ((zI s 259 ((40 * (zI s 253 ((157 + (6 * x1)) + 0))) + x3)) - 20)) - 1) (zlw (zI s6 253 (157 + 6 * x1 + 2)) (zI s6 261 (40 * zI s6 253 (157 + 6 * x1 + 0) + x3))))))), (11, .long (zshlL ((zshlL 1 ((zI s 259 ((40 * (zI s 253 ((157 + (6 * x1)) + 0))) + x3)) - 20)) - 1) (zlw (zI s6 253 (157 + 6 * x1 + 2)) (zI s6 261 (40 * zI s6 253 (157 + 6 * x1 + 0) + x3)))))]) r_252_97 (n_252_97 _) (by decide) rfl ?_
        refine i_goto (t := 123) r_252_99 (n_252_99 _) rfl ?_
        refine i_aload_n (a := 252) r_252_123 (n_252_123 _) rfl ?_
        refine i_iload (x := y6) r_252_124 (n_252_124 _) rfl ?_
        refine i_iload (x := zby (zI s 259 ((40 * (zI s 253 ((157 + (6 * x1)) + 0))) + x3))) r_252_126 (n_252_126 _) rfl ?_
        refine i_aload_n (a := 252) r_252_128 (n_252_128 _) rfl ?_
        refine i_iload_n (x := x1) r_252_129 (n_252_129 _) rfl ?_
        refine i_iconst r_252_130 (n_252_130 _) ?_
        refine wp_virt (b := 252) (rest := [iv (zby (zI s 259 ((40 * (zI s 253 ((157 + (6 * x1)) + 0))) + x3))), iv y6, rf 252]) (Ls := [(0, rf 252), (1, iv x1), (2, iv 3)]) r_252_131 (n_252_131 _) rfl ⟨rfl, rfl, by decide, by decide⟩ rfl rfl lf_252 ⟨rfl, Nat.le_of_ble_eq_true rfl, Nat.le_of_ble_eq_true rfl⟩ rfl (K_Model_of g32) ?_
        rintro _ _ ⟨rfl, rfl⟩
        refine .inl ⟨some (iv (zI s35 253 ((157 + (6 * x1)) + 3))), rfl, ?_⟩
        show wp S 252 134 [(0, rf 252), (1, iv x1), (2, iv x2), (3, iv x3), (4, .long u4), (6, iv (zI s 259 ((40 * (zI s 253 ((157 + (6 * x1)) + 0))) + x3))), (7, iv y6), (8, iv (zby (zI s 259 ((40 * (zI s 253 ((157 + (6 * x1)) + 0))) + x3)))), (9, .long ((y35 &&& ((zshlL ((zshlL 1 ((zI s 259 ((40 * (zI s 253 ((157 + (6 * x1)) + 0))) + x3)) - 20)) - 1) (zlw (zI s6 253 (157 + 6 * x1 + 2)) (zI s6 261 (40 * zI s6 253 (157 + 6 * x1 + 0) + x3)))) ^^^ (-1))) ||| ((zshlL u4 (zlw (zI s35 253 (157 + 6 * x1 + 2)) (zI s35 261 (40 * zI s35 253 (157 + 6 * x1 + 0) + x3)))) &&& (zshlL ((zshlL 1 ((zI s 259 ((40 * (zI s 253 ((157 + (6 * x1)) + 0))) + x3)) - 20)) - 1) (zlw (zI s6 253 (157 + 6 * x1 + 2)) (zI s6 261 (40 * zI s6 253 (157 + 6 * x1 + 0) + x3))))))), (11, .long (zshlL ((zshlL 1 ((zI s 259 ((40 * (zI s 253 ((157 + (6 * x1)) + 0))) + x3)) - 20)) - 1) (zlw (zI s6 253 (157 + 6 * x1 + 2)) (zI s6 261 (40 * zI s6 253 (157 + 6 * x1 + 0) + x3)))))] [iv (zI s35 253 ((157 + (6 * x1)) + 3)), iv (zby (zI s 259 ((40 * (zI s 253 ((157 + (6 * x1)) + 0))) + x3))), iv y6, rf 252] s35 Q
        refine wp_rd (a := 253) (j := ((157 + (6 * x1)) + 3)) (fun q40 => ?_)
        refine i_lload (u := (y35 &&& ((zshlL ((zshlL 1 ((zI s 259 ((40 * (zI s 253 ((157 + (6 * x1)) + 0))) + x3)) - 20)) - 1) (zlw (zI s6 253 (157 + 6 * x1 + 2)) (zI s6 261 (40 * zI s6 253 (157 + 6 * x1 + 0) + x3)))) ^^^ (-1))) ||| ((zshlL u4 (zlw (zI s35 253 (157 + 6 * x1 + 2)) (zI s35 261 (40 * zI s35 253 (157 + 6 * x1 + 0) + x3)))) &&& (zshlL ((zshlL 1 ((zI s 259 ((40 * (zI s 253 ((157 + (6 * x1)) + 0))) + x3)) - 20)) - 1) (zlw (zI s6 253 (157 + 6 * x1 + 2)) (zI s6 261 (40 * zI s6 253 (157 + 6 * x1 + 0) + x3)))))) r_252_134 (n_252_134 _) rfl ?_
        refine wp_virt (b := 252) (rest := []) (Ls := [(0, rf 252), (1, iv y6), (2, iv (zby (zI s 259 ((40 * (zI s 253 ((157 + (6 * x1)) + 0))) + x3)))), (3, iv (zI s35 253 ((157 + (6 * x1)) + 3))), (4, .long ((y35 &&& ((zshlL ((zshlL 1 ((zI s 259 ((40 * (zI s 253 ((157 + (6 * x1)) + 0))) + x3)) - 20)) - 1) (zlw (zI s6 253 (157 + 6 * x1 + 2)) (zI s6 261 (40 * zI s6 253 (157 + 6 * x1 + 0) + x3)))) ^^^ (-1))) ||| ((zshlL u4 (zlw (zI s35 253 (157 + 6 * x1 + 2)) (zI s35 261 (40 * zI s35 253 (157 + 6 * x1 + 0) + x3)))) &&& (zshlL ((zshlL 1 ((zI s 259 ((40 * (zI s 253 ((157 + (6 * x1)) + 0))) + x3)) - 20)) - 1) (zlw (zI s6 253 (157 + 6 * x1 + 2)) (zI s6 261 (40 * zI s6 253 (157 + 6 * x1 + 0) + x3)))))))]) r_252_136 (n_252_136 _) rfl ⟨rfl, rfl, by decide, by decide⟩ rfl rfl lf_252 ⟨rfl, Nat.le_of_ble_eq_true rfl, Nat.le_of_ble_eq_true rfl⟩ rfl h ?_
        intro o41 s41 h
        rcases h with ⟨rfl, h⟩ | ⟨e41, rfl, h⟩
        · refine .inl ⟨none, rfl, ?_⟩
          exact i_return r_252_139 (n_252_139 _) rfl h
        · skip
          exact h.elim
      · skip
        exact h.elim
  · skip
    exact h.elim
theorem r_253_0 : xfetch 253 0 = some (.iconst 0, 1) := by decide +kernel
theorem n_253_0 : ∀ l, xpr 253 0 l = l := xpr_no (by decide +kernel)
theorem r_253_1 : xfetch 253 1 = some (.istore 6, 2) := by decide +kernel
theorem n_253_1 : ∀ l, xpr 253 1 l = l := xpr_no (by decide +kernel)
theorem r_253_3 : xfetch 253 3 = some (.iload 6, 2) := by decide +kernel
theorem r_253_5 : xfetch 253 5 = some (.iload_n 2, 1) := by decide +kernel
theorem n_253_5 : ∀ l, xpr 253 5 l = l := xpr_no (by decide +kernel)
theorem r_253_6 : xfetch 253 6 = some (.if_icmp .ge 54, 3) := by decide +kernel
theorem n_253_6 : ∀ l, xpr 253 6 l = l := xpr_no (by decide +kernel)
theorem r_253_9 : xfetch 253 9 = some (.iload_n 3, 1) := by decide +kernel
theorem n_253_9 : ∀ l, xpr 253 9 l = l := xpr_no (by decide +kernel)
theorem r_253_10 : xfetch 253 10 = some (.ifCond .ne 10, 3) := by decide +kernel
theorem n_253_10 : ∀ l, xpr 253 10 l = l := xpr_no (by decide +kernel)
theorem r_253_13 : xfetch 253 13 = some (.iload_n 1, 1) := by decide +kernel
theorem n_253_13 : ∀ l, xpr 253 13 l = l := xpr_no (by decide +kernel)
theorem r_253_14 : xfetch 253 14 = some (.iload 6, 2) := by decide +kernel
theorem n_253_14 : ∀ l, xpr 253 14 l = l := xpr_no (by decide +kernel)
theorem r_253_16 : xfetch 253 16 = some (.iadd, 1) := by decide +kernel
theorem n_253_16 : ∀ l, xpr 253 16 l = l := xpr_no (by decide +kernel)
theorem r_253_17 : xfetch 253 17 = some (.goto 11, 3) := by decide +kernel
theorem n_253_17 : ∀ l, xpr 253 17 l = l := xpr_no (by decide +kernel)
theorem r_253_20 : xfetch 253 20 = some (.iload_n 1, 1) := by decide +kernel
theorem n_253_20 : ∀ l, xpr 253 20 l = l := xpr_no (by decide +kernel)
theorem r_253_21 : xfetch 253 21 = some (.iload_n 2, 1) := by decide +kernel
theorem n_253_21 : ∀ l, xpr 253 21 l = l := xpr_no (by decide +kernel)
theorem r_253_22 : xfetch 253 22 = some (.iadd, 1) := by decide +kernel
theorem n_253_22 : ∀ l, xpr 253 22 l = l := xpr_no (by decide +kernel)
theorem r_253_23 : xfetch 253 23 = some (.iconst 1, 1) := by decide +kernel
theorem n_253_23 : ∀ l, xpr 253 23 l = l := xpr_no (by decide +kernel)
theorem r_253_24 : xfetch 253 24 = some (.isub, 1) := by decide +kernel
theorem n_253_24 : ∀ l, xpr 253 24 l = l := xpr_no (by decide +kernel)
theorem r_253_25 : xfetch 253 25 = some (.iload 6, 2) := by decide +kernel
theorem n_253_25 : ∀ l, xpr 253 25 l = l := xpr_no (by decide +kernel)
theorem r_253_27 : xfetch 253 27 = some (.isub, 1) := by decide +kernel
theorem n_253_27 : ∀ l, xpr 253 27 l = l := xpr_no (by decide +kernel)
theorem r_253_28 : xfetch 253 28 = some (.istore 7, 2) := by decide +kernel
theorem n_253_28 : ∀ l, xpr 253 28 l = l := xpr_no (by decide +kernel)
theorem r_253_30 : xfetch 253 30 = some (.aload_n 0, 1) := by decide +kernel
theorem n_253_30 : ∀ l, xpr 253 30 l = l := xpr_no (by decide +kernel)
theorem r_253_31 : xfetch 253 31 = some (.getfield 7, 3) := by decide +kernel
theorem n_253_31 : ∀ l, xpr 253 31 l = l := xpr_no (by decide +kernel)
theorem r_253_34 : xfetch 253 34 = some (.sipush 175, 3) := by decide +kernel
theorem n_253_34 : ∀ l, xpr 253 34 l = l := xpr_no (by decide +kernel)
theorem r_253_37 : xfetch 253 37 = some (.iload 7, 2) := by decide +kernel
theorem n_253_37 : ∀ l, xpr 253 37 l = l := xpr_no (by decide +kernel)
theorem r_253_39 : xfetch 253 39 = some (.iadd, 1) := by decide +kernel
theorem n_253_39 : ∀ l, xpr 253 39 l = l := xpr_no (by decide +kernel)
theorem r_253_40 : xfetch 253 40 = some (.lload 4, 2) := by decide +kernel
theorem n_253_40 : ∀ l, xpr 253 40 l = l := xpr_no (by decide +kernel)
theorem r_253_42 : xfetch 253 42 = some (.bipush 8, 2) := by decide +kernel
theorem n_253_42 : ∀ l, xpr 253 42 l = l := xpr_no (by decide +kernel)
theorem r_253_44 : xfetch 253 44 = some (.iload 6, 2) := by decide +kernel
theorem n_253_44 : ∀ l, xpr 253 44 l = l := xpr_no (by decide +kernel)
theorem r_253_46 : xfetch 253 46 = some (.imul, 1) := by decide +kernel
theorem n_253_46 : ∀ l, xpr 253 46 l = l := xpr_no (by decide +kernel)
theorem r_253_47 : xfetch 253 47 = some (.lshr, 1) := by decide +kernel
theorem n_253_47 : ∀ l, xpr 253 47 l = l := xpr_no (by decide +kernel)
theorem r_253_48 : xfetch 253 48 = some (.ldc2_w 263, 3) := by decide +kernel
theorem n_253_48 : ∀ l, xpr 253 48 l = l := xpr_no (by decide +kernel)
theorem r_253_51 : xfetch 253 51 = some (.land, 1) := by decide +kernel
theorem n_253_51 : ∀ l, xpr 253 51 l = l := xpr_no (by decide +kernel)
theorem r_253_52 : xfetch 253 52 = some (.l2i, 1) := by decide +kernel
theorem n_253_52 : ∀ l, xpr 253 52 l = l := xpr_no (by decide +kernel)
theorem r_253_53 : xfetch 253 53 = some (.iastore, 1) := by decide +kernel
theorem n_253_53 : ∀ l, xpr 253 53 l = l := xpr_no (by decide +kernel)
theorem r_253_54 : xfetch 253 54 = some (.iinc 6 1, 3) := by decide +kernel
theorem n_253_54 : ∀ l, xpr 253 54 l = l := xpr_no (by decide +kernel)
theorem r_253_57 : xfetch 253 57 = some (.goto (-54), 3) := by decide +kernel
theorem n_253_57 : ∀ l, xpr 253 57 l = l := xpr_no (by decide +kernel)
theorem r_253_60 : xfetch 253 60 = some (.return_, 1) := by decide +kernel
theorem n_253_60 : ∀ l, xpr 253 60 l = l := xpr_no (by decide +kernel)
theorem v_Model_puts_0 {S : Option (Nat × (Nat → Int32))} {s : zSt} {Q : Option Value ⊕ Nat → zSt → Prop} {x1 : Int} {x2 : Int} {x3 : Int} {u4 : Int64} 
    (h : wp S 253 3 [(0, rf 252), (1, iv x1), (2, iv x2), (3, iv x3), (4, .long u4), (6, iv 0)] [] s Q) :
    wp S 253 0 [(0, rf 252), (1, iv x1), (2, iv x2), (3, iv x3), (4, .long u4)] [] s Q := by
  refine i_iconst r_253_0 (n_253_0 _) ?_
  refine i_istore (l' := [(0, rf 252), (1, iv x1), (2, iv x2), (3, iv x3), (4, .long u4), (6, iv 0)]) r_253_1 (n_253_1 _) (by decide) rfl ?_
  exact wp_pr (l' := [(0, rf 252), (1, iv x1), (2, iv x2), (3, iv x3), (4, .long u4), (6, iv 0)]) rfl h
theorem v_Model_puts_3 {S : Option (Nat × (Nat → Int32))} {s : zSt} {Q : Option Value ⊕ Nat → zSt → Prop} {x1 : Int} {x2 : Int} {x3 : Int} {u4 : Int64} {x6 : Int} 
    (h : rng x6 ∧ (rng x2 ∧ ((x2 ≤ x6 → Q rU s) ∧ (x6 < x2 → rng x3 ∧ ((x3 ≠ 0 → (0 ≤ (175 + (((x1 + x2) - 1) - x6)) ∧ (175 + (((x1 + x2) - 1) - x6)) < 1199) ∧ (wp S 253 3 [(0, rf 252), (1, iv x1), (2, iv x2), (3, iv x3), (4, .long u4), (6, iv (x6 + 1))] [] (zwI s 253 (175 + (((x1 + x2) - 1) - x6)) (zl2i ((zshrL u4 (8 * x6)) &&& 255))) Q)) ∧ (x3 = 0 → (0 ≤ (175 + (x1 + x6)) ∧ (175 + (x1 + x6)) < 1199) ∧ (wp S 253 3 [(0, rf 252), (1, iv x1), (2, iv x2), (3, iv x3), (4, .long u4), (6, iv (x6 + 1))] [] (zwI s 253 (175 + (x1 + x6)) (zl2i ((zshrL u4 (8 * x6)) &&& 255))) Q))))))) :
    wp S 253 3 [(0, rf 252), (1, iv x1), (2, iv x2), (3, iv x3), (4, .long u4), (6, iv x6)] [] s Q := by
  refine i_iload (x := x6) r_253_3 rfl rfl ?_
  refine i_iload_n (x := x2) r_253_5 (n_253_5 _) rfl ?_
  obtain ⟨g1, h⟩ := h
  obtain ⟨g2, h⟩ := h
  refine i_icmp (t := 60) r_253_6 (n_253_6 _) rfl (T_ge g1 g2) (fun c3 => ?_) (fun c3 => ?_)
  · replace h := h.1 c3
    exact i_return r_253_60 (n_253_60 _) rfl h
  · replace h := h.2 c3
    refine i_iload_n (x := x3) r_253_9 (n_253_9 _) rfl ?_
    obtain ⟨g4, h⟩ := h
    refine i_if (t := 20) r_253_10 (n_253_10 _) rfl (T_ne g4 ⟨by omega, by omega⟩) (fun c5 => ?_) (fun c5 => ?_)
    · replace h := h.1 c5
      refine i_iload_n (x := x1) r_253_20 (n_253_20 _) rfl ?_
      refine i_iload_n (x := x2) r_253_21 (n_253_21 _) rfl ?_
      refine i_iadd r_253_22 (n_253_22 _) ?_
      refine i_iconst r_253_23 (n_253_23 _) ?_
      refine i_isub r_253_24 (n_253_24 _) ?_
      refine i_iload (x := x6) r_253_25 (n_253_25 _) rfl ?_
      refine i_isub r_253_27 (n_253_27 _) ?_
      refine i_istore (l' := [(0, rf 252), (1, iv x1), (2, iv x2), (3, iv x3), (4, .long u4), (6, iv x6), (7, iv (((x1 + x2) - 1) - x6))]) r_253_28 (n_253_28 _) (by decide) rfl ?_
      refine i_aload_n (a := 252) r_253_30 (n_253_30 _) rfl ?_
      refine i_getR (a := 252) (b := 253) r_253_31 (n_253_31 _) rfl rfl rfl (by omega) lf_252 (by omega) ?_
      refine i_sipush r_253_34 (n_253_34 _) rfl ?_
      refine i_iload (x := ((x1 + x2) - 1) - x6) r_253_37 (n_253_37 _) rfl ?_
      refine i_iadd r_253_39 (n_253_39 _) ?_
      refine i_lload (u := u4) r_253_40 (n_253_40 _) rfl ?_
      refine i_bipush r_253_42 (n_253_42 _) rfl ?_
      refine i_iload (x := x6) r_253_44 (n_253_44 _) rfl ?_
      refine i_imul r_253_46 (n_253_46 _) ?_
      refine i_lshr r_253_47 (n_253_47 _) ?_
      refine i_ldc2 r_253_48 (n_253_48 _) rfl ?_
      refine i_land r_253_51 (n_253_51 _) ?_
      refine i_l2i r_253_52 (n_253_52 _) ?_
      obtain ⟨g6, h⟩ := h
      refine i_iastore (a := 253) (j := 175 + (((x1 + x2) - 1) - x6)) (x := zl2i ((zshrL u4 (8 * x6)) &&& 255)) r_253_53 (n_253_53 _) lf_253 ⟨by omega, by omega⟩ (by omega) (by omega) (rng_to _) ?_
      refine i_iinc (x := x6) (l' := [(0, rf 252), (1, iv x1), (2, iv x2), (3, iv x3), (4, .long u4), (6, iv (x6 + 1)), (7, iv (((x1 + x2) - 1) - x6))]) r_253_54 (n_253_54 _) (by decide) rfl rfl ?_
      refine i_goto (t := 3) r_253_57 (n_253_57 _) rfl ?_
      exact wp_pr (l' := [(0, rf 252), (1, iv x1), (2, iv x2), (3, iv x3), (4, .long u4), (6, iv (x6 + 1))]) rfl h
    · replace h := h.2 c5
      refine i_iload_n (x := x1) r_253_13 (n_253_13 _) rfl ?_
      refine i_iload (x := x6) r_253_14 (n_253_14 _) rfl ?_
      refine i_iadd r_253_16 (n_253_16 _) ?_
      refine i_goto (t := 28) r_253_17 (n_253_17 _) rfl ?_
      refine i_istore (l' := [(0, rf 252), (1, iv x1), (2, iv x2), (3, iv x3), (4, .long u4), (6, iv x6), (7, iv (x1 + x6))]) r_253_28 (n_253_28 _) (by decide) rfl ?_
      refine i_aload_n (a := 252) r_253_30 (n_253_30 _) rfl ?_
      refine i_getR (a := 252) (b := 253) r_253_31 (n_253_31 _) rfl rfl rfl (by omega) lf_252 (by omega) ?_
      refine i_sipush r_253_34 (n_253_34 _) rfl ?_
      refine i_iload (x := x1 + x6) r_253_37 (n_253_37 _) rfl ?_
      refine i_iadd r_253_39 (n_253_39 _) ?_
      refine i_lload (u := u4) r_253_40 (n_253_40 _) rfl ?_
      refine i_bipush r_253_42 (n_253_42 _) rfl ?_
      refine i_iload (x := x6) r_253_44 (n_253_44 _) rfl ?_
      refine i_imul r_253_46 (n_253_46 _) ?_
      refine i_lshr r_253_47 (n_253_47 _) ?_
      refine i_ldc2 r_253_48 (n_253_48 _) rfl ?_
      refine i_land r_253_51 (n_253_51 _) ?_
      refine i_l2i r_253_52 (n_253_52 _) ?_
      obtain ⟨g7, h⟩ := h
      refine i_iastore (a := 253) (j := 175 + (x1 + x6)) (x := zl2i ((zshrL u4 (8 * x6)) &&& 255)) r_253_53 (n_253_53 _) lf_253 ⟨by omega, by omega⟩ (by omega) (by omega) (rng_to _) ?_
      refine i_iinc (x := x6) (l' := [(0, rf 252), (1, iv x1), (2, iv x2), (3, iv x3), (4, .long u4), (6, iv (x6 + 1)), (7, iv (x1 + x6))]) r_253_54 (n_253_54 _) (by decide) rfl rfl ?_
      refine i_goto (t := 3) r_253_57 (n_253_57 _) rfl ?_
      exact wp_pr (l' := [(0, rf 252), (1, iv x1), (2, iv x2), (3, iv x3), (4, .long u4), (6, iv (x6 + 1))]) rfl h
theorem r_254_0 : xfetch 254 0 = some (.aload_n 0, 1) := by decide +kernel
theorem n_254_0 : ∀ l, xpr 254 0 l = l := xpr_no (by decide +kernel)
theorem r_254_1 : xfetch 254 1 = some (.aload_n 0, 1) := by decide +kernel
theorem n_254_1 : ∀ l, xpr 254 1 l = l := xpr_no (by decide +kernel)
theorem r_254_2 : xfetch 254 2 = some (.iload_n 1, 1) := by decide +kernel
theorem n_254_2 : ∀ l, xpr 254 2 l = l := xpr_no (by decide +kernel)
theorem r_254_3 : xfetch 254 3 = some (.iconst 0, 1) := by decide +kernel
theorem n_254_3 : ∀ l, xpr 254 3 l = l := xpr_no (by decide +kernel)
theorem r_254_4 : xfetch 254 4 = some (.sipush 1023, 3) := by decide +kernel
theorem n_254_4 : ∀ l, xpr 254 4 l = l := xpr_no (by decide +kernel)
theorem r_254_7 : xfetch 254 7 = some (.invokestatic 88, 3) := by decide +kernel
theorem n_254_7 : ∀ l, xpr 254 7 l = l := xpr_no (by decide +kernel)
theorem r_254_10 : xfetch 254 10 = some (.invokevirtual 175, 3) := by decide +kernel
theorem n_254_10 : ∀ l, xpr 254 10 l = l := xpr_no (by decide +kernel)
theorem r_254_13 : xfetch 254 13 = some (.invokevirtual 84, 3) := by decide +kernel
theorem n_254_13 : ∀ l, xpr 254 13 l = l := xpr_no (by decide +kernel)
theorem r_254_16 : xfetch 254 16 = some (.ifCond .eq 7, 3) := by decide +kernel
theorem n_254_16 : ∀ l, xpr 254 16 l = l := xpr_no (by decide +kernel)
theorem r_254_19 : xfetch 254 19 = some (.iconst 0, 1) := by decide +kernel
theorem n_254_19 : ∀ l, xpr 254 19 l = l := xpr_no (by decide +kernel)
theorem r_254_20 : xfetch 254 20 = some (.goto 13, 3) := by decide +kernel
theorem n_254_20 : ∀ l, xpr 254 20 l = l := xpr_no (by decide +kernel)
theorem r_254_23 : xfetch 254 23 = some (.aload_n 0, 1) := by decide +kernel
theorem n_254_23 : ∀ l, xpr 254 23 l = l := xpr_no (by decide +kernel)
theorem r_254_24 : xfetch 254 24 = some (.getfield 7, 3) := by decide +kernel
theorem n_254_24 : ∀ l, xpr 254 24 l = l := xpr_no (by decide +kernel)
theorem r_254_27 : xfetch 254 27 = some (.sipush 175, 3) := by decide +kernel
theorem n_254_27 : ∀ l, xpr 254 27 l = l := xpr_no (by decide +kernel)
theorem r_254_30 : xfetch 254 30 = some (.iload_n 1, 1) := by decide +kernel
theorem n_254_30 : ∀ l, xpr 254 30 l = l := xpr_no (by decide +kernel)
theorem r_254_31 : xfetch 254 31 = some (.iadd, 1) := by decide +kernel
theorem n_254_31 : ∀ l, xpr 254 31 l = l := xpr_no (by decide +kernel)
theorem r_254_32 : xfetch 254 32 = some (.iaload, 1) := by decide +kernel
theorem n_254_32 : ∀ l, xpr 254 32 l = l := xpr_no (by decide +kernel)
theorem r_254_33 : xfetch 254 33 = some (.ireturn, 1) := by decide +kernel
theorem n_254_33 : ∀ l, xpr 254 33 l = l := xpr_no (by decide +kernel)
theorem v_Model_memory_0 {S : Option (Nat × (Nat → Int32))} {s : zSt} {Q : Option Value ⊕ Nat → zSt → Prop} {x1 : Int} 
    (h : rng x1 ∧ (((0 ≤ x1 ∧ x1 ≤ 1023) → (0 ≤ (175 + x1) ∧ (175 + x1) < 1199) ∧ (Q (rI (zI s 253 (175 + x1))) (zwI s 252 3 (bi (¬ (0 ≤ x1 ∧ x1 ≤ 1023)))))) ∧ (¬ (0 ≤ x1 ∧ x1 ≤ 1023) → Q (rI 0) (zwI s 252 3 (bi (¬ (0 ≤ x1 ∧ x1 ≤ 1023))))))) :
    wp S 254 0 [(0, rf 252), (1, iv x1)] [] s Q := by
  refine i_aload_n (a := 252) r_254_0 (n_254_0 _) rfl ?_
  refine i_aload_n (a := 252) r_254_1 (n_254_1 _) rfl ?_
  refine i_iload_n (x := x1) r_254_2 (n_254_2 _) rfl ?_
  refine i_iconst r_254_3 (n_254_3 _) ?_
  refine i_sipush r_254_4 (n_254_4 _) rfl ?_
  obtain ⟨g1, h⟩ := h
  refine wp_stat (rest := [rf 252, rf 252]) (Ls := [(0, iv x1), (1, iv 0), (2, iv 1023)]) r_254_7 (n_254_7 _) rfl ⟨rfl, by decide, by decide, by decide⟩ rfl rfl ⟨rfl, Nat.le_of_ble_eq_true rfl, Nat.le_of_ble_eq_true rfl⟩ rfl (K_Model_within g1 ⟨by omega, by omega⟩ ⟨by omega, by omega⟩) ?_
  rintro _ _ ⟨rfl, rfl⟩
  refine .inl ⟨some (iv (bi (0 ≤ x1 ∧ x1 ≤ 1023))), rfl, ?_⟩
  show wp S 254 10 [(0, rf 252), (1, iv x1)] [iv (bi (0 ≤ x1 ∧ x1 ≤ 1023)), rf 252, rf 252] s Q
  refine wp_virt (b := 252) (rest := [rf 252]) (Ls := [(0, rf 252), (1, iv (bi (0 ≤ x1 ∧ x1 ≤ 1023)))]) r_254_10 (n_254_10 _) rfl ⟨rfl, rfl, by decide, by decide⟩ rfl rfl lf_252 ⟨rfl, Nat.le_of_ble_eq_true rfl, Nat.le_of_ble_eq_true rfl⟩ rfl K_Model_needB ?_
  rintro _ _ ⟨rfl, rfl⟩
  refine .inl ⟨some (iv (bi (¬ (0 ≤ x1 ∧ x1 ≤ 1023)))), rfl, ?_⟩
  show wp S 254 13 [(0, rf 252), (1, iv x1)] [iv (bi (¬ (0 ≤ x1 ∧ x1 ≤ 1023))), rf 252] s Q
  refine wp_virt (b := 252) (rest := []) (Ls := [(0, rf 252), (1, iv (bi (¬ (0 ≤ x1 ∧ x1 ≤ 1023))))]) r_254_13 (n_254_13 _) rfl ⟨rfl, rfl, by decide, by decide⟩ rfl rfl lf_252 ⟨rfl, Nat.le_of_ble_eq_true rfl, Nat.le_of_ble_eq_true rfl⟩ rfl K_Model_refusedB ?_
  rintro _ _ ⟨rfl, rfl⟩
  refine .inl ⟨some (iv (bi (¬ (0 ≤ x1 ∧ x1 ≤ 1023)))), rfl, ?_⟩
  show wp S 254 16 [(0, rf 252), (1, iv x1)] [iv (bi (¬ (0 ≤ x1 ∧ x1 ≤ 1023)))] (zwI s 252 3 (bi (¬ (0 ≤ x1 ∧ x1 ≤ 1023)))) Q
  refine i_if (t := 23) r_254_16 (n_254_16 _) rfl (TB_eqN) (fun c5 => ?_) (fun c5 => ?_)
  · replace h := h.1 c5
    refine i_aload_n (a := 252) r_254_23 (n_254_23 _) rfl ?_
    refine i_getR (a := 252) (b := 253) r_254_24 (n_254_24 _) rfl rfl rfl (by omega) lf_252 (by omega) ?_
    refine i_sipush r_254_27 (n_254_27 _) rfl ?_
    refine i_iload_n (x := x1) r_254_30 (n_254_30 _) rfl ?_
    refine i_iadd r_254_31 (n_254_31 _) ?_
    obtain ⟨g6, h⟩ := h
    have e8 : zI (zwI s 252 3 (bi (¬ (0 ≤ x1 ∧ x1 ≤ 1023)))) 253 (175 + x1) = zI s 253 (175 + x1) := zI_ne (by omega)
    refine i_ialoade (a := 253) (j := 175 + x1) (x := zI s 253 (175 + x1)) r_254_32 (n_254_32 _) lf_253 ⟨by omega, by omega⟩ (by omega) (by omega) e8 (fun q7 => ?_)
    exact i_ireturn r_254_33 (n_254_33 _) rfl h
  · replace h := h.2 c5
    refine i_iconst r_254_19 (n_254_19 _) ?_
    refine i_goto (t := 33) r_254_20 (n_254_20 _) rfl ?_
    exact i_ireturn r_254_33 (n_254_33 _) rfl h
theorem r_255_0 : xfetch 255 0 = some (.aload_n 0, 1) := by decide +kernel
theorem n_255_0 : ∀ l, xpr 255 0 l = l := xpr_no (by decide +kernel)
theorem r_255_1 : xfetch 255 1 = some (.iload_n 1, 1) := by decide +kernel
theorem n_255_1 : ∀ l, xpr 255 1 l = l := xpr_no (by decide +kernel)
theorem r_255_2 : xfetch 255 2 = some (.iconst 0, 1) := by decide +kernel
theorem n_255_2 : ∀ l, xpr 255 2 l = l := xpr_no (by decide +kernel)
theorem r_255_3 : xfetch 255 3 = some (.sipush 1023, 3) := by decide +kernel
theorem n_255_3 : ∀ l, xpr 255 3 l = l := xpr_no (by decide +kernel)
theorem r_255_6 : xfetch 255 6 = some (.invokestatic 88, 3) := by decide +kernel
theorem n_255_6 : ∀ l, xpr 255 6 l = l := xpr_no (by decide +kernel)
theorem r_255_9 : xfetch 255 9 = some (.ifCond .ne 7, 3) := by decide +kernel
theorem n_255_9 : ∀ l, xpr 255 9 l = l := xpr_no (by decide +kernel)
theorem r_255_12 : xfetch 255 12 = some (.iconst 1, 1) := by decide +kernel
theorem n_255_12 : ∀ l, xpr 255 12 l = l := xpr_no (by decide +kernel)
theorem r_255_13 : xfetch 255 13 = some (.goto 19, 3) := by decide +kernel
theorem n_255_13 : ∀ l, xpr 255 13 l = l := xpr_no (by decide +kernel)
theorem r_255_16 : xfetch 255 16 = some (.iload_n 2, 1) := by decide +kernel
theorem n_255_16 : ∀ l, xpr 255 16 l = l := xpr_no (by decide +kernel)
theorem r_255_17 : xfetch 255 17 = some (.iconst 0, 1) := by decide +kernel
theorem n_255_17 : ∀ l, xpr 255 17 l = l := xpr_no (by decide +kernel)
theorem r_255_18 : xfetch 255 18 = some (.sipush 255, 3) := by decide +kernel
theorem n_255_18 : ∀ l, xpr 255 18 l = l := xpr_no (by decide +kernel)
theorem r_255_21 : xfetch 255 21 = some (.invokestatic 88, 3) := by decide +kernel
theorem n_255_21 : ∀ l, xpr 255 21 l = l := xpr_no (by decide +kernel)
theorem r_255_24 : xfetch 255 24 = some (.ifCond .ne 7, 3) := by decide +kernel
theorem n_255_24 : ∀ l, xpr 255 24 l = l := xpr_no (by decide +kernel)
theorem r_255_27 : xfetch 255 27 = some (.iconst 2, 1) := by decide +kernel
theorem n_255_27 : ∀ l, xpr 255 27 l = l := xpr_no (by decide +kernel)
theorem r_255_28 : xfetch 255 28 = some (.goto 4, 3) := by decide +kernel
theorem n_255_28 : ∀ l, xpr 255 28 l = l := xpr_no (by decide +kernel)
theorem r_255_31 : xfetch 255 31 = some (.iconst 0, 1) := by decide +kernel
theorem n_255_31 : ∀ l, xpr 255 31 l = l := xpr_no (by decide +kernel)
theorem r_255_32 : xfetch 255 32 = some (.invokevirtual 84, 3) := by decide +kernel
theorem n_255_32 : ∀ l, xpr 255 32 l = l := xpr_no (by decide +kernel)
theorem r_255_35 : xfetch 255 35 = some (.ifCond .eq 5, 3) := by decide +kernel
theorem n_255_35 : ∀ l, xpr 255 35 l = l := xpr_no (by decide +kernel)
theorem r_255_38 : xfetch 255 38 = some (.iconst 0, 1) := by decide +kernel
theorem n_255_38 : ∀ l, xpr 255 38 l = l := xpr_no (by decide +kernel)
theorem r_255_39 : xfetch 255 39 = some (.ireturn, 1) := by decide +kernel
theorem n_255_39 : ∀ l, xpr 255 39 l = l := xpr_no (by decide +kernel)
theorem r_255_40 : xfetch 255 40 = some (.aload_n 0, 1) := by decide +kernel
theorem n_255_40 : ∀ l, xpr 255 40 l = l := xpr_no (by decide +kernel)
theorem r_255_41 : xfetch 255 41 = some (.invokevirtual 135, 3) := by decide +kernel
theorem n_255_41 : ∀ l, xpr 255 41 l = l := xpr_no (by decide +kernel)
theorem r_255_44 : xfetch 255 44 = some (.aload_n 0, 1) := by decide +kernel
theorem n_255_44 : ∀ l, xpr 255 44 l = l := xpr_no (by decide +kernel)
theorem r_255_45 : xfetch 255 45 = some (.getfield 7, 3) := by decide +kernel
theorem n_255_45 : ∀ l, xpr 255 45 l = l := xpr_no (by decide +kernel)
theorem r_255_48 : xfetch 255 48 = some (.sipush 175, 3) := by decide +kernel
theorem n_255_48 : ∀ l, xpr 255 48 l = l := xpr_no (by decide +kernel)
theorem r_255_51 : xfetch 255 51 = some (.iload_n 1, 1) := by decide +kernel
theorem n_255_51 : ∀ l, xpr 255 51 l = l := xpr_no (by decide +kernel)
theorem r_255_52 : xfetch 255 52 = some (.iadd, 1) := by decide +kernel
theorem n_255_52 : ∀ l, xpr 255 52 l = l := xpr_no (by decide +kernel)
theorem r_255_53 : xfetch 255 53 = some (.iaload, 1) := by decide +kernel
theorem n_255_53 : ∀ l, xpr 255 53 l = l := xpr_no (by decide +kernel)
theorem r_255_54 : xfetch 255 54 = some (.istore_n 3, 1) := by decide +kernel
theorem n_255_54 : ∀ l, xpr 255 54 l = l := xpr_no (by decide +kernel)
theorem r_255_55 : xfetch 255 55 = some (.aload_n 0, 1) := by decide +kernel
theorem n_255_55 : ∀ l, xpr 255 55 l = l := xpr_no (by decide +kernel)
theorem r_255_56 : xfetch 255 56 = some (.getfield 7, 3) := by decide +kernel
theorem n_255_56 : ∀ l, xpr 255 56 l = l := xpr_no (by decide +kernel)
theorem r_255_59 : xfetch 255 59 = some (.sipush 175, 3) := by decide +kernel
theorem n_255_59 : ∀ l, xpr 255 59 l = l := xpr_no (by decide +kernel)
theorem r_255_62 : xfetch 255 62 = some (.iload_n 1, 1) := by decide +kernel
theorem n_255_62 : ∀ l, xpr 255 62 l = l := xpr_no (by decide +kernel)
theorem r_255_63 : xfetch 255 63 = some (.iadd, 1) := by decide +kernel
theorem n_255_63 : ∀ l, xpr 255 63 l = l := xpr_no (by decide +kernel)
theorem r_255_64 : xfetch 255 64 = some (.iload_n 2, 1) := by decide +kernel
theorem n_255_64 : ∀ l, xpr 255 64 l = l := xpr_no (by decide +kernel)
theorem r_255_65 : xfetch 255 65 = some (.iastore, 1) := by decide +kernel
theorem n_255_65 : ∀ l, xpr 255 65 l = l := xpr_no (by decide +kernel)
theorem r_255_66 : xfetch 255 66 = some (.iload_n 3, 1) := by decide +kernel
theorem n_255_66 : ∀ l, xpr 255 66 l = l := xpr_no (by decide +kernel)
theorem r_255_67 : xfetch 255 67 = some (.ireturn, 1) := by decide +kernel
theorem n_255_67 : ∀ l, xpr 255 67 l = l := xpr_no (by decide +kernel)
theorem v_Model_poke_0 {S : Option (Nat × (Nat → Int32))} {s : zSt} {Q : Option Value ⊕ Nat → zSt → Prop} {x1 : Int} {x2 : Int} 
    (h : rng x1 ∧ ((0 ≤ x1 ∧ x1 ≤ 1023 → rng x2 ∧ ((0 ≤ x2 ∧ x2 ≤ 255 → wp S 182 0 [(0, rf 252)] [] (zwI s 252 3 0) (fun o8 s8 => zkU ((0 ≤ (175 + x1) ∧ (175 + x1) < 1199) ∧ (Q (rI (zI s8 253 (175 + x1))) (zwI s8 253 (175 + x1) x2))) (fun e8 => False) o8)) ∧ (¬ (0 ≤ x2 ∧ x2 ≤ 255) → Q (rI 0) (zwI s 252 3 2)))) ∧ (¬ (0 ≤ x1 ∧ x1 ≤ 1023) → Q (rI 0) (zwI s 252 3 1)))) :
    wp S 255 0 [(0, rf 252), (1, iv x1), (2, iv x2)] [] s Q := by
  refine i_aload_n (a := 252) r_255_0 (n_255_0 _) rfl ?_
  refine i_iload_n (x := x1) r_255_1 (n_255_1 _) rfl ?_
  refine i_iconst r_255_2 (n_255_2 _) ?_
  refine i_sipush r_255_3 (n_255_3 _) rfl ?_
  obtain ⟨g1, h⟩ := h
  refine wp_stat (rest := [rf 252]) (Ls := [(0, iv x1), (1, iv 0), (2, iv 1023)]) r_255_6 (n_255_6 _) rfl ⟨rfl, by decide, by decide, by decide⟩ rfl rfl ⟨rfl, Nat.le_of_ble_eq_true rfl, Nat.le_of_ble_eq_true rfl⟩ rfl (K_Model_within g1 ⟨by omega, by omega⟩ ⟨by omega, by omega⟩) ?_
  rintro _ _ ⟨rfl, rfl⟩
  refine .inl ⟨some (iv (bi (0 ≤ x1 ∧ x1 ≤ 1023))), rfl, ?_⟩
  show wp S 255 9 [(0, rf 252), (1, iv x1), (2, iv x2)] [iv (bi (0 ≤ x1 ∧ x1 ≤ 1023)), rf 252] s Q
  refine i_if (t := 16) r_255_9 (n_255_9 _) rfl (TB_ne) (fun c3 => ?_) (fun c3 => ?_)
  · replace h := h.1 c3
    refine i_iload_n (x := x2) r_255_16 (n_255_16 _) rfl ?_
    refine i_iconst r_255_17 (n_255_17 _) ?_
    refine i_sipush r_255_18 (n_255_18 _) rfl ?_
    obtain ⟨g4, h⟩ := h
    refine wp_stat (rest := [rf 252]) (Ls := [(0, iv x2), (1, iv 0), (2, iv 255)]) r_255_21 (n_255_21 _) rfl ⟨rfl, by decide, by decide, by decide⟩ rfl rfl ⟨rfl, Nat.le_of_ble_eq_true rfl, Nat.le_of_ble_eq_true rfl⟩ rfl (K_Model_within g4 ⟨by omega, by omega⟩ ⟨by omega, by omega⟩) ?_
    rintro _ _ ⟨rfl, rfl⟩
    refine .inl ⟨some (iv (bi (0 ≤ x2 ∧ x2 ≤ 255))), rfl, ?_⟩
    show wp S 255 24 [(0, rf 252), (1, iv x1), (2, iv x2)] [iv (bi (0 ≤ x2 ∧ x2 ≤ 255)), rf 252] s Q
    refine i_if (t := 31) r_255_24 (n_255_24 _) rfl (TB_ne) (fun c6 => ?_) (fun c6 => ?_)
    · replace h := h.1 c6
      refine i_iconst r_255_31 (n_255_31 _) ?_
      refine wp_virt (b := 252) (rest := []) (Ls := [(0, rf 252), (1, iv 0)]) r_255_32 (n_255_32 _) rfl ⟨rfl, rfl, by decide, by decide⟩ rfl rfl lf_252 ⟨rfl, Nat.le_of_ble_eq_true rfl, Nat.le_of_ble_eq_true rfl⟩ rfl K_Model_refused0 ?_
      rintro _ _ ⟨rfl, rfl⟩
      refine .inl ⟨some (iv 0), rfl, ?_⟩
      show wp S 255 35 [(0, rf 252), (1, iv x1), (2, iv x2)] [iv 0] (zwI s 252 3 0) Q
      refine i_if (t := 40) r_255_35 (n_255_35 _) rfl (T_eq ⟨by omega, by omega⟩ ⟨by omega, by omega⟩) (fun _ => ?_) (fun z => absurd z (by omega))
      refine i_aload_n (a := 252) r_255_40 (n_255_40 _) rfl ?_
      refine wp_virt (b := 252) (rest := []) (Ls := [(0, rf 252)]) r_255_41 (n_255_41 _) rfl ⟨rfl, rfl, by decide, by decide⟩ rfl rfl lf_252 ⟨rfl, Nat.le_of_ble_eq_true rfl, Nat.le_of_ble_eq_true rfl⟩ rfl h ?_
      intro o8 s8 h
      rcases h with ⟨rfl, h⟩ | ⟨e8, rfl, h⟩
      · refine .inl ⟨none, rfl, ?_⟩
        refine i_aload_n (a := 252) r_255_44 (n_255_44 _) rfl ?_
        refine i_getR (a := 252) (b := 253) r_255_45 (n_255_45 _) rfl rfl rfl (by omega) lf_252 (by omega) ?_
        refine i_sipush r_255_48 (n_255_48 _) rfl ?_
        refine i_iload_n (x := x1) r_255_51 (n_255_51 _) rfl ?_
        refine i_iadd r_255_52 (n_255_52 _) ?_
        obtain ⟨g10, h⟩ := h
        refine i_iaload (a := 253) (j := 175 + x1) r_255_53 (n_255_53 _) lf_253 ⟨by omega, by omega⟩ (by omega) (by omega) (fun q11 => ?_)
        refine i_istore_n (l' := [(0, rf 252), (1, iv x1), (2, iv x2), (3, iv (zI s8 253 (175 + x1)))]) r_255_54 (n_255_54 _) (by decide) rfl ?_
        refine i_aload_n (a := 252) r_255_55 (n_255_55 _) rfl ?_
        refine i_getR (a := 252) (b := 253) r_255_56 (n_255_56 _) rfl rfl rfl (by omega) lf_252 (by omega) ?_
        refine i_sipush r_255_59 (n_255_59 _) rfl ?_
        refine i_iload_n (x := x1) r_255_62 (n_255_62 _) rfl ?_
        refine i_iadd r_255_63 (n_255_63 _) ?_
        refine i_iload_n (x := x2) r_255_64 (n_255_64 _) rfl ?_
        refine i_iastore (a := 253) (j := 175 + x1) (x := x2) r_255_65 (n_255_65 _) lf_253 ⟨by omega, by omega⟩ (by omega) (by omega) g4 ?_
        refine i_iload_n (x := zI s8 253 (175 + x1)) r_255_66 (n_255_66 _) rfl ?_
        exact i_ireturn r_255_67 (n_255_67 _) rfl h
      · skip
        exact h.elim
    · replace h := h.2 c6
      refine i_iconst r_255_27 (n_255_27 _) ?_
      refine i_goto (t := 32) r_255_28 (n_255_28 _) rfl ?_
      refine wp_virt (b := 252) (rest := []) (Ls := [(0, rf 252), (1, iv 2)]) r_255_32 (n_255_32 _) rfl ⟨rfl, rfl, by decide, by decide⟩ rfl rfl lf_252 ⟨rfl, Nat.le_of_ble_eq_true rfl, Nat.le_of_ble_eq_true rfl⟩ rfl (K_Model_refused1 ⟨by omega, by omega⟩ (by omega)) ?_
      rintro _ _ ⟨rfl, rfl⟩
      refine .inl ⟨some (iv 1), rfl, ?_⟩
      show wp S 255 35 [(0, rf 252), (1, iv x1), (2, iv x2)] [iv 1] (zwI s 252 3 2) Q
      refine i_if (t := 40) r_255_35 (n_255_35 _) rfl (T_eq ⟨by omega, by omega⟩ ⟨by omega, by omega⟩) (fun z => absurd z (by omega)) (fun _ => ?_)
      refine i_iconst r_255_38 (n_255_38 _) ?_
      exact i_ireturn r_255_39 (n_255_39 _) rfl h
  · replace h := h.2 c3
    refine i_iconst r_255_12 (n_255_12 _) ?_
    refine i_goto (t := 32) r_255_13 (n_255_13 _) rfl ?_
    refine wp_virt (b := 252) (rest := []) (Ls := [(0, rf 252), (1, iv 1)]) r_255_32 (n_255_32 _) rfl ⟨rfl, rfl, by decide, by decide⟩ rfl rfl lf_252 ⟨rfl, Nat.le_of_ble_eq_true rfl, Nat.le_of_ble_eq_true rfl⟩ rfl (K_Model_refused1 ⟨by omega, by omega⟩ (by omega)) ?_
    rintro _ _ ⟨rfl, rfl⟩
    refine .inl ⟨some (iv 1), rfl, ?_⟩
    show wp S 255 35 [(0, rf 252), (1, iv x1), (2, iv x2)] [iv 1] (zwI s 252 3 1) Q
    refine i_if (t := 40) r_255_35 (n_255_35 _) rfl (T_eq ⟨by omega, by omega⟩ ⟨by omega, by omega⟩) (fun z => absurd z (by omega)) (fun _ => ?_)
    refine i_iconst r_255_38 (n_255_38 _) ?_
    exact i_ireturn r_255_39 (n_255_39 _) rfl h
theorem r_256_0 : xfetch 256 0 = some (.aload_n 0, 1) := by decide +kernel
theorem n_256_0 : ∀ l, xpr 256 0 l = l := xpr_no (by decide +kernel)
theorem r_256_1 : xfetch 256 1 = some (.iconst 0, 1) := by decide +kernel
theorem n_256_1 : ∀ l, xpr 256 1 l = l := xpr_no (by decide +kernel)
theorem r_256_2 : xfetch 256 2 = some (.putfield 77, 3) := by decide +kernel
theorem n_256_2 : ∀ l, xpr 256 2 l = l := xpr_no (by decide +kernel)
theorem r_256_5 : xfetch 256 5 = some (.iconst 0, 1) := by decide +kernel
theorem n_256_5 : ∀ l, xpr 256 5 l = l := xpr_no (by decide +kernel)
theorem r_256_6 : xfetch 256 6 = some (.istore_n 2, 1) := by decide +kernel
theorem n_256_6 : ∀ l, xpr 256 6 l = l := xpr_no (by decide +kernel)
theorem r_256_7 : xfetch 256 7 = some (.iload_n 1, 1) := by decide +kernel
theorem n_256_7 : ∀ l, xpr 256 7 l = l := xpr_no (by decide +kernel)
theorem r_256_8 : xfetch 256 8 = some (.ifCond .eq 41, 3) := by decide +kernel
theorem n_256_8 : ∀ l, xpr 256 8 l = l := xpr_no (by decide +kernel)
theorem r_256_11 : xfetch 256 11 = some (.iconst 0, 1) := by decide +kernel
theorem n_256_11 : ∀ l, xpr 256 11 l = l := xpr_no (by decide +kernel)
theorem r_256_12 : xfetch 256 12 = some (.istore_n 3, 1) := by decide +kernel
theorem n_256_12 : ∀ l, xpr 256 12 l = l := xpr_no (by decide +kernel)
theorem r_256_13 : xfetch 256 13 = some (.iload_n 3, 1) := by decide +kernel
theorem r_256_14 : xfetch 256 14 = some (.sipush 1024, 3) := by decide +kernel
theorem n_256_14 : ∀ l, xpr 256 14 l = l := xpr_no (by decide +kernel)
theorem r_256_17 : xfetch 256 17 = some (.if_icmp .ge 29, 3) := by decide +kernel
theorem n_256_17 : ∀ l, xpr 256 17 l = l := xpr_no (by decide +kernel)
theorem r_256_20 : xfetch 256 20 = some (.aload_n 0, 1) := by decide +kernel
theorem n_256_20 : ∀ l, xpr 256 20 l = l := xpr_no (by decide +kernel)
theorem r_256_21 : xfetch 256 21 = some (.iload_n 3, 1) := by decide +kernel
theorem n_256_21 : ∀ l, xpr 256 21 l = l := xpr_no (by decide +kernel)
theorem r_256_22 : xfetch 256 22 = some (.invokevirtual 234, 3) := by decide +kernel
theorem n_256_22 : ∀ l, xpr 256 22 l = l := xpr_no (by decide +kernel)
theorem r_256_25 : xfetch 256 25 = some (.istore 4, 2) := by decide +kernel
theorem n_256_25 : ∀ l, xpr 256 25 l = l := xpr_no (by decide +kernel)
theorem r_256_27 : xfetch 256 27 = some (.iload 4, 2) := by decide +kernel
theorem n_256_27 : ∀ l, xpr 256 27 l = l := xpr_no (by decide +kernel)
theorem r_256_29 : xfetch 256 29 = some (.iload_n 2, 1) := by decide +kernel
theorem n_256_29 : ∀ l, xpr 256 29 l = l := xpr_no (by decide +kernel)
theorem r_256_30 : xfetch 256 30 = some (.if_icmp .le 8, 3) := by decide +kernel
theorem n_256_30 : ∀ l, xpr 256 30 l = l := xpr_no (by decide +kernel)
theorem r_256_33 : xfetch 256 33 = some (.iload 4, 2) := by decide +kernel
theorem n_256_33 : ∀ l, xpr 256 33 l = l := xpr_no (by decide +kernel)
theorem r_256_35 : xfetch 256 35 = some (.goto 4, 3) := by decide +kernel
theorem n_256_35 : ∀ l, xpr 256 35 l = l := xpr_no (by decide +kernel)
theorem r_256_38 : xfetch 256 38 = some (.iload_n 2, 1) := by decide +kernel
theorem n_256_38 : ∀ l, xpr 256 38 l = l := xpr_no (by decide +kernel)
theorem r_256_39 : xfetch 256 39 = some (.istore_n 2, 1) := by decide +kernel
theorem n_256_39 : ∀ l, xpr 256 39 l = l := xpr_no (by decide +kernel)
theorem r_256_40 : xfetch 256 40 = some (.iinc 3 16, 3) := by decide +kernel
theorem n_256_40 : ∀ l, xpr 256 40 l = l := xpr_no (by decide +kernel)
theorem r_256_43 : xfetch 256 43 = some (.goto (-30), 3) := by decide +kernel
theorem n_256_43 : ∀ l, xpr 256 43 l = l := xpr_no (by decide +kernel)
theorem r_256_46 : xfetch 256 46 = some (.goto 34, 3) := by decide +kernel
theorem n_256_46 : ∀ l, xpr 256 46 l = l := xpr_no (by decide +kernel)
theorem r_256_49 : xfetch 256 49 = some (.iconst 0, 1) := by decide +kernel
theorem n_256_49 : ∀ l, xpr 256 49 l = l := xpr_no (by decide +kernel)
theorem r_256_50 : xfetch 256 50 = some (.istore_n 3, 1) := by decide +kernel
theorem n_256_50 : ∀ l, xpr 256 50 l = l := xpr_no (by decide +kernel)
theorem r_256_51 : xfetch 256 51 = some (.iload_n 3, 1) := by decide +kernel
theorem r_256_52 : xfetch 256 52 = some (.sipush 1024, 3) := by decide +kernel
theorem n_256_52 : ∀ l, xpr 256 52 l = l := xpr_no (by decide +kernel)
theorem r_256_55 : xfetch 256 55 = some (.if_icmp .ge 25, 3) := by decide +kernel
theorem n_256_55 : ∀ l, xpr 256 55 l = l := xpr_no (by decide +kernel)
theorem r_256_58 : xfetch 256 58 = some (.iload_n 2, 1) := by decide +kernel
theorem n_256_58 : ∀ l, xpr 256 58 l = l := xpr_no (by decide +kernel)
theorem r_256_59 : xfetch 256 59 = some (.aload_n 0, 1) := by decide +kernel
theorem n_256_59 : ∀ l, xpr 256 59 l = l := xpr_no (by decide +kernel)
theorem r_256_60 : xfetch 256 60 = some (.iload_n 3, 1) := by decide +kernel
theorem n_256_60 : ∀ l, xpr 256 60 l = l := xpr_no (by decide +kernel)
theorem r_256_61 : xfetch 256 61 = some (.invokevirtual 231, 3) := by decide +kernel
theorem n_256_61 : ∀ l, xpr 256 61 l = l := xpr_no (by decide +kernel)
theorem r_256_64 : xfetch 256 64 = some (.ifCond .eq 7, 3) := by decide +kernel
theorem n_256_64 : ∀ l, xpr 256 64 l = l := xpr_no (by decide +kernel)
theorem r_256_67 : xfetch 256 67 = some (.iconst 0, 1) := by decide +kernel
theorem n_256_67 : ∀ l, xpr 256 67 l = l := xpr_no (by decide +kernel)
theorem r_256_68 : xfetch 256 68 = some (.goto 4, 3) := by decide +kernel
theorem n_256_68 : ∀ l, xpr 256 68 l = l := xpr_no (by decide +kernel)
theorem r_256_71 : xfetch 256 71 = some (.iconst 1, 1) := by decide +kernel
theorem n_256_71 : ∀ l, xpr 256 71 l = l := xpr_no (by decide +kernel)
theorem r_256_72 : xfetch 256 72 = some (.iadd, 1) := by decide +kernel
theorem n_256_72 : ∀ l, xpr 256 72 l = l := xpr_no (by decide +kernel)
theorem r_256_73 : xfetch 256 73 = some (.istore_n 2, 1) := by decide +kernel
theorem n_256_73 : ∀ l, xpr 256 73 l = l := xpr_no (by decide +kernel)
theorem r_256_74 : xfetch 256 74 = some (.iinc 3 1, 3) := by decide +kernel
theorem n_256_74 : ∀ l, xpr 256 74 l = l := xpr_no (by decide +kernel)
theorem r_256_77 : xfetch 256 77 = some (.goto (-26), 3) := by decide +kernel
theorem n_256_77 : ∀ l, xpr 256 77 l = l := xpr_no (by decide +kernel)
theorem r_256_80 : xfetch 256 80 = some (.iload_n 2, 1) := by decide +kernel
theorem n_256_80 : ∀ l, xpr 256 80 l = l := xpr_no (by decide +kernel)
theorem r_256_81 : xfetch 256 81 = some (.ireturn, 1) := by decide +kernel
theorem n_256_81 : ∀ l, xpr 256 81 l = l := xpr_no (by decide +kernel)
theorem v_Model_freeBytes_0 {S : Option (Nat × (Nat → Int32))} {s : zSt} {Q : Option Value ⊕ Nat → zSt → Prop} {x1 : Int} 
    (h : rng x1 ∧ ((x1 = 0 → wp S 256 51 [(0, rf 252), (2, iv 0), (3, iv 0)] [] (zwI s 252 3 0) Q) ∧ (x1 ≠ 0 → wp S 256 13 [(0, rf 252), (2, iv 0), (3, iv 0)] [] (zwI s 252 3 0) Q))) :
    wp S 256 0 [(0, rf 252), (1, iv x1)] [] s Q := by
  refine i_aload_n (a := 252) r_256_0 (n_256_0 _) rfl ?_
  refine i_iconst r_256_1 (n_256_1 _) ?_
  refine i_putI (a := 252) (x := 0) r_256_2 (n_256_2 _) rfl (.inl rfl) rfl lf_252 ⟨by omega, by omega⟩ ?_
  refine i_iconst r_256_5 (n_256_5 _) ?_
  refine i_istore_n (l' := [(0, rf 252), (1, iv x1), (2, iv 0)]) r_256_6 (n_256_6 _) (by decide) rfl ?_
  refine i_iload_n (x := x1) r_256_7 (n_256_7 _) rfl ?_
  obtain ⟨g1, h⟩ := h
  refine i_if (t := 49) r_256_8 (n_256_8 _) rfl (T_eq g1 ⟨by omega, by omega⟩) (fun c2 => ?_) (fun c2 => ?_)
  · replace h := h.1 c2
    refine i_iconst r_256_49 (n_256_49 _) ?_
    refine i_istore_n (l' := [(0, rf 252), (1, iv x1), (2, iv 0), (3, iv 0)]) r_256_50 (n_256_50 _) (by decide) rfl ?_
    exact wp_pr (l' := [(0, rf 252), (2, iv 0), (3, iv 0)]) rfl h
  · replace h := h.2 c2
    refine i_iconst r_256_11 (n_256_11 _) ?_
    refine i_istore_n (l' := [(0, rf 252), (1, iv x1), (2, iv 0), (3, iv 0)]) r_256_12 (n_256_12 _) (by decide) rfl ?_
    exact wp_pr (l' := [(0, rf 252), (2, iv 0), (3, iv 0)]) rfl h
theorem v_Model_freeBytes_13 {S : Option (Nat × (Nat → Int32))} {s : zSt} {Q : Option Value ⊕ Nat → zSt → Prop} {x2 : Int} {x3 : Int} 
    (h : rng x3 ∧ ((1024 ≤ x3 → Q (rI x2) s) ∧ (x3 < 1024 → wp S 234 0 [(0, rf 252), (1, iv x3)] [] s (fun o3 s3 => zkI (fun y3 => rng x2 ∧ ((y3 ≤ x2 → wp S 256 13 [(0, rf 252), (2, iv x2), (3, iv (x3 + 16))] [] s3 Q) ∧ (x2 < y3 → wp S 256 13 [(0, rf 252), (2, iv y3), (3, iv (x3 + 16))] [] s3 Q))) (fun e3 => False) o3)))) :
    wp S 256 13 [(0, rf 252), (2, iv x2), (3, iv x3)] [] s Q := by
  refine i_iload_n (x := x3) r_256_13 rfl rfl ?_
  refine i_sipush r_256_14 (n_256_14 _) rfl ?_
  obtain ⟨g1, h⟩ := h
  refine i_icmp (t := 46) r_256_17 (n_256_17 _) rfl (T_ge g1 ⟨by omega, by omega⟩) (fun c2 => ?_) (fun c2 => ?_)
  · replace h := h.1 c2
    refine i_goto (t := 80) r_256_46 (n_256_46 _) rfl ?_
    refine i_iload_n (x := x2) r_256_80 (n_256_80 _) rfl ?_
    exact i_ireturn r_256_81 (n_256_81 _) rfl h
  · replace h := h.2 c2
    refine i_aload_n (a := 252) r_256_20 (n_256_20 _) rfl ?_
    refine i_iload_n (x := x3) r_256_21 (n_256_21 _) rfl ?_
    refine wp_virt (b := 252) (rest := []) (Ls := [(0, rf 252), (1, iv x3)]) r_256_22 (n_256_22 _) rfl ⟨rfl, rfl, by decide, by decide⟩ rfl rfl lf_252 ⟨rfl, Nat.le_of_ble_eq_true rfl, Nat.le_of_ble_eq_true rfl⟩ rfl h ?_
    intro o3 s3 h
    rcases h with ⟨y3, q4, rfl, h⟩ | ⟨e3, rfl, h⟩
    · refine .inl ⟨some (iv y3), rfl, ?_⟩
      show wp S 256 25 [(0, rf 252), (2, iv x2), (3, iv x3)] [iv y3] s3 Q
      refine i_istore (l' := [(0, rf 252), (2, iv x2), (3, iv x3), (4, iv y3)]) r_256_25 (n_256_25 _) (by decide) rfl ?_
      refine i_iload (x := y3) r_256_27 (n_256_27 _) rfl ?_
      refine i_iload_n (x := x2) r_256_29 (n_256_29 _) rfl ?_
      obtain ⟨g5, h⟩ := h
      refine i_icmp (t := 38) r_256_30 (n_256_30 _) rfl (T_le q4 g5) (fun c6 => ?_) (fun c6 => ?_)
      · replace h := h.1 c6
        refine i_iload_n (x := x2) r_256_38 (n_256_38 _) rfl ?_
        refine i_istore_n (l' := [(0, rf 252), (2, iv x2), (3, iv x3), (4, iv y3)]) r_256_39 (n_256_39 _) (by decide) rfl ?_
        refine i_iinc (x := x3) (l' := [(0, rf 252), (2, iv x2), (3, iv (x3 + 16)), (4, iv y3)]) r_256_40 (n_256_40 _) (by decide) rfl rfl ?_
        refine i_goto (t := 13) r_256_43 (n_256_43 _) rfl ?_
        exact wp_pr (l' := [(0, rf 252), (2, iv x2), (3, iv (x3 + 16))]) rfl h
      · replace h := h.2 c6
        refine i_iload (x := y3) r_256_33 (n_256_33 _) rfl ?_
        refine i_goto (t := 39) r_256_35 (n_256_35 _) rfl ?_
        refine i_istore_n (l' := [(0, rf 252), (2, iv y3), (3, iv x3), (4, iv y3)]) r_256_39 (n_256_39 _) (by decide) rfl ?_
        refine i_iinc (x := x3) (l' := [(0, rf 252), (2, iv y3), (3, iv (x3 + 16)), (4, iv y3)]) r_256_40 (n_256_40 _) (by decide) rfl rfl ?_
        refine i_goto (t := 13) r_256_43 (n_256_43 _) rfl ?_
        exact wp_pr (l' := [(0, rf 252), (2, iv y3), (3, iv (x3 + 16))]) rfl h
    · skip
      exact h.elim
theorem v_Model_freeBytes_51 {S : Option (Nat × (Nat → Int32))} {s : zSt} {Q : Option Value ⊕ Nat → zSt → Prop} {x2 : Int} {x3 : Int} 
    (h : rng x3 ∧ ((1024 ≤ x3 → Q (rI x2) s) ∧ (x3 < 1024 → wp S 235 0 [(0, rf 252), (1, iv x3)] [] s (fun o3 s3 => zkI (fun y3 => (y3 = 0 → wp S 256 51 [(0, rf 252), (2, iv (x2 + 1)), (3, iv (x3 + 1))] [] s3 Q) ∧ (y3 ≠ 0 → wp S 256 51 [(0, rf 252), (2, iv (x2 + 0)), (3, iv (x3 + 1))] [] s3 Q)) (fun e3 => False) o3)))) :
    wp S 256 51 [(0, rf 252), (2, iv x2), (3, iv x3)] [] s Q := by
  refine i_iload_n (x := x3) r_256_51 rfl rfl ?_
  refine i_sipush r_256_52 (n_256_52 _) rfl ?_
  obtain ⟨g1, h⟩ := h
  refine i_icmp (t := 80) r_256_55 (n_256_55 _) rfl (T_ge g1 ⟨by omega, by omega⟩) (fun c2 => ?_) (fun c2 => ?_)
  · replace h := h.1 c2
    refine i_iload_n (x := x2) r_256_80 (n_256_80 _) rfl ?_
    exact i_ireturn r_256_81 (n_256_81 _) rfl h
  · replace h := h.2 c2
    refine i_iload_n (x := x2) r_256_58 (n_256_58 _) rfl ?_
    refine i_aload_n (a := 252) r_256_59 (n_256_59 _) rfl ?_
    refine i_iload_n (x := x3) r_256_60 (n_256_60 _) rfl ?_
    refine wp_virt (b := 252) (rest := [iv x2]) (Ls := [(0, rf 252), (1, iv x3)]) r_256_61 (n_256_61 _) rfl ⟨rfl, rfl, by decide, by decide⟩ rfl rfl lf_252 ⟨rfl, Nat.le_of_ble_eq_true rfl, Nat.le_of_ble_eq_true rfl⟩ rfl h ?_
    intro o3 s3 h
    rcases h with ⟨y3, q4, rfl, h⟩ | ⟨e3, rfl, h⟩
    · refine .inl ⟨some (iv y3), rfl, ?_⟩
      show wp S 256 64 [(0, rf 252), (2, iv x2), (3, iv x3)] [iv y3, iv x2] s3 Q
      refine i_if (t := 71) r_256_64 (n_256_64 _) rfl (T_eq q4 ⟨by omega, by omega⟩) (fun c5 => ?_) (fun c5 => ?_)
      · replace h := h.1 c5
        refine i_iconst r_256_71 (n_256_71 _) ?_
        refine i_iadd r_256_72 (n_256_72 _) ?_
        refine i_istore_n (l' := [(0, rf 252), (2, iv (x2 + 1)), (3, iv x3)]) r_256_73 (n_256_73 _) (by decide) rfl ?_
        refine i_iinc (x := x3) (l' := [(0, rf 252), (2, iv (x2 + 1)), (3, iv (x3 + 1))]) r_256_74 (n_256_74 _) (by decide) rfl rfl ?_
        refine i_goto (t := 51) r_256_77 (n_256_77 _) rfl ?_
        exact wp_pr (l' := [(0, rf 252), (2, iv (x2 + 1)), (3, iv (x3 + 1))]) rfl h
      · replace h := h.2 c5
        refine i_iconst r_256_67 (n_256_67 _) ?_
        refine i_goto (t := 72) r_256_68 (n_256_68 _) rfl ?_
        refine i_iadd r_256_72 (n_256_72 _) ?_
        refine i_istore_n (l' := [(0, rf 252), (2, iv (x2 + 0)), (3, iv x3)]) r_256_73 (n_256_73 _) (by decide) rfl ?_
        refine i_iinc (x := x3) (l' := [(0, rf 252), (2, iv (x2 + 0)), (3, iv (x3 + 1))]) r_256_74 (n_256_74 _) (by decide) rfl rfl ?_
        refine i_goto (t := 51) r_256_77 (n_256_77 _) rfl ?_
        exact wp_pr (l' := [(0, rf 252), (2, iv (x2 + 0)), (3, iv (x3 + 1))]) rfl h
    · skip
      exact h.elim
theorem r_257_0 : xfetch 257 0 = some (.aload_n 0, 1) := by decide +kernel
theorem n_257_0 : ∀ l, xpr 257 0 l = l := xpr_no (by decide +kernel)
theorem r_257_1 : xfetch 257 1 = some (.iload_n 1, 1) := by decide +kernel
theorem n_257_1 : ∀ l, xpr 257 1 l = l := xpr_no (by decide +kernel)
theorem r_257_2 : xfetch 257 2 = some (.invokevirtual 225, 3) := by decide +kernel
theorem n_257_2 : ∀ l, xpr 257 2 l = l := xpr_no (by decide +kernel)
theorem r_257_5 : xfetch 257 5 = some (.istore 4, 2) := by decide +kernel
theorem n_257_5 : ∀ l, xpr 257 5 l = l := xpr_no (by decide +kernel)
theorem r_257_7 : xfetch 257 7 = some (.iload_n 2, 1) := by decide +kernel
theorem n_257_7 : ∀ l, xpr 257 7 l = l := xpr_no (by decide +kernel)
theorem r_257_8 : xfetch 257 8 = some (.iconst 0, 1) := by decide +kernel
theorem n_257_8 : ∀ l, xpr 257 8 l = l := xpr_no (by decide +kernel)
theorem r_257_9 : xfetch 257 9 = some (.bipush 8, 2) := by decide +kernel
theorem n_257_9 : ∀ l, xpr 257 9 l = l := xpr_no (by decide +kernel)
theorem r_257_11 : xfetch 257 11 = some (.invokestatic 88, 3) := by decide +kernel
theorem n_257_11 : ∀ l, xpr 257 11 l = l := xpr_no (by decide +kernel)
theorem r_257_14 : xfetch 257 14 = some (.ifCond .eq 16, 3) := by decide +kernel
theorem n_257_14 : ∀ l, xpr 257 14 l = l := xpr_no (by decide +kernel)
theorem r_257_17 : xfetch 257 17 = some (.iload_n 3, 1) := by decide +kernel
theorem n_257_17 : ∀ l, xpr 257 17 l = l := xpr_no (by decide +kernel)
theorem r_257_18 : xfetch 257 18 = some (.iconst 0, 1) := by decide +kernel
theorem n_257_18 : ∀ l, xpr 257 18 l = l := xpr_no (by decide +kernel)
theorem r_257_19 : xfetch 257 19 = some (.iconst 1, 1) := by decide +kernel
theorem n_257_19 : ∀ l, xpr 257 19 l = l := xpr_no (by decide +kernel)
theorem r_257_20 : xfetch 257 20 = some (.invokestatic 88, 3) := by decide +kernel
theorem n_257_20 : ∀ l, xpr 257 20 l = l := xpr_no (by decide +kernel)
theorem r_257_23 : xfetch 257 23 = some (.ifCond .eq 7, 3) := by decide +kernel
theorem n_257_23 : ∀ l, xpr 257 23 l = l := xpr_no (by decide +kernel)
theorem r_257_26 : xfetch 257 26 = some (.iconst 1, 1) := by decide +kernel
theorem n_257_26 : ∀ l, xpr 257 26 l = l := xpr_no (by decide +kernel)
theorem r_257_27 : xfetch 257 27 = some (.goto 4, 3) := by decide +kernel
theorem n_257_27 : ∀ l, xpr 257 27 l = l := xpr_no (by decide +kernel)
theorem r_257_30 : xfetch 257 30 = some (.iconst 0, 1) := by decide +kernel
theorem n_257_30 : ∀ l, xpr 257 30 l = l := xpr_no (by decide +kernel)
theorem r_257_31 : xfetch 257 31 = some (.istore 5, 2) := by decide +kernel
theorem n_257_31 : ∀ l, xpr 257 31 l = l := xpr_no (by decide +kernel)
theorem r_257_33 : xfetch 257 33 = some (.iconst (-1), 1) := by decide +kernel
theorem n_257_33 : ∀ l, xpr 257 33 l = l := xpr_no (by decide +kernel)
theorem r_257_34 : xfetch 257 34 = some (.istore 6, 2) := by decide +kernel
theorem n_257_34 : ∀ l, xpr 257 34 l = l := xpr_no (by decide +kernel)
theorem r_257_36 : xfetch 257 36 = some (.iload 4, 2) := by decide +kernel
theorem n_257_36 : ∀ l, xpr 257 36 l = l := xpr_no (by decide +kernel)
theorem r_257_38 : xfetch 257 38 = some (.ifCond .eq 35, 3) := by decide +kernel
theorem n_257_38 : ∀ l, xpr 257 38 l = l := xpr_no (by decide +kernel)
theorem r_257_41 : xfetch 257 41 = some (.iload 5, 2) := by decide +kernel
theorem n_257_41 : ∀ l, xpr 257 41 l = l := xpr_no (by decide +kernel)
theorem r_257_43 : xfetch 257 43 = some (.ifCond .eq 30, 3) := by decide +kernel
theorem n_257_43 : ∀ l, xpr 257 43 l = l := xpr_no (by decide +kernel)
theorem r_257_46 : xfetch 257 46 = some (.aload_n 0, 1) := by decide +kernel
theorem n_257_46 : ∀ l, xpr 257 46 l = l := xpr_no (by decide +kernel)
theorem r_257_47 : xfetch 257 47 = some (.invokevirtual 152, 3) := by decide +kernel
theorem n_257_47 : ∀ l, xpr 257 47 l = l := xpr_no (by decide +kernel)
theorem r_257_50 : xfetch 257 50 = some (.aload_n 0, 1) := by decide +kernel
theorem n_257_50 : ∀ l, xpr 257 50 l = l := xpr_no (by decide +kernel)
theorem r_257_51 : xfetch 257 51 = some (.aload_n 0, 1) := by decide +kernel
theorem n_257_51 : ∀ l, xpr 257 51 l = l := xpr_no (by decide +kernel)
theorem r_257_52 : xfetch 257 52 = some (.aload_n 0, 1) := by decide +kernel
theorem n_257_52 : ∀ l, xpr 257 52 l = l := xpr_no (by decide +kernel)
theorem r_257_53 : xfetch 257 53 = some (.iload_n 1, 1) := by decide +kernel
theorem n_257_53 : ∀ l, xpr 257 53 l = l := xpr_no (by decide +kernel)
theorem r_257_54 : xfetch 257 54 = some (.iconst 0, 1) := by decide +kernel
theorem n_257_54 : ∀ l, xpr 257 54 l = l := xpr_no (by decide +kernel)
theorem r_257_55 : xfetch 257 55 = some (.invokevirtual 228, 3) := by decide +kernel
theorem n_257_55 : ∀ l, xpr 257 55 l = l := xpr_no (by decide +kernel)
theorem r_257_58 : xfetch 257 58 = some (.aload_n 0, 1) := by decide +kernel
theorem n_257_58 : ∀ l, xpr 257 58 l = l := xpr_no (by decide +kernel)
theorem r_257_59 : xfetch 257 59 = some (.iload_n 1, 1) := by decide +kernel
theorem n_257_59 : ∀ l, xpr 257 59 l = l := xpr_no (by decide +kernel)
theorem r_257_60 : xfetch 257 60 = some (.iconst 1, 1) := by decide +kernel
theorem n_257_60 : ∀ l, xpr 257 60 l = l := xpr_no (by decide +kernel)
theorem r_257_61 : xfetch 257 61 = some (.invokevirtual 228, 3) := by decide +kernel
theorem n_257_61 : ∀ l, xpr 257 61 l = l := xpr_no (by decide +kernel)
theorem r_257_64 : xfetch 257 64 = some (.iload_n 2, 1) := by decide +kernel
theorem n_257_64 : ∀ l, xpr 257 64 l = l := xpr_no (by decide +kernel)
theorem r_257_65 : xfetch 257 65 = some (.invokevirtual 237, 3) := by decide +kernel
theorem n_257_65 : ∀ l, xpr 257 65 l = l := xpr_no (by decide +kernel)
theorem r_257_68 : xfetch 257 68 = some (.invokevirtual 240, 3) := by decide +kernel
theorem n_257_68 : ∀ l, xpr 257 68 l = l := xpr_no (by decide +kernel)
theorem r_257_71 : xfetch 257 71 = some (.istore 6, 2) := by decide +kernel
theorem n_257_71 : ∀ l, xpr 257 71 l = l := xpr_no (by decide +kernel)
theorem r_257_73 : xfetch 257 73 = some (.aload_n 0, 1) := by decide +kernel
theorem r_257_74 : xfetch 257 74 = some (.iload 4, 2) := by decide +kernel
theorem n_257_74 : ∀ l, xpr 257 74 l = l := xpr_no (by decide +kernel)
theorem r_257_76 : xfetch 257 76 = some (.ifCond .ne 7, 3) := by decide +kernel
theorem n_257_76 : ∀ l, xpr 257 76 l = l := xpr_no (by decide +kernel)
theorem r_257_79 : xfetch 257 79 = some (.iconst 1, 1) := by decide +kernel
theorem n_257_79 : ∀ l, xpr 257 79 l = l := xpr_no (by decide +kernel)
theorem r_257_80 : xfetch 257 80 = some (.goto 23, 3) := by decide +kernel
theorem n_257_80 : ∀ l, xpr 257 80 l = l := xpr_no (by decide +kernel)
theorem r_257_83 : xfetch 257 83 = some (.iload 5, 2) := by decide +kernel
theorem n_257_83 : ∀ l, xpr 257 83 l = l := xpr_no (by decide +kernel)
theorem r_257_85 : xfetch 257 85 = some (.ifCond .ne 7, 3) := by decide +kernel
theorem n_257_85 : ∀ l, xpr 257 85 l = l := xpr_no (by decide +kernel)
theorem r_257_88 : xfetch 257 88 = some (.iconst 2, 1) := by decide +kernel
theorem n_257_88 : ∀ l, xpr 257 88 l = l := xpr_no (by decide +kernel)
theorem r_257_89 : xfetch 257 89 = some (.goto 14, 3) := by decide +kernel
theorem n_257_89 : ∀ l, xpr 257 89 l = l := xpr_no (by decide +kernel)
theorem r_257_92 : xfetch 257 92 = some (.iload 6, 2) := by decide +kernel
theorem n_257_92 : ∀ l, xpr 257 92 l = l := xpr_no (by decide +kernel)
theorem r_257_94 : xfetch 257 94 = some (.iconst (-1), 1) := by decide +kernel
theorem n_257_94 : ∀ l, xpr 257 94 l = l := xpr_no (by decide +kernel)
theorem r_257_95 : xfetch 257 95 = some (.if_icmp .ne 7, 3) := by decide +kernel
theorem n_257_95 : ∀ l, xpr 257 95 l = l := xpr_no (by decide +kernel)
theorem r_257_98 : xfetch 257 98 = some (.iconst 3, 1) := by decide +kernel
theorem n_257_98 : ∀ l, xpr 257 98 l = l := xpr_no (by decide +kernel)
theorem r_257_99 : xfetch 257 99 = some (.goto 4, 3) := by decide +kernel
theorem n_257_99 : ∀ l, xpr 257 99 l = l := xpr_no (by decide +kernel)
theorem r_257_102 : xfetch 257 102 = some (.iconst 0, 1) := by decide +kernel
theorem n_257_102 : ∀ l, xpr 257 102 l = l := xpr_no (by decide +kernel)
theorem r_257_103 : xfetch 257 103 = some (.invokevirtual 84, 3) := by decide +kernel
theorem n_257_103 : ∀ l, xpr 257 103 l = l := xpr_no (by decide +kernel)
theorem r_257_106 : xfetch 257 106 = some (.ifCond .eq 5, 3) := by decide +kernel
theorem n_257_106 : ∀ l, xpr 257 106 l = l := xpr_no (by decide +kernel)
theorem r_257_109 : xfetch 257 109 = some (.iconst 0, 1) := by decide +kernel
theorem n_257_109 : ∀ l, xpr 257 109 l = l := xpr_no (by decide +kernel)
theorem r_257_110 : xfetch 257 110 = some (.ireturn, 1) := by decide +kernel
theorem n_257_110 : ∀ l, xpr 257 110 l = l := xpr_no (by decide +kernel)
theorem r_257_111 : xfetch 257 111 = some (.aload_n 0, 1) := by decide +kernel
theorem n_257_111 : ∀ l, xpr 257 111 l = l := xpr_no (by decide +kernel)
theorem r_257_112 : xfetch 257 112 = some (.invokevirtual 135, 3) := by decide +kernel
theorem n_257_112 : ∀ l, xpr 257 112 l = l := xpr_no (by decide +kernel)
theorem r_257_115 : xfetch 257 115 = some (.aload_n 0, 1) := by decide +kernel
theorem n_257_115 : ∀ l, xpr 257 115 l = l := xpr_no (by decide +kernel)
theorem r_257_116 : xfetch 257 116 = some (.iload_n 1, 1) := by decide +kernel
theorem n_257_116 : ∀ l, xpr 257 116 l = l := xpr_no (by decide +kernel)
theorem r_257_117 : xfetch 257 117 = some (.invokevirtual 284, 3) := by decide +kernel
theorem n_257_117 : ∀ l, xpr 257 117 l = l := xpr_no (by decide +kernel)
theorem r_257_120 : xfetch 257 120 = some (.aload_n 0, 1) := by decide +kernel
theorem n_257_120 : ∀ l, xpr 257 120 l = l := xpr_no (by decide +kernel)
theorem r_257_121 : xfetch 257 121 = some (.iload_n 1, 1) := by decide +kernel
theorem n_257_121 : ∀ l, xpr 257 121 l = l := xpr_no (by decide +kernel)
theorem r_257_122 : xfetch 257 122 = some (.aload_n 0, 1) := by decide +kernel
theorem n_257_122 : ∀ l, xpr 257 122 l = l := xpr_no (by decide +kernel)
theorem r_257_123 : xfetch 257 123 = some (.iload_n 1, 1) := by decide +kernel
theorem n_257_123 : ∀ l, xpr 257 123 l = l := xpr_no (by decide +kernel)
theorem r_257_124 : xfetch 257 124 = some (.iconst 0, 1) := by decide +kernel
theorem n_257_124 : ∀ l, xpr 257 124 l = l := xpr_no (by decide +kernel)
theorem r_257_125 : xfetch 257 125 = some (.invokevirtual 228, 3) := by decide +kernel
theorem n_257_125 : ∀ l, xpr 257 125 l = l := xpr_no (by decide +kernel)
theorem r_257_128 : xfetch 257 128 = some (.aload_n 0, 1) := by decide +kernel
theorem n_257_128 : ∀ l, xpr 257 128 l = l := xpr_no (by decide +kernel)
theorem r_257_129 : xfetch 257 129 = some (.iload_n 1, 1) := by decide +kernel
theorem n_257_129 : ∀ l, xpr 257 129 l = l := xpr_no (by decide +kernel)
theorem r_257_130 : xfetch 257 130 = some (.iconst 1, 1) := by decide +kernel
theorem n_257_130 : ∀ l, xpr 257 130 l = l := xpr_no (by decide +kernel)
theorem r_257_131 : xfetch 257 131 = some (.invokevirtual 228, 3) := by decide +kernel
theorem n_257_131 : ∀ l, xpr 257 131 l = l := xpr_no (by decide +kernel)
theorem r_257_134 : xfetch 257 134 = some (.iload_n 2, 1) := by decide +kernel
theorem n_257_134 : ∀ l, xpr 257 134 l = l := xpr_no (by decide +kernel)
theorem r_257_135 : xfetch 257 135 = some (.iload_n 3, 1) := by decide +kernel
theorem n_257_135 : ∀ l, xpr 257 135 l = l := xpr_no (by decide +kernel)
theorem r_257_136 : xfetch 257 136 = some (.iload 6, 2) := by decide +kernel
theorem n_257_136 : ∀ l, xpr 257 136 l = l := xpr_no (by decide +kernel)
theorem r_257_138 : xfetch 257 138 = some (.invokevirtual 243, 3) := by decide +kernel
theorem n_257_138 : ∀ l, xpr 257 138 l = l := xpr_no (by decide +kernel)
theorem r_257_141 : xfetch 257 141 = some (.iconst 0, 1) := by decide +kernel
theorem n_257_141 : ∀ l, xpr 257 141 l = l := xpr_no (by decide +kernel)
theorem r_257_142 : xfetch 257 142 = some (.istore 7, 2) := by decide +kernel
theorem n_257_142 : ∀ l, xpr 257 142 l = l := xpr_no (by decide +kernel)
theorem r_257_144 : xfetch 257 144 = some (.iload 7, 2) := by decide +kernel
theorem r_257_146 : xfetch 257 146 = some (.aload_n 0, 1) := by decide +kernel
theorem n_257_146 : ∀ l, xpr 257 146 l = l := xpr_no (by decide +kernel)
theorem r_257_147 : xfetch 257 147 = some (.iload_n 1, 1) := by decide +kernel
theorem n_257_147 : ∀ l, xpr 257 147 l = l := xpr_no (by decide +kernel)
theorem r_257_148 : xfetch 257 148 = some (.iconst 1, 1) := by decide +kernel
theorem n_257_148 : ∀ l, xpr 257 148 l = l := xpr_no (by decide +kernel)
theorem r_257_149 : xfetch 257 149 = some (.invokevirtual 228, 3) := by decide +kernel
theorem n_257_149 : ∀ l, xpr 257 149 l = l := xpr_no (by decide +kernel)
theorem r_257_152 : xfetch 257 152 = some (.if_icmp .ge 56, 3) := by decide +kernel
theorem n_257_152 : ∀ l, xpr 257 152 l = l := xpr_no (by decide +kernel)
theorem r_257_155 : xfetch 257 155 = some (.iconst 0, 1) := by decide +kernel
theorem n_257_155 : ∀ l, xpr 257 155 l = l := xpr_no (by decide +kernel)
theorem r_257_156 : xfetch 257 156 = some (.istore 8, 2) := by decide +kernel
theorem n_257_156 : ∀ l, xpr 257 156 l = l := xpr_no (by decide +kernel)
theorem r_257_158 : xfetch 257 158 = some (.iload 8, 2) := by decide +kernel
theorem r_257_160 : xfetch 257 160 = some (.aload_n 0, 1) := by decide +kernel
theorem n_257_160 : ∀ l, xpr 257 160 l = l := xpr_no (by decide +kernel)
theorem r_257_161 : xfetch 257 161 = some (.getfield 19, 3) := by decide +kernel
theorem n_257_161 : ∀ l, xpr 257 161 l = l := xpr_no (by decide +kernel)
theorem r_257_164 : xfetch 257 164 = some (.aload_n 0, 1) := by decide +kernel
theorem n_257_164 : ∀ l, xpr 257 164 l = l := xpr_no (by decide +kernel)
theorem r_257_165 : xfetch 257 165 = some (.iload_n 1, 1) := by decide +kernel
theorem n_257_165 : ∀ l, xpr 257 165 l = l := xpr_no (by decide +kernel)
theorem r_257_166 : xfetch 257 166 = some (.iconst 0, 1) := by decide +kernel
theorem n_257_166 : ∀ l, xpr 257 166 l = l := xpr_no (by decide +kernel)
theorem r_257_167 : xfetch 257 167 = some (.invokevirtual 228, 3) := by decide +kernel
theorem n_257_167 : ∀ l, xpr 257 167 l = l := xpr_no (by decide +kernel)
theorem r_257_170 : xfetch 257 170 = some (.iaload, 1) := by decide +kernel
theorem n_257_170 : ∀ l, xpr 257 170 l = l := xpr_no (by decide +kernel)
theorem r_257_171 : xfetch 257 171 = some (.if_icmp .ge 31, 3) := by decide +kernel
theorem n_257_171 : ∀ l, xpr 257 171 l = l := xpr_no (by decide +kernel)
theorem r_257_174 : xfetch 257 174 = some (.aload_n 0, 1) := by decide +kernel
theorem n_257_174 : ∀ l, xpr 257 174 l = l := xpr_no (by decide +kernel)
theorem r_257_175 : xfetch 257 175 = some (.iload_n 1, 1) := by decide +kernel
theorem n_257_175 : ∀ l, xpr 257 175 l = l := xpr_no (by decide +kernel)
theorem r_257_176 : xfetch 257 176 = some (.iload 7, 2) := by decide +kernel
theorem n_257_176 : ∀ l, xpr 257 176 l = l := xpr_no (by decide +kernel)
theorem r_257_178 : xfetch 257 178 = some (.iload 8, 2) := by decide +kernel
theorem n_257_178 : ∀ l, xpr 257 178 l = l := xpr_no (by decide +kernel)
theorem r_257_180 : xfetch 257 180 = some (.aload_n 0, 1) := by decide +kernel
theorem n_257_180 : ∀ l, xpr 257 180 l = l := xpr_no (by decide +kernel)
theorem r_257_181 : xfetch 257 181 = some (.getfield 67, 3) := by decide +kernel
theorem n_257_181 : ∀ l, xpr 257 181 l = l := xpr_no (by decide +kernel)
theorem r_257_184 : xfetch 257 184 = some (.bipush 40, 2) := by decide +kernel
theorem n_257_184 : ∀ l, xpr 257 184 l = l := xpr_no (by decide +kernel)
theorem r_257_186 : xfetch 257 186 = some (.iload 7, 2) := by decide +kernel
theorem n_257_186 : ∀ l, xpr 257 186 l = l := xpr_no (by decide +kernel)
theorem r_257_188 : xfetch 257 188 = some (.imul, 1) := by decide +kernel
theorem n_257_188 : ∀ l, xpr 257 188 l = l := xpr_no (by decide +kernel)
theorem r_257_189 : xfetch 257 189 = some (.iload 8, 2) := by decide +kernel
theorem n_257_189 : ∀ l, xpr 257 189 l = l := xpr_no (by decide +kernel)
theorem r_257_191 : xfetch 257 191 = some (.iadd, 1) := by decide +kernel
theorem n_257_191 : ∀ l, xpr 257 191 l = l := xpr_no (by decide +kernel)
theorem r_257_192 : xfetch 257 192 = some (.laload, 1) := by decide +kernel
theorem n_257_192 : ∀ l, xpr 257 192 l = l := xpr_no (by decide +kernel)
theorem r_257_193 : xfetch 257 193 = some (.invokevirtual 281, 3) := by decide +kernel
theorem n_257_193 : ∀ l, xpr 257 193 l = l := xpr_no (by decide +kernel)
theorem r_257_196 : xfetch 257 196 = some (.iinc 8 1, 3) := by decide +kernel
theorem n_257_196 : ∀ l, xpr 257 196 l = l := xpr_no (by decide +kernel)
theorem r_257_199 : xfetch 257 199 = some (.goto (-41), 3) := by decide +kernel
theorem n_257_199 : ∀ l, xpr 257 199 l = l := xpr_no (by decide +kernel)
theorem r_257_202 : xfetch 257 202 = some (.iinc 7 1, 3) := by decide +kernel
theorem n_257_202 : ∀ l, xpr 257 202 l = l := xpr_no (by decide +kernel)
theorem r_257_205 : xfetch 257 205 = some (.goto (-61), 3) := by decide +kernel
theorem n_257_205 : ∀ l, xpr 257 205 l = l := xpr_no (by decide +kernel)
theorem r_257_208 : xfetch 257 208 = some (.iload 6, 2) := by decide +kernel
theorem n_257_208 : ∀ l, xpr 257 208 l = l := xpr_no (by decide +kernel)
theorem r_257_210 : xfetch 257 210 = some (.ireturn, 1) := by decide +kernel
theorem n_257_210 : ∀ l, xpr 257 210 l = l := xpr_no (by decide +kernel)
theorem v_Model_convert_0 {S : Option (Nat × (Nat → Int32))} {s : zSt} {Q : Option Value ⊕ Nat → zSt → Prop} {x1 : Int} {x2 : Int} {x3 : Int} 
    (h : rng x1 ∧ (rng x2 ∧ ((¬ (0 ≤ x2 ∧ x2 ≤ 8) → (¬ (0 ≤ x1 ∧ x1 ≤ 2 ∧ zI s 253 (157 + 6 * x1) ≠ -1) → wp S 257 73 [(0, rf 252), (1, iv x1), (2, iv x2), (3, iv x3), (4, iv (bi (0 ≤ x1 ∧ x1 ≤ 2 ∧ zI s 253 (157 + 6 * x1) ≠ -1))), (5, iv 0), (6, iv (-1))] [] s Q) ∧ (0 ≤ x1 ∧ x1 ≤ 2 ∧ zI s 253 (157 + 6 * x1) ≠ -1 → wp S 257 73 [(0, rf 252), (1, iv x1), (2, iv x2), (3, iv x3), (4, iv (bi (0 ≤ x1 ∧ x1 ≤ 2 ∧ zI s 253 (157 + 6 * x1) ≠ -1))), (5, iv 0), (6, iv (-1))] [] s Q)) ∧ (0 ≤ x2 ∧ x2 ≤ 8 → rng x3 ∧ ((¬ (0 ≤ x3 ∧ x3 ≤ 1) → (¬ (0 ≤ x1 ∧ x1 ≤ 2 ∧ zI s 253 (157 + 6 * x1) ≠ -1) → wp S 257 73 [(0, rf 252), (1, iv x1), (2, iv x2), (3, iv x3), (4, iv (bi (0 ≤ x1 ∧ x1 ≤ 2 ∧ zI s 253 (157 + 6 * x1) ≠ -1))), (5, iv 0), (6, iv (-1))] [] s Q) ∧ (0 ≤ x1 ∧ x1 ≤ 2 ∧ zI s 253 (157 + 6 * x1) ≠ -1 → wp S 257 73 [(0, rf 252), (1, iv x1), (2, iv x2), (3, iv x3), (4, iv (bi (0 ≤ x1 ∧ x1 ≤ 2 ∧ zI s 253 (157 + 6 * x1) ≠ -1))), (5, iv 0), (6, iv (-1))] [] s Q)) ∧ (0 ≤ x3 ∧ x3 ≤ 1 → (¬ (0 ≤ x1 ∧ x1 ≤ 2 ∧ zI s 253 (157 + 6 * x1) ≠ -1) → wp S 257 73 [(0, rf 252), (1, iv x1), (2, iv x2), (3, iv x3), (4, iv (bi (0 ≤ x1 ∧ x1 ≤ 2 ∧ zI s 253 (157 + 6 * x1) ≠ -1))), (5, iv 1), (6, iv (-1))] [] s Q) ∧ (0 ≤ x1 ∧ x1 ≤ 2 ∧ zI s 253 (157 + 6 * x1) ≠ -1 → wp S 193 0 [(0, rf 252)] [] s (fun o12 s12 => zkU ((0 ≤ ((157 + (6 * x1)) + 0) ∧ ((157 + (6 * x1)) + 0) < 1199) ∧ ((0 ≤ ((157 + (6 * x1)) + 1) ∧ ((157 + (6 * x1)) + 1) < 1199) ∧ (wp S 230 0 [(0, rf 252), (1, iv (zI s12 253 ((157 + (6 * x1)) + 0))), (2, iv (zI s12 253 ((157 + (6 * x1)) + 1))), (3, iv x2)] [] s12 (fun o20 s20 => zkI (fun y20 => wp S 233 0 [(0, rf 252), (1, iv y20)] [] s20 (fun o22 s22 => zkI (fun y22 => wp S 257 73 [(0, rf 252), (1, iv x1), (2, iv x2), (3, iv x3), (4, iv (bi (0 ≤ x1 ∧ x1 ≤ 2 ∧ zI s 253 (157 + 6 * x1) ≠ -1))), (5, iv 1), (6, iv y22)] [] s22 Q) (fun e22 => False) o22)) (fun e20 => False) o20)))) (fun e12 => False) o12)))))))) :
    wp S 257 0 [(0, rf 252), (1, iv x1), (2, iv x2), (3, iv x3)] [] s Q := by
  refine i_aload_n (a := 252) r_257_0 (n_257_0 _) rfl ?_
  refine i_iload_n (x := x1) r_257_1 (n_257_1 _) rfl ?_
  obtain ⟨g1, h⟩ := h
  refine wp_virt (b := 252) (rest := []) (Ls := [(0, rf 252), (1, iv x1)]) r_257_2 (n_257_2 _) rfl ⟨rfl, rfl, by decide, by decide⟩ rfl rfl lf_252 ⟨rfl, Nat.le_of_ble_eq_true rfl, Nat.le_of_ble_eq_true rfl⟩ rfl (K_Model_isTable g1) ?_
  rintro _ _ ⟨rfl, rfl⟩
  refine .inl ⟨some (iv (bi (0 ≤ x1 ∧ x1 ≤ 2 ∧ zI s 253 (157 + 6 * x1) ≠ -1))), rfl, ?_⟩
  show wp S 257 5 [(0, rf 252), (1, iv x1), (2, iv x2), (3, iv x3)] [iv (bi (0 ≤ x1 ∧ x1 ≤ 2 ∧ zI s 253 (157 + 6 * x1) ≠ -1))] s Q
  refine i_istore (l' := [(0, rf 252), (1, iv x1), (2, iv x2), (3, iv x3), (4, iv (bi (0 ≤ x1 ∧ x1 ≤ 2 ∧ zI s 253 (157 + 6 * x1) ≠ -1)))]) r_257_5 (n_257_5 _) (by decide) rfl ?_
  refine i_iload_n (x := x2) r_257_7 (n_257_7 _) rfl ?_
  refine i_iconst r_257_8 (n_257_8 _) ?_
  refine i_bipush r_257_9 (n_257_9 _) rfl ?_
  obtain ⟨g3, h⟩ := h
  refine wp_stat (rest := []) (Ls := [(0, iv x2), (1, iv 0), (2, iv 8)]) r_257_11 (n_257_11 _) rfl ⟨rfl, by decide, by decide, by decide⟩ rfl rfl ⟨rfl, Nat.le_of_ble_eq_true rfl, Nat.le_of_ble_eq_true rfl⟩ rfl (K_Model_within g3 ⟨by omega, by omega⟩ ⟨by omega, by omega⟩) ?_
  rintro _ _ ⟨rfl, rfl⟩
  refine .inl ⟨some (iv (bi (0 ≤ x2 ∧ x2 ≤ 8))), rfl, ?_⟩
  show wp S 257 14 [(0, rf 252), (1, iv x1), (2, iv x2), (3, iv x3), (4, iv (bi (0 ≤ x1 ∧ x1 ≤ 2 ∧ zI s 253 (157 + 6 * x1) ≠ -1)))] [iv (bi (0 ≤ x2 ∧ x2 ≤ 8))] s Q
  refine i_if (t := 30) r_257_14 (n_257_14 _) rfl (TB_eq) (fun c5 => ?_) (fun c5 => ?_)
  · replace h := h.1 c5
    refine i_iconst r_257_30 (n_257_30 _) ?_
    refine i_istore (l' := [(0, rf 252), (1, iv x1), (2, iv x2), (3, iv x3), (4, iv (bi (0 ≤ x1 ∧ x1 ≤ 2 ∧ zI s 253 (157 + 6 * x1) ≠ -1))), (5, iv 0)]) r_257_31 (n_257_31 _) (by decide) rfl ?_
    refine i_iconst r_257_33 (n_257_33 _) ?_
    refine i_istore (l' := [(0, rf 252), (1, iv x1), (2, iv x2), (3, iv x3), (4, iv (bi (0 ≤ x1 ∧ x1 ≤ 2 ∧ zI s 253 (157 + 6 * x1) ≠ -1))), (5, iv 0), (6, iv (-1))]) r_257_34 (n_257_34 _) (by decide) rfl ?_
    refine i_iload (x := bi (0 ≤ x1 ∧ x1 ≤ 2 ∧ zI s 253 (157 + 6 * x1) ≠ -1)) r_257_36 (n_257_36 _) rfl ?_
    refine i_if (t := 73) r_257_38 (n_257_38 _) rfl (TB_eq) (fun c6 => ?_) (fun c6 => ?_)
    · replace h := h.1 c6
      exact wp_pr (l' := [(0, rf 252), (1, iv x1), (2, iv x2), (3, iv x3), (4, iv (bi (0 ≤ x1 ∧ x1 ≤ 2 ∧ zI s 253 (157 + 6 * x1) ≠ -1))), (5, iv 0), (6, iv (-1))]) rfl h
    · replace h := h.2 c6
      refine i_iload (x := 0) r_257_41 (n_257_41 _) rfl ?_
      refine i_if (t := 73) r_257_43 (n_257_43 _) rfl (T_eq ⟨by omega, by omega⟩ ⟨by omega, by omega⟩) (fun _ => ?_) (fun z => absurd z (by omega))
      exact wp_pr (l' := [(0, rf 252), (1, iv x1), (2, iv x2), (3, iv x3), (4, iv (bi (0 ≤ x1 ∧ x1 ≤ 2 ∧ zI s 253 (157 + 6 * x1) ≠ -1))), (5, iv 0), (6, iv (-1))]) rfl h
  · replace h := h.2 c5
    refine i_iload_n (x := x3) r_257_17 (n_257_17 _) rfl ?_
    refine i_iconst r_257_18 (n_257_18 _) ?_
    refine i_iconst r_257_19 (n_257_19 _) ?_
    obtain ⟨g7, h⟩ := h
    refine wp_stat (rest := []) (Ls := [(0, iv x3), (1, iv 0), (2, iv 1)]) r_257_20 (n_257_20 _) rfl ⟨rfl, by decide, by decide, by decide⟩ rfl rfl ⟨rfl, Nat.le_of_ble_eq_true rfl, Nat.le_of_ble_eq_true rfl⟩ rfl (K_Model_within g7 ⟨by omega, by omega⟩ ⟨by omega, by omega⟩) ?_
    rintro _ _ ⟨rfl, rfl⟩
    refine .inl ⟨some (iv (bi (0 ≤ x3 ∧ x3 ≤ 1))), rfl, ?_⟩
    show wp S 257 23 [(0, rf 252), (1, iv x1), (2, iv x2), (3, iv x3), (4, iv (bi (0 ≤ x1 ∧ x1 ≤ 2 ∧ zI s 253 (157 + 6 * x1) ≠ -1)))] [iv (bi (0 ≤ x3 ∧ x3 ≤ 1))] s Q
    refine i_if (t := 30) r_257_23 (n_257_23 _) rfl (TB_eq) (fun c9 => ?_) (fun c9 => ?_)
    · replace h := h.1 c9
      refine i_iconst r_257_30 (n_257_30 _) ?_
      refine i_istore (l' := [(0, rf 252), (1, iv x1), (2, iv x2), (3, iv x3), (4, iv (bi (0 ≤ x1 ∧ x1 ≤ 2 ∧ zI s 253 (157 + 6 * x1) ≠ -1))), (5, iv 0)]) r_257_31 (n_257_31 _) (by decide) rfl ?_
      refine i_iconst r_257_33 (n_257_33 _) ?_
      refine i_istore (l' := [(0, rf 252), (1, iv x1), (2, iv x2), (3, iv x3), (4, iv (bi (0 ≤ x1 ∧ x1 ≤ 2 ∧ zI s 253 (157 + 6 * x1) ≠ -1))), (5, iv 0), (6, iv (-1))]) r_257_34 (n_257_34 _) (by decide) rfl ?_
      refine i_iload (x := bi (0 ≤ x1 ∧ x1 ≤ 2 ∧ zI s 253 (157 + 6 * x1) ≠ -1)) r_257_36 (n_257_36 _) rfl ?_
      refine i_if (t := 73) r_257_38 (n_257_38 _) rfl (TB_eq) (fun c10 => ?_) (fun c10 => ?_)
      · replace h := h.1 c10
        exact wp_pr (l' := [(0, rf 252), (1, iv x1), (2, iv x2), (3, iv x3), (4, iv (bi (0 ≤ x1 ∧ x1 ≤ 2 ∧ zI s 253 (157 + 6 * x1) ≠ -1))), (5, iv 0), (6, iv (-1))]) rfl h
      · replace h := h.2 c10
        refine i_iload (x := 0) r_257_41 (n_257_41 _) rfl ?_
        refine i_if (t := 73) r_257_43 (n_257_43 _) rfl (T_eq ⟨by omega, by omega⟩ ⟨by omega, by omega⟩) (fun _ => ?_) (fun z => absurd z (by omega))
        exact wp_pr (l' := [(0, rf 252), (1, iv x1), (2, iv x2), (3, iv x3), (4, iv (bi (0 ≤ x1 ∧ x1 ≤ 2 ∧ zI s 253 (157 + 6 * x1) ≠ -1))), (5, iv 0), (6, iv (-1))]) rfl h
    · replace h := h.2 c9
      refine i_iconst r_257_26 (n_257_26 _) ?_
      refine i_goto (t := 31) r_257_27 (n_257_27 _) rfl ?_
      refine i_istore (l' := [(0, rf 252), (1, iv x1), (2, iv x2), (3, iv x3), (4, iv (bi (0 ≤ x1 ∧ x1 ≤ 2 ∧ zI s 253 (157 + 6 * x1) ≠ -1))), (5, iv 1)]) r_257_31 (n_257_31 _) (by decide) rfl ?_
      refine i_iconst r_257_33 (n_257_33 _) ?_
      refine i_istore (l' := [(0, rf 252), (1, iv x1), (2, iv x2), (3, iv x3), (4, iv (bi (0 ≤ x1 ∧ x1 ≤ 2 ∧ zI s 253 (157 + 6 * x1) ≠ -1))), (5, iv 1), (6, iv (-1))]) r_257_34 (n_257_34 _) (by decide) rfl ?_
      refine i_iload (x := bi (0 ≤ x1 ∧ x1 ≤ 2 ∧ zI s 253 (157 + 6 * x1) ≠ -1)) r_257_36 (n_257_36 _) rfl ?_
      refine i_if (t := 73) r_257_38 (n_257_38 _) rfl (TB_eq) (fun c11 => ?_) (fun c11 => ?_)
      · replace h := h.1 c11
        exact wp_pr (l' := [(0, rf 252), (1, iv x1), (2, iv x2), (3, iv x3), (4, iv (bi (0 ≤ x1 ∧ x1 ≤ 2 ∧ zI s 253 (157 + 6 * x1) ≠ -1))), (5, iv 1), (6, iv (-1))]) rfl h
      · replace h := h.2 c11
        refine i_iload (x := 1) r_257_41 (n_257_41 _) rfl ?_
        refine i_if (t := 73) r_257_43 (n_257_43 _) rfl (T_eq ⟨by omega, by omega⟩ ⟨by omega, by omega⟩) (fun z => absurd z (by omega)) (fun _ => ?_)
        refine i_aload_n (a := 252) r_257_46 (n_257_46 _) rfl ?_
        refine wp_virt (b := 252) (rest := []) (Ls := [(0, rf 252)]) r_257_47 (n_257_47 _) rfl ⟨rfl, rfl, by decide, by decide⟩ rfl rfl lf_252 ⟨rfl, Nat.le_of_ble_eq_true rfl, Nat.le_of_ble_eq_true rfl⟩ rfl h ?_
        intro o12 s12 h
        rcases h with ⟨rfl, h⟩ | ⟨e12, rfl, h⟩
        · refine .inl ⟨none, rfl, ?_⟩
          refine i_aload_n (a := 252) r_257_50 (n_257_50 _) rfl ?_
          refine i_aload_n (a := 252) r_257_51 (n_257_51 _) rfl ?_
          refine i_aload_n (a := 252) r_257_52 (n_257_52 _) rfl ?_
          refine i_iload_n (x := x1) r_257_53 (n_257_53 _) rfl ?_
          refine i_iconst r_257_54 (n_257_54 _) ?_
          obtain ⟨g14, h⟩ := h
          refine wp_virt (b := 252) (rest := [rf 252, rf 252]) (Ls := [(0, rf 252), (1, iv x1), (2, iv 0)]) r_257_55 (n_257_55 _) rfl ⟨rfl, rfl, by decide, by decide⟩ rfl rfl lf_252 ⟨rfl, Nat.le_of_ble_eq_true rfl, Nat.le_of_ble_eq_true rfl⟩ rfl (K_Model_of g14) ?_
          rintro _ _ ⟨rfl, rfl⟩
          refine .inl ⟨some (iv (zI s12 253 ((157 + (6 * x1)) + 0))), rfl, ?_⟩
          show wp S 257 58 [(0, rf 252), (1, iv x1), (2, iv x2), (3, iv x3), (4, iv (bi (0 ≤ x1 ∧ x1 ≤ 2 ∧ zI s 253 (157 + 6 * x1) ≠ -1))), (5, iv 1), (6, iv (-1))] [iv (zI s12 253 ((157 + (6 * x1)) + 0)), rf 252, rf 252] s12 Q
          refine wp_rd (a := 253) (j := ((157 + (6 * x1)) + 0)) (fun q16 => ?_)
          refine i_aload_n (a := 252) r_257_58 (n_257_58 _) rfl ?_
          refine i_iload_n (x := x1) r_257_59 (n_257_59 _) rfl ?_
          refine i_iconst r_257_60 (n_257_60 _) ?_
          obtain ⟨g17, h⟩ := h
          refine wp_virt (b := 252) (rest := [iv (zI s12 253 ((157 + (6 * x1)) + 0)), rf 252, rf 252]) (Ls := [(0, rf 252), (1, iv x1), (2, iv 1)]) r_257_61 (n_257_61 _) rfl ⟨rfl, rfl, by decide, by decide⟩ rfl rfl lf_252 ⟨rfl, Nat.le_of_ble_eq_true rfl, Nat.le_of_ble_eq_true rfl⟩ rfl (K_Model_of g17) ?_
          rintro _ _ ⟨rfl, rfl⟩
          refine .inl ⟨some (iv (zI s12 253 ((157 + (6 * x1)) + 1))), rfl, ?_⟩
          show wp S 257 64 [(0, rf 252), (1, iv x1), (2, iv x2), (3, iv x3), (4, iv (bi (0 ≤ x1 ∧ x1 ≤ 2 ∧ zI s 253 (157 + 6 * x1) ≠ -1))), (5, iv 1), (6, iv (-1))] [iv (zI s12 253 ((157 + (6 * x1)) + 1)), iv (zI s12 253 ((157 + (6 * x1)) + 0)), rf 252, rf 252] s12 Q
          refine wp_rd (a := 253) (j := ((157 + (6 * x1)) + 1)) (fun q19 => ?_)
          refine i_iload_n (x := x2) r_257_64 (n_257_64 _) rfl ?_
          refine wp_virt (b := 252) (rest := [rf 252]) (Ls := [(0, rf 252), (1, iv (zI s12 253 ((157 + (6 * x1)) + 0))), (2, iv (zI s12 253 ((157 + (6 * x1)) + 1))), (3, iv x2)]) r_257_65 (n_257_65 _) rfl ⟨rfl, rfl, by decide, by decide⟩ rfl rfl lf_252 ⟨rfl, Nat.le_of_ble_eq_true rfl, Nat.le_of_ble_eq_true rfl⟩ rfl h ?_
          intro o20 s20 h
          rcases h with ⟨y20, q21, rfl, h⟩ | ⟨e20, rfl, h⟩
          · refine .inl ⟨some (iv y20), rfl, ?_⟩
            show wp S 257 68 [(0, rf 252), (1, iv x1), (2, iv x2), (3, iv x3), (4, iv (bi (0 ≤ x1 ∧ x1 ≤ 2 ∧ zI s 253 (157 + 6 * x1) ≠ -1))), (5, iv 1), (6, iv (-1))] [iv y20, rf 252] s20 Q
            refine wp_virt (b := 252) (rest := []) (Ls := [(0, rf 252), (1, iv y20)]) r_257_68 (n_257_68 _) rfl ⟨rfl, rfl, by decide, by decide⟩ rfl rfl lf_252 ⟨rfl, Nat.le_of_ble_eq_true rfl, Nat.le_of_ble_eq_true rfl⟩ rfl h ?_
            intro o22 s22 h
            rcases h with ⟨y22, q23, rfl, h⟩ | ⟨e22, rfl, h⟩
            · refine .inl ⟨some (iv y22), rfl, ?_⟩
              show wp S 257 71 [(0, rf 252), (1, iv x1), (2, iv x2), (3, iv x3), (4, iv (bi (0 ≤ x1 ∧ x1 ≤ 2 ∧ zI s 253 (157 + 6 * x1) ≠ -1))), (5, iv 1), (6, iv (-1))] [iv y22] s22 Q
              refine i_istore (l' := [(0, rf 252), (1, iv x1), (2, iv x2), (3, iv x3), (4, iv (bi (0 ≤ x1 ∧ x1 ≤ 2 ∧ zI s 253 (157 + 6 * x1) ≠ -1))), (5, iv 1), (6, iv y22)]) r_257_71 (n_257_71 _) (by decide) rfl ?_
              exact wp_pr (l' := [(0, rf 252), (1, iv x1), (2, iv x2), (3, iv x3), (4, iv (bi (0 ≤ x1 ∧ x1 ≤ 2 ∧ zI s 253 (157 + 6 * x1) ≠ -1))), (5, iv 1), (6, iv y22)]) rfl h
            · skip
              exact h.elim
          · skip
            exact h.elim
        · skip
          exact h.elim
theorem v_Model_convert_73 {S : Option (Nat × (Nat → Int32))} {s : zSt} {Q : Option Value ⊕ Nat → zSt → Prop} {x1 : Int} {x2 : Int} {x3 : Int} {x4 : Int} {x5 : Int} {x6 : Int} 
    (h : rng x4 ∧ ((x4 ≠ 0 → rng x5 ∧ ((x5 ≠ 0 → rng x6 ∧ ((x6 ≠ (-1) → wp S 182 0 [(0, rf 252)] [] (zwI s 252 3 0) (fun o8 s8 => zkU (wp S 258 0 [(0, rf 252), (1, iv x1)] [] s8 (fun o10 s10 => zkU ((0 ≤ ((157 + (6 * x1)) + 0) ∧ ((157 + (6 * x1)) + 0) < 1199) ∧ ((0 ≤ ((157 + (6 * x1)) + 1) ∧ ((157 + (6 * x1)) + 1) < 1199) ∧ (wp S 237 0 [(0, rf 252), (1, iv x1), (2, iv (zI s10 253 ((157 + (6 * x1)) + 0))), (3, iv (zI s10 253 ((157 + (6 * x1)) + 1))), (4, iv x2), (5, iv x3), (6, iv x6)] [] s10 (fun o18 s18 => zkU (wp S 257 144 [(0, rf 252), (1, iv x1), (6, iv x6), (7, iv 0)] [] s18 Q) (fun e18 => False) o18)))) (fun e10 => False) o10)) (fun e8 => False) o8)) ∧ (x6 = (-1) → Q (rI 0) (zwI s 252 3 3)))) ∧ (x5 = 0 → Q (rI 0) (zwI s 252 3 2)))) ∧ (x4 = 0 → Q (rI 0) (zwI s 252 3 1)))) :
    wp S 257 73 [(0, rf 252), (1, iv x1), (2, iv x2), (3, iv x3), (4, iv x4), (5, iv x5), (6, iv x6)] [] s Q := by
  refine i_aload_n (a := 252) r_257_73 rfl rfl ?_
  refine i_iload (x := x4) r_257_74 (n_257_74 _) rfl ?_
  obtain ⟨g1, h⟩ := h
  refine i_if (t := 83) r_257_76 (n_257_76 _) rfl (T_ne g1 ⟨by omega, by omega⟩) (fun c2 => ?_) (fun c2 => ?_)
  · replace h := h.1 c2
    refine i_iload (x := x5) r_257_83 (n_257_83 _) rfl ?_
    obtain ⟨g3, h⟩ := h
    refine i_if (t := 92) r_257_85 (n_257_85 _) rfl (T_ne g3 ⟨by omega, by omega⟩) (fun c4 => ?_) (fun c4 => ?_)
    · replace h := h.1 c4
      refine i_iload (x := x6) r_257_92 (n_257_92 _) rfl ?_
      refine i_iconst r_257_94 (n_257_94 _) ?_
      obtain ⟨g5, h⟩ := h
      refine i_icmp (t := 102) r_257_95 (n_257_95 _) rfl (T_ne g5 ⟨by omega, by omega⟩) (fun c6 => ?_) (fun c6 => ?_)
      · replace h := h.1 c6
        refine i_iconst r_257_102 (n_257_102 _) ?_
        refine wp_virt (b := 252) (rest := []) (Ls := [(0, rf 252), (1, iv 0)]) r_257_103 (n_257_103 _) rfl ⟨rfl, rfl, by decide, by decide⟩ rfl rfl lf_252 ⟨rfl, Nat.le_of_ble_eq_true rfl, Nat.le_of_ble_eq_true rfl⟩ rfl K_Model_refused0 ?_
        rintro _ _ ⟨rfl, rfl⟩
        refine .inl ⟨some (iv 0), rfl, ?_⟩
        show wp S 257 106 [(0, rf 252), (1, iv x1), (2, iv x2), (3, iv x3), (4, iv x4), (5, iv x5), (6, iv x6)] [iv 0] (zwI s 252 3 0) Q
        refine i_if (t := 111) r_257_106 (n_257_106 _) rfl (T_eq ⟨by omega, by omega⟩ ⟨by omega, by omega⟩) (fun _ => ?_) (fun z => absurd z (by omega))
        refine i_aload_n (a := 252) r_257_111 (n_257_111 _) rfl ?_
        refine wp_virt (b := 252) (rest := []) (Ls := [(0, rf 252)]) r_257_112 (n_257_112 _) rfl ⟨rfl, rfl, by decide, by decide⟩ rfl rfl lf_252 ⟨rfl, Nat.le_of_ble_eq_true rfl, Nat.le_of_ble_eq_true rfl⟩ rfl h ?_
        intro o8 s8 h
        rcases h with ⟨rfl, h⟩ | ⟨e8, rfl, h⟩
        · refine .inl ⟨none, rfl, ?_⟩
          refine i_aload_n (a := 252) r_257_115 (n_257_115 _) rfl ?_
          refine i_iload_n (x := x1) r_257_116 (n_257_116 _) rfl ?_
          refine wp_virt (b := 252) (rest := []) (Ls := [(0, rf 252), (1, iv x1)]) r_257_117 (n_257_117 _) rfl ⟨rfl, rfl, by decide, by decide⟩ rfl rfl lf_252 ⟨rfl, Nat.le_of_ble_eq_true rfl, Nat.le_of_ble_eq_true rfl⟩ rfl h ?_
          intro o10 s10 h
          rcases h with ⟨rfl, h⟩ | ⟨e10, rfl, h⟩
          · refine .inl ⟨none, rfl, ?_⟩
            refine i_aload_n (a := 252) r_257_120 (n_257_120 _) rfl ?_
            refine i_iload_n (x := x1) r_257_121 (n_257_121 _) rfl ?_
            refine i_aload_n (a := 252) r_257_122 (n_257_122 _) rfl ?_
            refine i_iload_n (x := x1) r_257_123 (n_257_123 _) rfl ?_
            refine i_iconst r_257_124 (n_257_124 _) ?_
            obtain ⟨g12, h⟩ := h
            refine wp_virt (b := 252) (rest := [iv x1, rf 252]) (Ls := [(0, rf 252), (1, iv x1), (2, iv 0)]) r_257_125 (n_257_125 _) rfl ⟨rfl, rfl, by decide, by decide⟩ rfl rfl lf_252 ⟨rfl, Nat.le_of_ble_eq_true rfl, Nat.le_of_ble_eq_true rfl⟩ rfl (K_Model_of g12) ?_
            rintro _ _ ⟨rfl, rfl⟩
            refine .inl ⟨some (iv (zI s10 253 ((157 + (6 * x1)) + 0))), rfl, ?_⟩
            show wp S 257 128 [(0, rf 252), (1, iv x1), (2, iv x2), (3, iv x3), (4, iv x4), (5, iv x5), (6, iv x6)] [iv (zI s10 253 ((157 + (6 * x1)) + 0)), iv x1, rf 252] s10 Q
            refine wp_rd (a := 253) (j := ((157 + (6 * x1)) + 0)) (fun q14 => ?_)
            refine i_aload_n (a := 252) r_257_128 (n_257_128 _) rfl ?_
            refine i_iload_n (x := x1) r_257_129 (n_257_129 _) rfl ?_
            refine i_iconst r_257_130 (n_257_130 _) ?_
            obtain ⟨g15, h⟩ := h
            refine wp_virt (b := 252) (rest := [iv (zI s10 253 ((157 + (6 * x1)) + 0)), iv x1, rf 252]) (Ls := [(0, rf 252), (1, iv x1), (2, iv 1)]) r_257_131 (n_257_131 _) rfl ⟨rfl, rfl, by decide, by decide⟩ rfl rfl lf_252 ⟨rfl, Nat.le_of_ble_eq_true rfl, Nat.le_of_ble_eq_true rfl⟩ rfl (K_Model_of g15) ?_
            rintro _ _ ⟨rfl, rfl⟩
            refine .inl ⟨some (iv (zI s10 253 ((157 + (6 * x1)) + 1))), rfl, ?_⟩
            show wp S 257 134 [(0, rf 252), (1, iv x1), (2, iv x2), (3, iv x3), (4, iv x4), (5, iv x5), (6, iv x6)] [iv (zI s10 253 ((157 + (6 * x1)) + 1)), iv (zI s10 253 ((157 + (6 * x1)) + 0)), iv x1, rf 252] s10 Q
            refine wp_rd (a := 253) (j := ((157 + (6 * x1)) + 1)) (fun q17 => ?_)
            refine i_iload_n (x := x2) r_257_134 (n_257_134 _) rfl ?_
            refine i_iload_n (x := x3) r_257_135 (n_257_135 _) rfl ?_
            refine i_iload (x := x6) r_257_136 (n_257_136 _) rfl ?_
            refine wp_virt (b := 252) (rest := []) (Ls := [(0, rf 252), (1, iv x1), (2, iv (zI s10 253 ((157 + (6 * x1)) + 0))), (3, iv (zI s10 253 ((157 + (6 * x1)) + 1))), (4, iv x2), (5, iv x3), (6, iv x6)]) r_257_138 (n_257_138 _) rfl ⟨rfl, rfl, by decide, by decide⟩ rfl rfl lf_252 ⟨rfl, Nat.le_of_ble_eq_true rfl, Nat.le_of_ble_eq_true rfl⟩ rfl h ?_
            intro o18 s18 h
            rcases h with ⟨rfl, h⟩ | ⟨e18, rfl, h⟩
            · refine .inl ⟨none, rfl, ?_⟩
              refine i_iconst r_257_141 (n_257_141 _) ?_
              refine i_istore (l' := [(0, rf 252), (1, iv x1), (2, iv x2), (3, iv x3), (4, iv x4), (5, iv x5), (6, iv x6), (7, iv 0)]) r_257_142 (n_257_142 _) (by decide) rfl ?_
              exact wp_pr (l' := [(0, rf 252), (1, iv x1), (6, iv x6), (7, iv 0)]) rfl h
            · skip
              exact h.elim
          · skip
            exact h.elim
        · skip
          exact h.elim
      · replace h := h.2 c6
        refine i_iconst r_257_98 (n_257_98 _) ?_
        refine i_goto (t := 103) r_257_99 (n_257_99 _) rfl ?_
        refine wp_virt (b := 252) (rest := []) (Ls := [(0, rf 252), (1, iv 3)]) r_257_103 (n_257_103 _) rfl ⟨rfl, rfl, by decide, by decide⟩ rfl rfl lf_252 ⟨rfl, Nat.le_of_ble_eq_true rfl, Nat.le_of_ble_eq_true rfl⟩ rfl (K_Model_refused1 ⟨by omega, by omega⟩ (by omega)) ?_
        rintro _ _ ⟨rfl, rfl⟩
        refine .inl ⟨some (iv 1), rfl, ?_⟩
        show wp S 257 106 [(0, rf 252), (1, iv x1), (2, iv x2), (3, iv x3), (4, iv x4), (5, iv x5), (6, iv x6)] [iv 1] (zwI s 252 3 3) Q
        refine i_if (t := 111) r_257_106 (n_257_106 _) rfl (T_eq ⟨by omega, by omega⟩ ⟨by omega, by omega⟩) (fun z => absurd z (by omega)) (fun _ => ?_)
        refine i_iconst r_257_109 (n_257_109 _) ?_
        exact i_ireturn r_257_110 (n_257_110 _) rfl h
    · replace h := h.2 c4
      refine i_iconst r_257_88 (n_257_88 _) ?_
      refine i_goto (t := 103) r_257_89 (n_257_89 _) rfl ?_
      refine wp_virt (b := 252) (rest := []) (Ls := [(0, rf 252), (1, iv 2)]) r_257_103 (n_257_103 _) rfl ⟨rfl, rfl, by decide, by decide⟩ rfl rfl lf_252 ⟨rfl, Nat.le_of_ble_eq_true rfl, Nat.le_of_ble_eq_true rfl⟩ rfl (K_Model_refused1 ⟨by omega, by omega⟩ (by omega)) ?_
      rintro _ _ ⟨rfl, rfl⟩
      refine .inl ⟨some (iv 1), rfl, ?_⟩
      show wp S 257 106 [(0, rf 252), (1, iv x1), (2, iv x2), (3, iv x3), (4, iv x4), (5, iv x5), (6, iv x6)] [iv 1] (zwI s 252 3 2) Q
      refine i_if (t := 111) r_257_106 (n_257_106 _) rfl (T_eq ⟨by omega, by omega⟩ ⟨by omega, by omega⟩) (fun z => absurd z (by omega)) (fun _ => ?_)
      refine i_iconst r_257_109 (n_257_109 _) ?_
      exact i_ireturn r_257_110 (n_257_110 _) rfl h
  · replace h := h.2 c2
    refine i_iconst r_257_79 (n_257_79 _) ?_
    refine i_goto (t := 103) r_257_80 (n_257_80 _) rfl ?_
    refine wp_virt (b := 252) (rest := []) (Ls := [(0, rf 252), (1, iv 1)]) r_257_103 (n_257_103 _) rfl ⟨rfl, rfl, by decide, by decide⟩ rfl rfl lf_252 ⟨rfl, Nat.le_of_ble_eq_true rfl, Nat.le_of_ble_eq_true rfl⟩ rfl (K_Model_refused1 ⟨by omega, by omega⟩ (by omega)) ?_
    rintro _ _ ⟨rfl, rfl⟩
    refine .inl ⟨some (iv 1), rfl, ?_⟩
    show wp S 257 106 [(0, rf 252), (1, iv x1), (2, iv x2), (3, iv x3), (4, iv x4), (5, iv x5), (6, iv x6)] [iv 1] (zwI s 252 3 1) Q
    refine i_if (t := 111) r_257_106 (n_257_106 _) rfl (T_eq ⟨by omega, by omega⟩ ⟨by omega, by omega⟩) (fun z => absurd z (by omega)) (fun _ => ?_)
    refine i_iconst r_257_109 (n_257_109 _) ?_
    exact i_ireturn r_257_110 (n_257_110 _) rfl h
theorem v_Model_convert_144 {S : Option (Nat × (Nat → Int32))} {s : zSt} {Q : Option Value ⊕ Nat → zSt → Prop} {x1 : Int} {x6 : Int} {x7 : Int} 
    (h : (0 ≤ ((157 + (6 * x1)) + 1) ∧ ((157 + (6 * x1)) + 1) < 1199) ∧ (rng x7 ∧ (((zI s 253 ((157 + (6 * x1)) + 1)) ≤ x7 → Q (rI x6) s) ∧ (x7 < (zI s 253 ((157 + (6 * x1)) + 1)) → wp S 257 158 [(0, rf 252), (1, iv x1), (6, iv x6), (7, iv x7), (8, iv 0)] [] s Q)))) :
    wp S 257 144 [(0, rf 252), (1, iv x1), (6, iv x6), (7, iv x7)] [] s Q := by
  refine i_iload (x := x7) r_257_144 rfl rfl ?_
  refine i_aload_n (a := 252) r_257_146 (n_257_146 _) rfl ?_
  refine i_iload_n (x := x1) r_257_147 (n_257_147 _) rfl ?_
  refine i_iconst r_257_148 (n_257_148 _) ?_
  obtain ⟨g1, h⟩ := h
  refine wp_virt (b := 252) (rest := [iv x7]) (Ls := [(0, rf 252), (1, iv x1), (2, iv 1)]) r_257_149 (n_257_149 _) rfl ⟨rfl, rfl, by decide, by decide⟩ rfl rfl lf_252 ⟨rfl, Nat.le_of_ble_eq_true rfl, Nat.le_of_ble_eq_true rfl⟩ rfl (K_Model_of g1) ?_
  rintro _ _ ⟨rfl, rfl⟩
  refine .inl ⟨some (iv (zI s 253 ((157 + (6 * x1)) + 1))), rfl, ?_⟩
  show wp S 257 152 [(0, rf 252), (1, iv x1), (6, iv x6), (7, iv x7)] [iv (zI s 253 ((157 + (6 * x1)) + 1)), iv x7] s Q
  refine wp_rd (a := 253) (j := ((157 + (6 * x1)) + 1)) (fun q3 => ?_)
  obtain ⟨g4, h⟩ := h
  refine i_icmp (t := 208) r_257_152 (n_257_152 _) rfl (T_ge g4 q3) (fun c5 => ?_) (fun c5 => ?_)
  · replace h := h.1 c5
    refine i_iload (x := x6) r_257_208 (n_257_208 _) rfl ?_
    exact i_ireturn r_257_210 (n_257_210 _) rfl h
  · replace h := h.2 c5
    refine i_iconst r_257_155 (n_257_155 _) ?_
    refine i_istore (l' := [(0, rf 252), (1, iv x1), (6, iv x6), (7, iv x7), (8, iv 0)]) r_257_156 (n_257_156 _) (by decide) rfl ?_
    exact wp_pr (l' := [(0, rf 252), (1, iv x1), (6, iv x6), (7, iv x7), (8, iv 0)]) rfl h
theorem v_Model_convert_158 {S : Option (Nat × (Nat → Int32))} {s : zSt} {Q : Option Value ⊕ Nat → zSt → Prop} {x1 : Int} {x6 : Int} {x7 : Int} {x8 : Int} 
    (h : (0 ≤ ((157 + (6 * x1)) + 0) ∧ ((157 + (6 * x1)) + 0) < 1199) ∧ ((0 ≤ (zI s 253 ((157 + (6 * x1)) + 0)) ∧ (zI s 253 ((157 + (6 * x1)) + 0)) < 6) ∧ (rng x8 ∧ (((zI s 256 (zI s 253 ((157 + (6 * x1)) + 0))) ≤ x8 → wp S 257 144 [(0, rf 252), (1, iv x1), (6, iv x6), (7, iv (x7 + 1))] [] s Q) ∧ (x8 < (zI s 256 (zI s 253 ((157 + (6 * x1)) + 0))) → (0 ≤ ((40 * x7) + x8) ∧ ((40 * x7) + x8) < 480) ∧ (wp S 252 0 [(0, rf 252), (1, iv x1), (2, iv x7), (3, iv x8), (4, .long (zL s 272 ((40 * x7) + x8)))] [] s (fun o9 s9 => zkU (wp S 257 158 [(0, rf 252), (1, iv x1), (6, iv x6), (7, iv x7), (8, iv (x8 + 1))] [] s9 Q) (fun e9 => False) o9))))))) :
    wp S 257 158 [(0, rf 252), (1, iv x1), (6, iv x6), (7, iv x7), (8, iv x8)] [] s Q := by
  refine i_iload (x := x8) r_257_158 rfl rfl ?_
  refine i_aload_n (a := 252) r_257_160 (n_257_160 _) rfl ?_
  refine i_getR (a := 252) (b := 256) r_257_161 (n_257_161 _) rfl rfl rfl (by omega) lf_252 (by omega) ?_
  refine i_aload_n (a := 252) r_257_164 (n_257_164 _) rfl ?_
  refine i_iload_n (x := x1) r_257_165 (n_257_165 _) rfl ?_
  refine i_iconst r_257_166 (n_257_166 _) ?_
  obtain ⟨g1, h⟩ := h
  refine wp_virt (b := 252) (rest := [rf 256, iv x8]) (Ls := [(0, rf 252), (1, iv x1), (2, iv 0)]) r_257_167 (n_257_167 _) rfl ⟨rfl, rfl, by decide, by decide⟩ rfl rfl lf_252 ⟨rfl, Nat.le_of_ble_eq_true rfl, Nat.le_of_ble_eq_true rfl⟩ rfl (K_Model_of g1) ?_
  rintro _ _ ⟨rfl, rfl⟩
  refine .inl ⟨some (iv (zI s 253 ((157 + (6 * x1)) + 0))), rfl, ?_⟩
  show wp S 257 170 [(0, rf 252), (1, iv x1), (6, iv x6), (7, iv x7), (8, iv x8)] [iv (zI s 253 ((157 + (6 * x1)) + 0)), rf 256, iv x8] s Q
  refine wp_rd (a := 253) (j := ((157 + (6 * x1)) + 0)) (fun q3 => ?_)
  obtain ⟨g4, h⟩ := h
  refine i_iaload (a := 256) (j := zI s 253 ((157 + (6 * x1)) + 0)) r_257_170 (n_257_170 _) lf_256 ⟨by omega, by omega⟩ (by omega) (by omega) (fun q5 => ?_)
  obtain ⟨g6, h⟩ := h
  refine i_icmp (t := 202) r_257_171 (n_257_171 _) rfl (T_ge g6 q5) (fun c7 => ?_) (fun c7 => ?_)
  · replace h := h.1 c7
    refine i_iinc (x := x7) (l' := [(0, rf 252), (1, iv x1), (6, iv x6), (7, iv (x7 + 1)), (8, iv x8)]) r_257_202 (n_257_202 _) (by decide) rfl rfl ?_
    refine i_goto (t := 144) r_257_205 (n_257_205 _) rfl ?_
    exact wp_pr (l' := [(0, rf 252), (1, iv x1), (6, iv x6), (7, iv (x7 + 1))]) rfl h
  · replace h := h.2 c7
    refine i_aload_n (a := 252) r_257_174 (n_257_174 _) rfl ?_
    refine i_iload_n (x := x1) r_257_175 (n_257_175 _) rfl ?_
    refine i_iload (x := x7) r_257_176 (n_257_176 _) rfl ?_
    refine i_iload (x := x8) r_257_178 (n_257_178 _) rfl ?_
    refine i_aload_n (a := 252) r_257_180 (n_257_180 _) rfl ?_
    refine i_getR (a := 252) (b := 272) r_257_181 (n_257_181 _) rfl rfl rfl (by omega) lf_252 (by omega) ?_
    refine i_bipush r_257_184 (n_257_184 _) rfl ?_
    refine i_iload (x := x7) r_257_186 (n_257_186 _) rfl ?_
    refine i_imul r_257_188 (n_257_188 _) ?_
    refine i_iload (x := x8) r_257_189 (n_257_189 _) rfl ?_
    refine i_iadd r_257_191 (n_257_191 _) ?_
    obtain ⟨g8, h⟩ := h
    refine i_laload (a := 272) (j := (40 * x7) + x8) r_257_192 (n_257_192 _) lf_272 ⟨by omega, by omega⟩ (by omega) (by omega) ?_
    refine wp_virt (b := 252) (rest := []) (Ls := [(0, rf 252), (1, iv x1), (2, iv x7), (3, iv x8), (4, .long (zL s 272 ((40 * x7) + x8)))]) r_257_193 (n_257_193 _) rfl ⟨rfl, rfl, by decide, by decide⟩ rfl rfl lf_252 ⟨rfl, Nat.le_of_ble_eq_true rfl, Nat.le_of_ble_eq_true rfl⟩ rfl h ?_
    intro o9 s9 h
    rcases h with ⟨rfl, h⟩ | ⟨e9, rfl, h⟩
    · refine .inl ⟨none, rfl, ?_⟩
      refine i_iinc (x := x8) (l' := [(0, rf 252), (1, iv x1), (6, iv x6), (7, iv x7), (8, iv (x8 + 1))]) r_257_196 (n_257_196 _) (by decide) rfl rfl ?_
      refine i_goto (t := 158) r_257_199 (n_257_199 _) rfl ?_
      exact wp_pr (l' := [(0, rf 252), (1, iv x1), (6, iv x6), (7, iv x7), (8, iv (x8 + 1))]) rfl h
    · skip
      exact h.elim
theorem r_258_0 : xfetch 258 0 = some (.iconst 0, 1) := by decide +kernel
theorem n_258_0 : ∀ l, xpr 258 0 l = l := xpr_no (by decide +kernel)
theorem r_258_1 : xfetch 258 1 = some (.istore_n 2, 1) := by decide +kernel
theorem n_258_1 : ∀ l, xpr 258 1 l = l := xpr_no (by decide +kernel)
theorem r_258_2 : xfetch 258 2 = some (.iload_n 2, 1) := by decide +kernel
theorem r_258_3 : xfetch 258 3 = some (.aload_n 0, 1) := by decide +kernel
theorem n_258_3 : ∀ l, xpr 258 3 l = l := xpr_no (by decide +kernel)
theorem r_258_4 : xfetch 258 4 = some (.iload_n 1, 1) := by decide +kernel
theorem n_258_4 : ∀ l, xpr 258 4 l = l := xpr_no (by decide +kernel)
theorem r_258_5 : xfetch 258 5 = some (.iconst 1, 1) := by decide +kernel
theorem n_258_5 : ∀ l, xpr 258 5 l = l := xpr_no (by decide +kernel)
theorem r_258_6 : xfetch 258 6 = some (.invokevirtual 228, 3) := by decide +kernel
theorem n_258_6 : ∀ l, xpr 258 6 l = l := xpr_no (by decide +kernel)
theorem r_258_9 : xfetch 258 9 = some (.if_icmp .ge 50, 3) := by decide +kernel
theorem n_258_9 : ∀ l, xpr 258 9 l = l := xpr_no (by decide +kernel)
theorem r_258_12 : xfetch 258 12 = some (.iconst 0, 1) := by decide +kernel
theorem n_258_12 : ∀ l, xpr 258 12 l = l := xpr_no (by decide +kernel)
theorem r_258_13 : xfetch 258 13 = some (.istore_n 3, 1) := by decide +kernel
theorem n_258_13 : ∀ l, xpr 258 13 l = l := xpr_no (by decide +kernel)
theorem r_258_14 : xfetch 258 14 = some (.iload_n 3, 1) := by decide +kernel
theorem r_258_15 : xfetch 258 15 = some (.aload_n 0, 1) := by decide +kernel
theorem n_258_15 : ∀ l, xpr 258 15 l = l := xpr_no (by decide +kernel)
theorem r_258_16 : xfetch 258 16 = some (.getfield 19, 3) := by decide +kernel
theorem n_258_16 : ∀ l, xpr 258 16 l = l := xpr_no (by decide +kernel)
theorem r_258_19 : xfetch 258 19 = some (.aload_n 0, 1) := by decide +kernel
theorem n_258_19 : ∀ l, xpr 258 19 l = l := xpr_no (by decide +kernel)
theorem r_258_20 : xfetch 258 20 = some (.iload_n 1, 1) := by decide +kernel
theorem n_258_20 : ∀ l, xpr 258 20 l = l := xpr_no (by decide +kernel)
theorem r_258_21 : xfetch 258 21 = some (.iconst 0, 1) := by decide +kernel
theorem n_258_21 : ∀ l, xpr 258 21 l = l := xpr_no (by decide +kernel)
theorem r_258_22 : xfetch 258 22 = some (.invokevirtual 228, 3) := by decide +kernel
theorem n_258_22 : ∀ l, xpr 258 22 l = l := xpr_no (by decide +kernel)
theorem r_258_25 : xfetch 258 25 = some (.iaload, 1) := by decide +kernel
theorem n_258_25 : ∀ l, xpr 258 25 l = l := xpr_no (by decide +kernel)
theorem r_258_26 : xfetch 258 26 = some (.if_icmp .ge 27, 3) := by decide +kernel
theorem n_258_26 : ∀ l, xpr 258 26 l = l := xpr_no (by decide +kernel)
theorem r_258_29 : xfetch 258 29 = some (.aload_n 0, 1) := by decide +kernel
theorem n_258_29 : ∀ l, xpr 258 29 l = l := xpr_no (by decide +kernel)
theorem r_258_30 : xfetch 258 30 = some (.getfield 67, 3) := by decide +kernel
theorem n_258_30 : ∀ l, xpr 258 30 l = l := xpr_no (by decide +kernel)
theorem r_258_33 : xfetch 258 33 = some (.bipush 40, 2) := by decide +kernel
theorem n_258_33 : ∀ l, xpr 258 33 l = l := xpr_no (by decide +kernel)
theorem r_258_35 : xfetch 258 35 = some (.iload_n 2, 1) := by decide +kernel
theorem n_258_35 : ∀ l, xpr 258 35 l = l := xpr_no (by decide +kernel)
theorem r_258_36 : xfetch 258 36 = some (.imul, 1) := by decide +kernel
theorem n_258_36 : ∀ l, xpr 258 36 l = l := xpr_no (by decide +kernel)
theorem r_258_37 : xfetch 258 37 = some (.iload_n 3, 1) := by decide +kernel
theorem n_258_37 : ∀ l, xpr 258 37 l = l := xpr_no (by decide +kernel)
theorem r_258_38 : xfetch 258 38 = some (.iadd, 1) := by decide +kernel
theorem n_258_38 : ∀ l, xpr 258 38 l = l := xpr_no (by decide +kernel)
theorem r_258_39 : xfetch 258 39 = some (.aload_n 0, 1) := by decide +kernel
theorem n_258_39 : ∀ l, xpr 258 39 l = l := xpr_no (by decide +kernel)
theorem r_258_40 : xfetch 258 40 = some (.iload_n 1, 1) := by decide +kernel
theorem n_258_40 : ∀ l, xpr 258 40 l = l := xpr_no (by decide +kernel)
theorem r_258_41 : xfetch 258 41 = some (.iload_n 2, 1) := by decide +kernel
theorem n_258_41 : ∀ l, xpr 258 41 l = l := xpr_no (by decide +kernel)
theorem r_258_42 : xfetch 258 42 = some (.iload_n 3, 1) := by decide +kernel
theorem n_258_42 : ∀ l, xpr 258 42 l = l := xpr_no (by decide +kernel)
theorem r_258_43 : xfetch 258 43 = some (.invokevirtual 278, 3) := by decide +kernel
theorem n_258_43 : ∀ l, xpr 258 43 l = l := xpr_no (by decide +kernel)
theorem r_258_46 : xfetch 258 46 = some (.lastore, 1) := by decide +kernel
theorem n_258_46 : ∀ l, xpr 258 46 l = l := xpr_no (by decide +kernel)
theorem r_258_47 : xfetch 258 47 = some (.iinc 3 1, 3) := by decide +kernel
theorem n_258_47 : ∀ l, xpr 258 47 l = l := xpr_no (by decide +kernel)
theorem r_258_50 : xfetch 258 50 = some (.goto (-36), 3) := by decide +kernel
theorem n_258_50 : ∀ l, xpr 258 50 l = l := xpr_no (by decide +kernel)
theorem r_258_53 : xfetch 258 53 = some (.iinc 2 1, 3) := by decide +kernel
theorem n_258_53 : ∀ l, xpr 258 53 l = l := xpr_no (by decide +kernel)
theorem r_258_56 : xfetch 258 56 = some (.goto (-54), 3) := by decide +kernel
theorem n_258_56 : ∀ l, xpr 258 56 l = l := xpr_no (by decide +kernel)
theorem r_258_59 : xfetch 258 59 = some (.return_, 1) := by decide +kernel
theorem n_258_59 : ∀ l, xpr 258 59 l = l := xpr_no (by decide +kernel)
theorem v_Model_takes_0 {S : Option (Nat × (Nat → Int32))} {s : zSt} {Q : Option Value ⊕ Nat → zSt → Prop} {x1 : Int} 
    (h : wp S 258 2 [(0, rf 252), (1, iv x1), (2, iv 0)] [] s Q) :
    wp S 258 0 [(0, rf 252), (1, iv x1)] [] s Q := by
  refine i_iconst r_258_0 (n_258_0 _) ?_
  refine i_istore_n (l' := [(0, rf 252), (1, iv x1), (2, iv 0)]) r_258_1 (n_258_1 _) (by decide) rfl ?_
  exact wp_pr (l' := [(0, rf 252), (1, iv x1), (2, iv 0)]) rfl h
theorem v_Model_takes_2 {S : Option (Nat × (Nat → Int32))} {s : zSt} {Q : Option Value ⊕ Nat → zSt → Prop} {x1 : Int} {x2 : Int} 
    (h : (0 ≤ ((157 + (6 * x1)) + 1) ∧ ((157 + (6 * x1)) + 1) < 1199) ∧ (rng x2 ∧ (((zI s 253 ((157 + (6 * x1)) + 1)) ≤ x2 → Q rU s) ∧ (x2 < (zI s 253 ((157 + (6 * x1)) + 1)) → wp S 258 14 [(0, rf 252), (1, iv x1), (2, iv x2), (3, iv 0)] [] s Q)))) :
    wp S 258 2 [(0, rf 252), (1, iv x1), (2, iv x2)] [] s Q := by
  refine i_iload_n (x := x2) r_258_2 rfl rfl ?_
  refine i_aload_n (a := 252) r_258_3 (n_258_3 _) rfl ?_
  refine i_iload_n (x := x1) r_258_4 (n_258_4 _) rfl ?_
  refine i_iconst r_258_5 (n_258_5 _) ?_
  obtain ⟨g1, h⟩ := h
  refine wp_virt (b := 252) (rest := [iv x2]) (Ls := [(0, rf 252), (1, iv x1), (2, iv 1)]) r_258_6 (n_258_6 _) rfl ⟨rfl, rfl, by decide, by decide⟩ rfl rfl lf_252 ⟨rfl, Nat.le_of_ble_eq_true rfl, Nat.le_of_ble_eq_true rfl⟩ rfl (K_Model_of g1) ?_
  rintro _ _ ⟨rfl, rfl⟩
  refine .inl ⟨some (iv (zI s 253 ((157 + (6 * x1)) + 1))), rfl, ?_⟩
  show wp S 258 9 [(0, rf 252), (1, iv x1), (2, iv x2)] [iv (zI s 253 ((157 + (6 * x1)) + 1)), iv x2] s Q
  refine wp_rd (a := 253) (j := ((157 + (6 * x1)) + 1)) (fun q3 => ?_)
  obtain ⟨g4, h⟩ := h
  refine i_icmp (t := 59) r_258_9 (n_258_9 _) rfl (T_ge g4 q3) (fun c5 => ?_) (fun c5 => ?_)
  · replace h := h.1 c5
    exact i_return r_258_59 (n_258_59 _) rfl h
  · replace h := h.2 c5
    refine i_iconst r_258_12 (n_258_12 _) ?_
    refine i_istore_n (l' := [(0, rf 252), (1, iv x1), (2, iv x2), (3, iv 0)]) r_258_13 (n_258_13 _) (by decide) rfl ?_
    exact wp_pr (l' := [(0, rf 252), (1, iv x1), (2, iv x2), (3, iv 0)]) rfl h
theorem v_Model_takes_14 {S : Option (Nat × (Nat → Int32))} {s : zSt} {Q : Option Value ⊕ Nat → zSt → Prop} {x1 : Int} {x2 : Int} {x3 : Int} 
    (h : (0 ≤ ((157 + (6 * x1)) + 0) ∧ ((157 + (6 * x1)) + 0) < 1199) ∧ ((0 ≤ (zI s 253 ((157 + (6 * x1)) + 0)) ∧ (zI s 253 ((157 + (6 * x1)) + 0)) < 6) ∧ (rng x3 ∧ (((zI s 256 (zI s 253 ((157 + (6 * x1)) + 0))) ≤ x3 → wp S 258 2 [(0, rf 252), (1, iv x1), (2, iv (x2 + 1))] [] s Q) ∧ (x3 < (zI s 256 (zI s 253 ((157 + (6 * x1)) + 0))) → wp S 248 0 [(0, rf 252), (1, iv x1), (2, iv x2), (3, iv x3)] [] s (fun o8 s8 => zkL (fun y8 => (0 ≤ ((40 * x2) + x3) ∧ ((40 * x2) + x3) < 480) ∧ (wp S 258 14 [(0, rf 252), (1, iv x1), (2, iv x2), (3, iv (x3 + 1))] [] (zwL s8 272 ((40 * x2) + x3) y8) Q)) (fun e8 => False) o8)))))) :
    wp S 258 14 [(0, rf 252), (1, iv x1), (2, iv x2), (3, iv x3)] [] s Q := by
  refine i_iload_n (x := x3) r_258_14 rfl rfl ?_
  refine i_aload_n (a := 252) r_258_15 (n_258_15 _) rfl ?_
  refine i_getR (a := 252) (b := 256) r_258_16 (n_258_16 _) rfl rfl rfl (by omega) lf_252 (by omega) ?_
  refine i_aload_n (a := 252) r_258_19 (n_258_19 _) rfl ?_
  refine i_iload_n (x := x1) r_258_20 (n_258_20 _) rfl ?_
  refine i_iconst r_258_21 (n_258_21 _) ?_
  obtain ⟨g1, h⟩ := h
  refine wp_virt (b := 252) (rest := [rf 256, iv x3]) (Ls := [(0, rf 252), (1, iv x1), (2, iv 0)]) r_258_22 (n_258_22 _) rfl ⟨rfl, rfl, by decide, by decide⟩ rfl rfl lf_252 ⟨rfl, Nat.le_of_ble_eq_true rfl, Nat.le_of_ble_eq_true rfl⟩ rfl (K_Model_of g1) ?_
  rintro _ _ ⟨rfl, rfl⟩
  refine .inl ⟨some (iv (zI s 253 ((157 + (6 * x1)) + 0))), rfl, ?_⟩
  show wp S 258 25 [(0, rf 252), (1, iv x1), (2, iv x2), (3, iv x3)] [iv (zI s 253 ((157 + (6 * x1)) + 0)), rf 256, iv x3] s Q
  refine wp_rd (a := 253) (j := ((157 + (6 * x1)) + 0)) (fun q3 => ?_)
  obtain ⟨g4, h⟩ := h
  refine i_iaload (a := 256) (j := zI s 253 ((157 + (6 * x1)) + 0)) r_258_25 (n_258_25 _) lf_256 ⟨by omega, by omega⟩ (by omega) (by omega) (fun q5 => ?_)
  obtain ⟨g6, h⟩ := h
  refine i_icmp (t := 53) r_258_26 (n_258_26 _) rfl (T_ge g6 q5) (fun c7 => ?_) (fun c7 => ?_)
  · replace h := h.1 c7
    refine i_iinc (x := x2) (l' := [(0, rf 252), (1, iv x1), (2, iv (x2 + 1)), (3, iv x3)]) r_258_53 (n_258_53 _) (by decide) rfl rfl ?_
    refine i_goto (t := 2) r_258_56 (n_258_56 _) rfl ?_
    exact wp_pr (l' := [(0, rf 252), (1, iv x1), (2, iv (x2 + 1))]) rfl h
  · replace h := h.2 c7
    refine i_aload_n (a := 252) r_258_29 (n_258_29 _) rfl ?_
    refine i_getR (a := 252) (b := 272) r_258_30 (n_258_30 _) rfl rfl rfl (by omega) lf_252 (by omega) ?_
    refine i_bipush r_258_33 (n_258_33 _) rfl ?_
    refine i_iload_n (x := x2) r_258_35 (n_258_35 _) rfl ?_
    refine i_imul r_258_36 (n_258_36 _) ?_
    refine i_iload_n (x := x3) r_258_37 (n_258_37 _) rfl ?_
    refine i_iadd r_258_38 (n_258_38 _) ?_
    refine i_aload_n (a := 252) r_258_39 (n_258_39 _) rfl ?_
    refine i_iload_n (x := x1) r_258_40 (n_258_40 _) rfl ?_
    refine i_iload_n (x := x2) r_258_41 (n_258_41 _) rfl ?_
    refine i_iload_n (x := x3) r_258_42 (n_258_42 _) rfl ?_
    refine wp_virt (b := 252) (rest := [iv ((40 * x2) + x3), rf 272]) (Ls := [(0, rf 252), (1, iv x1), (2, iv x2), (3, iv x3)]) r_258_43 (n_258_43 _) rfl ⟨rfl, rfl, by decide, by decide⟩ rfl rfl lf_252 ⟨rfl, Nat.le_of_ble_eq_true rfl, Nat.le_of_ble_eq_true rfl⟩ rfl h ?_
    intro o8 s8 h
    rcases h with ⟨y8, rfl, h⟩ | ⟨e8, rfl, h⟩
    · refine .inl ⟨some (.long y8), rfl, ?_⟩
      show wp S 258 46 [(0, rf 252), (1, iv x1), (2, iv x2), (3, iv x3)] [.long y8, iv ((40 * x2) + x3), rf 272] s8 Q
      obtain ⟨g10, h⟩ := h
      refine i_lastore (a := 272) (j := (40 * x2) + x3) r_258_46 (n_258_46 _) lf_272 ⟨by omega, by omega⟩ (by omega) (by omega) ?_
      refine i_iinc (x := x3) (l' := [(0, rf 252), (1, iv x1), (2, iv x2), (3, iv (x3 + 1))]) r_258_47 (n_258_47 _) (by decide) rfl rfl ?_
      refine i_goto (t := 14) r_258_50 (n_258_50 _) rfl ?_
      exact wp_pr (l' := [(0, rf 252), (1, iv x1), (2, iv x2), (3, iv (x3 + 1))]) rfl h
    · skip
      exact h.elim
theorem r_259_0 : xfetch 259 0 = some (.aload_n 0, 1) := by decide +kernel
theorem n_259_0 : ∀ l, xpr 259 0 l = l := xpr_no (by decide +kernel)
theorem r_259_1 : xfetch 259 1 = some (.iload_n 1, 1) := by decide +kernel
theorem n_259_1 : ∀ l, xpr 259 1 l = l := xpr_no (by decide +kernel)
theorem r_259_2 : xfetch 259 2 = some (.invokevirtual 225, 3) := by decide +kernel
theorem n_259_2 : ∀ l, xpr 259 2 l = l := xpr_no (by decide +kernel)
theorem r_259_5 : xfetch 259 5 = some (.ifCond .eq 15, 3) := by decide +kernel
theorem n_259_5 : ∀ l, xpr 259 5 l = l := xpr_no (by decide +kernel)
theorem r_259_8 : xfetch 259 8 = some (.aload_n 0, 1) := by decide +kernel
theorem n_259_8 : ∀ l, xpr 259 8 l = l := xpr_no (by decide +kernel)
theorem r_259_9 : xfetch 259 9 = some (.iload_n 2, 1) := by decide +kernel
theorem n_259_9 : ∀ l, xpr 259 9 l = l := xpr_no (by decide +kernel)
theorem r_259_10 : xfetch 259 10 = some (.invokevirtual 142, 3) := by decide +kernel
theorem n_259_10 : ∀ l, xpr 259 10 l = l := xpr_no (by decide +kernel)
theorem r_259_13 : xfetch 259 13 = some (.ifCond .eq 7, 3) := by decide +kernel
theorem n_259_13 : ∀ l, xpr 259 13 l = l := xpr_no (by decide +kernel)
theorem r_259_16 : xfetch 259 16 = some (.iconst 1, 1) := by decide +kernel
theorem n_259_16 : ∀ l, xpr 259 16 l = l := xpr_no (by decide +kernel)
theorem r_259_17 : xfetch 259 17 = some (.goto 4, 3) := by decide +kernel
theorem n_259_17 : ∀ l, xpr 259 17 l = l := xpr_no (by decide +kernel)
theorem r_259_20 : xfetch 259 20 = some (.iconst 0, 1) := by decide +kernel
theorem n_259_20 : ∀ l, xpr 259 20 l = l := xpr_no (by decide +kernel)
theorem r_259_21 : xfetch 259 21 = some (.istore 4, 2) := by decide +kernel
theorem n_259_21 : ∀ l, xpr 259 21 l = l := xpr_no (by decide +kernel)
theorem r_259_23 : xfetch 259 23 = some (.iload_n 3, 1) := by decide +kernel
theorem n_259_23 : ∀ l, xpr 259 23 l = l := xpr_no (by decide +kernel)
theorem r_259_24 : xfetch 259 24 = some (.iconst 0, 1) := by decide +kernel
theorem n_259_24 : ∀ l, xpr 259 24 l = l := xpr_no (by decide +kernel)
theorem r_259_25 : xfetch 259 25 = some (.bipush 8, 2) := by decide +kernel
theorem n_259_25 : ∀ l, xpr 259 25 l = l := xpr_no (by decide +kernel)
theorem r_259_27 : xfetch 259 27 = some (.invokestatic 88, 3) := by decide +kernel
theorem n_259_27 : ∀ l, xpr 259 27 l = l := xpr_no (by decide +kernel)
theorem r_259_30 : xfetch 259 30 = some (.istore 5, 2) := by decide +kernel
theorem n_259_30 : ∀ l, xpr 259 30 l = l := xpr_no (by decide +kernel)
theorem r_259_32 : xfetch 259 32 = some (.iconst (-1), 1) := by decide +kernel
theorem n_259_32 : ∀ l, xpr 259 32 l = l := xpr_no (by decide +kernel)
theorem r_259_33 : xfetch 259 33 = some (.istore 6, 2) := by decide +kernel
theorem n_259_33 : ∀ l, xpr 259 33 l = l := xpr_no (by decide +kernel)
theorem r_259_35 : xfetch 259 35 = some (.iload 4, 2) := by decide +kernel
theorem n_259_35 : ∀ l, xpr 259 35 l = l := xpr_no (by decide +kernel)
theorem r_259_37 : xfetch 259 37 = some (.ifCond .eq 38, 3) := by decide +kernel
theorem n_259_37 : ∀ l, xpr 259 37 l = l := xpr_no (by decide +kernel)
theorem r_259_40 : xfetch 259 40 = some (.iload 5, 2) := by decide +kernel
theorem n_259_40 : ∀ l, xpr 259 40 l = l := xpr_no (by decide +kernel)
theorem r_259_42 : xfetch 259 42 = some (.ifCond .eq 33, 3) := by decide +kernel
theorem n_259_42 : ∀ l, xpr 259 42 l = l := xpr_no (by decide +kernel)
theorem r_259_45 : xfetch 259 45 = some (.aload_n 0, 1) := by decide +kernel
theorem n_259_45 : ∀ l, xpr 259 45 l = l := xpr_no (by decide +kernel)
theorem r_259_46 : xfetch 259 46 = some (.iload_n 2, 1) := by decide +kernel
theorem n_259_46 : ∀ l, xpr 259 46 l = l := xpr_no (by decide +kernel)
theorem r_259_47 : xfetch 259 47 = some (.invokevirtual 99, 3) := by decide +kernel
theorem n_259_47 : ∀ l, xpr 259 47 l = l := xpr_no (by decide +kernel)
theorem r_259_50 : xfetch 259 50 = some (.ifCond .le 25, 3) := by decide +kernel
theorem n_259_50 : ∀ l, xpr 259 50 l = l := xpr_no (by decide +kernel)
theorem r_259_53 : xfetch 259 53 = some (.aload_n 0, 1) := by decide +kernel
theorem n_259_53 : ∀ l, xpr 259 53 l = l := xpr_no (by decide +kernel)
theorem r_259_54 : xfetch 259 54 = some (.invokevirtual 152, 3) := by decide +kernel
theorem n_259_54 : ∀ l, xpr 259 54 l = l := xpr_no (by decide +kernel)
theorem r_259_57 : xfetch 259 57 = some (.aload_n 0, 1) := by decide +kernel
theorem n_259_57 : ∀ l, xpr 259 57 l = l := xpr_no (by decide +kernel)
theorem r_259_58 : xfetch 259 58 = some (.aload_n 0, 1) := by decide +kernel
theorem n_259_58 : ∀ l, xpr 259 58 l = l := xpr_no (by decide +kernel)
theorem r_259_59 : xfetch 259 59 = some (.iload_n 2, 1) := by decide +kernel
theorem n_259_59 : ∀ l, xpr 259 59 l = l := xpr_no (by decide +kernel)
theorem r_259_60 : xfetch 259 60 = some (.aload_n 0, 1) := by decide +kernel
theorem n_259_60 : ∀ l, xpr 259 60 l = l := xpr_no (by decide +kernel)
theorem r_259_61 : xfetch 259 61 = some (.iload_n 1, 1) := by decide +kernel
theorem n_259_61 : ∀ l, xpr 259 61 l = l := xpr_no (by decide +kernel)
theorem r_259_62 : xfetch 259 62 = some (.iconst 1, 1) := by decide +kernel
theorem n_259_62 : ∀ l, xpr 259 62 l = l := xpr_no (by decide +kernel)
theorem r_259_63 : xfetch 259 63 = some (.invokevirtual 228, 3) := by decide +kernel
theorem n_259_63 : ∀ l, xpr 259 63 l = l := xpr_no (by decide +kernel)
theorem r_259_66 : xfetch 259 66 = some (.iload_n 3, 1) := by decide +kernel
theorem n_259_66 : ∀ l, xpr 259 66 l = l := xpr_no (by decide +kernel)
theorem r_259_67 : xfetch 259 67 = some (.invokevirtual 237, 3) := by decide +kernel
theorem n_259_67 : ∀ l, xpr 259 67 l = l := xpr_no (by decide +kernel)
theorem r_259_70 : xfetch 259 70 = some (.invokevirtual 240, 3) := by decide +kernel
theorem n_259_70 : ∀ l, xpr 259 70 l = l := xpr_no (by decide +kernel)
theorem r_259_73 : xfetch 259 73 = some (.istore 6, 2) := by decide +kernel
theorem n_259_73 : ∀ l, xpr 259 73 l = l := xpr_no (by decide +kernel)
theorem r_259_75 : xfetch 259 75 = some (.aload_n 0, 1) := by decide +kernel
theorem r_259_76 : xfetch 259 76 = some (.iload 4, 2) := by decide +kernel
theorem n_259_76 : ∀ l, xpr 259 76 l = l := xpr_no (by decide +kernel)
theorem r_259_78 : xfetch 259 78 = some (.ifCond .ne 7, 3) := by decide +kernel
theorem n_259_78 : ∀ l, xpr 259 78 l = l := xpr_no (by decide +kernel)
theorem r_259_81 : xfetch 259 81 = some (.iconst 1, 1) := by decide +kernel
theorem n_259_81 : ∀ l, xpr 259 81 l = l := xpr_no (by decide +kernel)
theorem r_259_82 : xfetch 259 82 = some (.goto 23, 3) := by decide +kernel
theorem n_259_82 : ∀ l, xpr 259 82 l = l := xpr_no (by decide +kernel)
theorem r_259_85 : xfetch 259 85 = some (.iload 5, 2) := by decide +kernel
theorem n_259_85 : ∀ l, xpr 259 85 l = l := xpr_no (by decide +kernel)
theorem r_259_87 : xfetch 259 87 = some (.ifCond .ne 7, 3) := by decide +kernel
theorem n_259_87 : ∀ l, xpr 259 87 l = l := xpr_no (by decide +kernel)
theorem r_259_90 : xfetch 259 90 = some (.iconst 2, 1) := by decide +kernel
theorem n_259_90 : ∀ l, xpr 259 90 l = l := xpr_no (by decide +kernel)
theorem r_259_91 : xfetch 259 91 = some (.goto 14, 3) := by decide +kernel
theorem n_259_91 : ∀ l, xpr 259 91 l = l := xpr_no (by decide +kernel)
theorem r_259_94 : xfetch 259 94 = some (.iload 6, 2) := by decide +kernel
theorem n_259_94 : ∀ l, xpr 259 94 l = l := xpr_no (by decide +kernel)
theorem r_259_96 : xfetch 259 96 = some (.iconst (-1), 1) := by decide +kernel
theorem n_259_96 : ∀ l, xpr 259 96 l = l := xpr_no (by decide +kernel)
theorem r_259_97 : xfetch 259 97 = some (.if_icmp .ne 7, 3) := by decide +kernel
theorem n_259_97 : ∀ l, xpr 259 97 l = l := xpr_no (by decide +kernel)
theorem r_259_100 : xfetch 259 100 = some (.iconst 3, 1) := by decide +kernel
theorem n_259_100 : ∀ l, xpr 259 100 l = l := xpr_no (by decide +kernel)
theorem r_259_101 : xfetch 259 101 = some (.goto 4, 3) := by decide +kernel
theorem n_259_101 : ∀ l, xpr 259 101 l = l := xpr_no (by decide +kernel)
theorem r_259_104 : xfetch 259 104 = some (.iconst 0, 1) := by decide +kernel
theorem n_259_104 : ∀ l, xpr 259 104 l = l := xpr_no (by decide +kernel)
theorem r_259_105 : xfetch 259 105 = some (.invokevirtual 84, 3) := by decide +kernel
theorem n_259_105 : ∀ l, xpr 259 105 l = l := xpr_no (by decide +kernel)
theorem r_259_108 : xfetch 259 108 = some (.ifCond .eq 5, 3) := by decide +kernel
theorem n_259_108 : ∀ l, xpr 259 108 l = l := xpr_no (by decide +kernel)
theorem r_259_111 : xfetch 259 111 = some (.iconst 0, 1) := by decide +kernel
theorem n_259_111 : ∀ l, xpr 259 111 l = l := xpr_no (by decide +kernel)
theorem r_259_112 : xfetch 259 112 = some (.ireturn, 1) := by decide +kernel
theorem n_259_112 : ∀ l, xpr 259 112 l = l := xpr_no (by decide +kernel)
theorem r_259_113 : xfetch 259 113 = some (.aload_n 0, 1) := by decide +kernel
theorem n_259_113 : ∀ l, xpr 259 113 l = l := xpr_no (by decide +kernel)
theorem r_259_114 : xfetch 259 114 = some (.invokevirtual 135, 3) := by decide +kernel
theorem n_259_114 : ∀ l, xpr 259 114 l = l := xpr_no (by decide +kernel)
theorem r_259_117 : xfetch 259 117 = some (.aload_n 0, 1) := by decide +kernel
theorem n_259_117 : ∀ l, xpr 259 117 l = l := xpr_no (by decide +kernel)
theorem r_259_118 : xfetch 259 118 = some (.iload_n 1, 1) := by decide +kernel
theorem n_259_118 : ∀ l, xpr 259 118 l = l := xpr_no (by decide +kernel)
theorem r_259_119 : xfetch 259 119 = some (.invokevirtual 284, 3) := by decide +kernel
theorem n_259_119 : ∀ l, xpr 259 119 l = l := xpr_no (by decide +kernel)
theorem r_259_122 : xfetch 259 122 = some (.aload_n 0, 1) := by decide +kernel
theorem n_259_122 : ∀ l, xpr 259 122 l = l := xpr_no (by decide +kernel)
theorem r_259_123 : xfetch 259 123 = some (.iload_n 1, 1) := by decide +kernel
theorem n_259_123 : ∀ l, xpr 259 123 l = l := xpr_no (by decide +kernel)
theorem r_259_124 : xfetch 259 124 = some (.iconst 0, 1) := by decide +kernel
theorem n_259_124 : ∀ l, xpr 259 124 l = l := xpr_no (by decide +kernel)
theorem r_259_125 : xfetch 259 125 = some (.invokevirtual 228, 3) := by decide +kernel
theorem n_259_125 : ∀ l, xpr 259 125 l = l := xpr_no (by decide +kernel)
theorem r_259_128 : xfetch 259 128 = some (.istore 7, 2) := by decide +kernel
theorem n_259_128 : ∀ l, xpr 259 128 l = l := xpr_no (by decide +kernel)
theorem r_259_130 : xfetch 259 130 = some (.aload_n 0, 1) := by decide +kernel
theorem n_259_130 : ∀ l, xpr 259 130 l = l := xpr_no (by decide +kernel)
theorem r_259_131 : xfetch 259 131 = some (.iload_n 1, 1) := by decide +kernel
theorem n_259_131 : ∀ l, xpr 259 131 l = l := xpr_no (by decide +kernel)
theorem r_259_132 : xfetch 259 132 = some (.iload_n 2, 1) := by decide +kernel
theorem n_259_132 : ∀ l, xpr 259 132 l = l := xpr_no (by decide +kernel)
theorem r_259_133 : xfetch 259 133 = some (.aload_n 0, 1) := by decide +kernel
theorem n_259_133 : ∀ l, xpr 259 133 l = l := xpr_no (by decide +kernel)
theorem r_259_134 : xfetch 259 134 = some (.iload_n 1, 1) := by decide +kernel
theorem n_259_134 : ∀ l, xpr 259 134 l = l := xpr_no (by decide +kernel)
theorem r_259_135 : xfetch 259 135 = some (.iconst 1, 1) := by decide +kernel
theorem n_259_135 : ∀ l, xpr 259 135 l = l := xpr_no (by decide +kernel)
theorem r_259_136 : xfetch 259 136 = some (.invokevirtual 228, 3) := by decide +kernel
theorem n_259_136 : ∀ l, xpr 259 136 l = l := xpr_no (by decide +kernel)
theorem r_259_139 : xfetch 259 139 = some (.iload_n 3, 1) := by decide +kernel
theorem n_259_139 : ∀ l, xpr 259 139 l = l := xpr_no (by decide +kernel)
theorem r_259_140 : xfetch 259 140 = some (.aload_n 0, 1) := by decide +kernel
theorem n_259_140 : ∀ l, xpr 259 140 l = l := xpr_no (by decide +kernel)
theorem r_259_141 : xfetch 259 141 = some (.iload_n 1, 1) := by decide +kernel
theorem n_259_141 : ∀ l, xpr 259 141 l = l := xpr_no (by decide +kernel)
theorem r_259_142 : xfetch 259 142 = some (.iconst 3, 1) := by decide +kernel
theorem n_259_142 : ∀ l, xpr 259 142 l = l := xpr_no (by decide +kernel)
theorem r_259_143 : xfetch 259 143 = some (.invokevirtual 228, 3) := by decide +kernel
theorem n_259_143 : ∀ l, xpr 259 143 l = l := xpr_no (by decide +kernel)
theorem r_259_146 : xfetch 259 146 = some (.iload 6, 2) := by decide +kernel
theorem n_259_146 : ∀ l, xpr 259 146 l = l := xpr_no (by decide +kernel)
theorem r_259_148 : xfetch 259 148 = some (.invokevirtual 243, 3) := by decide +kernel
theorem n_259_148 : ∀ l, xpr 259 148 l = l := xpr_no (by decide +kernel)
theorem r_259_151 : xfetch 259 151 = some (.iconst 0, 1) := by decide +kernel
theorem n_259_151 : ∀ l, xpr 259 151 l = l := xpr_no (by decide +kernel)
theorem r_259_152 : xfetch 259 152 = some (.istore 8, 2) := by decide +kernel
theorem n_259_152 : ∀ l, xpr 259 152 l = l := xpr_no (by decide +kernel)
theorem r_259_154 : xfetch 259 154 = some (.iconst 0, 1) := by decide +kernel
theorem n_259_154 : ∀ l, xpr 259 154 l = l := xpr_no (by decide +kernel)
theorem r_259_155 : xfetch 259 155 = some (.istore 9, 2) := by decide +kernel
theorem n_259_155 : ∀ l, xpr 259 155 l = l := xpr_no (by decide +kernel)
theorem r_259_157 : xfetch 259 157 = some (.iload 9, 2) := by decide +kernel
theorem r_259_159 : xfetch 259 159 = some (.aload_n 0, 1) := by decide +kernel
theorem n_259_159 : ∀ l, xpr 259 159 l = l := xpr_no (by decide +kernel)
theorem r_259_160 : xfetch 259 160 = some (.getfield 19, 3) := by decide +kernel
theorem n_259_160 : ∀ l, xpr 259 160 l = l := xpr_no (by decide +kernel)
theorem r_259_163 : xfetch 259 163 = some (.iload_n 2, 1) := by decide +kernel
theorem n_259_163 : ∀ l, xpr 259 163 l = l := xpr_no (by decide +kernel)
theorem r_259_164 : xfetch 259 164 = some (.iaload, 1) := by decide +kernel
theorem n_259_164 : ∀ l, xpr 259 164 l = l := xpr_no (by decide +kernel)
theorem r_259_165 : xfetch 259 165 = some (.if_icmp .ge 84, 3) := by decide +kernel
theorem n_259_165 : ∀ l, xpr 259 165 l = l := xpr_no (by decide +kernel)
theorem r_259_168 : xfetch 259 168 = some (.aload_n 0, 1) := by decide +kernel
theorem n_259_168 : ∀ l, xpr 259 168 l = l := xpr_no (by decide +kernel)
theorem r_259_169 : xfetch 259 169 = some (.iload 7, 2) := by decide +kernel
theorem n_259_169 : ∀ l, xpr 259 169 l = l := xpr_no (by decide +kernel)
theorem r_259_171 : xfetch 259 171 = some (.iload_n 2, 1) := by decide +kernel
theorem n_259_171 : ∀ l, xpr 259 171 l = l := xpr_no (by decide +kernel)
theorem r_259_172 : xfetch 259 172 = some (.iload 9, 2) := by decide +kernel
theorem n_259_172 : ∀ l, xpr 259 172 l = l := xpr_no (by decide +kernel)
theorem r_259_174 : xfetch 259 174 = some (.invokevirtual 287, 3) := by decide +kernel
theorem n_259_174 : ∀ l, xpr 259 174 l = l := xpr_no (by decide +kernel)
theorem r_259_177 : xfetch 259 177 = some (.istore 10, 2) := by decide +kernel
theorem n_259_177 : ∀ l, xpr 259 177 l = l := xpr_no (by decide +kernel)
theorem r_259_179 : xfetch 259 179 = some (.iload 8, 2) := by decide +kernel
theorem n_259_179 : ∀ l, xpr 259 179 l = l := xpr_no (by decide +kernel)
theorem r_259_181 : xfetch 259 181 = some (.iload 10, 2) := by decide +kernel
theorem n_259_181 : ∀ l, xpr 259 181 l = l := xpr_no (by decide +kernel)
theorem r_259_183 : xfetch 259 183 = some (.iconst (-1), 1) := by decide +kernel
theorem n_259_183 : ∀ l, xpr 259 183 l = l := xpr_no (by decide +kernel)
theorem r_259_184 : xfetch 259 184 = some (.if_icmp .ne 7, 3) := by decide +kernel
theorem n_259_184 : ∀ l, xpr 259 184 l = l := xpr_no (by decide +kernel)
theorem r_259_187 : xfetch 259 187 = some (.iconst 0, 1) := by decide +kernel
theorem n_259_187 : ∀ l, xpr 259 187 l = l := xpr_no (by decide +kernel)
theorem r_259_188 : xfetch 259 188 = some (.goto 4, 3) := by decide +kernel
theorem n_259_188 : ∀ l, xpr 259 188 l = l := xpr_no (by decide +kernel)
theorem r_259_191 : xfetch 259 191 = some (.iconst 1, 1) := by decide +kernel
theorem n_259_191 : ∀ l, xpr 259 191 l = l := xpr_no (by decide +kernel)
theorem r_259_192 : xfetch 259 192 = some (.iadd, 1) := by decide +kernel
theorem n_259_192 : ∀ l, xpr 259 192 l = l := xpr_no (by decide +kernel)
theorem r_259_193 : xfetch 259 193 = some (.istore 8, 2) := by decide +kernel
theorem n_259_193 : ∀ l, xpr 259 193 l = l := xpr_no (by decide +kernel)
theorem r_259_195 : xfetch 259 195 = some (.iconst 0, 1) := by decide +kernel
theorem n_259_195 : ∀ l, xpr 259 195 l = l := xpr_no (by decide +kernel)
theorem r_259_196 : xfetch 259 196 = some (.istore 11, 2) := by decide +kernel
theorem n_259_196 : ∀ l, xpr 259 196 l = l := xpr_no (by decide +kernel)
theorem r_259_198 : xfetch 259 198 = some (.iload 11, 2) := by decide +kernel
theorem r_259_200 : xfetch 259 200 = some (.aload_n 0, 1) := by decide +kernel
theorem n_259_200 : ∀ l, xpr 259 200 l = l := xpr_no (by decide +kernel)
theorem r_259_201 : xfetch 259 201 = some (.iload_n 1, 1) := by decide +kernel
theorem n_259_201 : ∀ l, xpr 259 201 l = l := xpr_no (by decide +kernel)
theorem r_259_202 : xfetch 259 202 = some (.iconst 1, 1) := by decide +kernel
theorem n_259_202 : ∀ l, xpr 259 202 l = l := xpr_no (by decide +kernel)
theorem r_259_203 : xfetch 259 203 = some (.invokevirtual 228, 3) := by decide +kernel
theorem n_259_203 : ∀ l, xpr 259 203 l = l := xpr_no (by decide +kernel)
theorem r_259_206 : xfetch 259 206 = some (.if_icmp .ge 37, 3) := by decide +kernel
theorem n_259_206 : ∀ l, xpr 259 206 l = l := xpr_no (by decide +kernel)
theorem r_259_209 : xfetch 259 209 = some (.iload 10, 2) := by decide +kernel
theorem n_259_209 : ∀ l, xpr 259 209 l = l := xpr_no (by decide +kernel)
theorem r_259_211 : xfetch 259 211 = some (.iconst (-1), 1) := by decide +kernel
theorem n_259_211 : ∀ l, xpr 259 211 l = l := xpr_no (by decide +kernel)
theorem r_259_212 : xfetch 259 212 = some (.if_icmp .eq 31, 3) := by decide +kernel
theorem n_259_212 : ∀ l, xpr 259 212 l = l := xpr_no (by decide +kernel)
theorem r_259_215 : xfetch 259 215 = some (.aload_n 0, 1) := by decide +kernel
theorem n_259_215 : ∀ l, xpr 259 215 l = l := xpr_no (by decide +kernel)
theorem r_259_216 : xfetch 259 216 = some (.iload_n 1, 1) := by decide +kernel
theorem n_259_216 : ∀ l, xpr 259 216 l = l := xpr_no (by decide +kernel)
theorem r_259_217 : xfetch 259 217 = some (.iload 11, 2) := by decide +kernel
theorem n_259_217 : ∀ l, xpr 259 217 l = l := xpr_no (by decide +kernel)
theorem r_259_219 : xfetch 259 219 = some (.iload 9, 2) := by decide +kernel
theorem n_259_219 : ∀ l, xpr 259 219 l = l := xpr_no (by decide +kernel)
theorem r_259_221 : xfetch 259 221 = some (.aload_n 0, 1) := by decide +kernel
theorem n_259_221 : ∀ l, xpr 259 221 l = l := xpr_no (by decide +kernel)
theorem r_259_222 : xfetch 259 222 = some (.getfield 67, 3) := by decide +kernel
theorem n_259_222 : ∀ l, xpr 259 222 l = l := xpr_no (by decide +kernel)
theorem r_259_225 : xfetch 259 225 = some (.bipush 40, 2) := by decide +kernel
theorem n_259_225 : ∀ l, xpr 259 225 l = l := xpr_no (by decide +kernel)
theorem r_259_227 : xfetch 259 227 = some (.iload 11, 2) := by decide +kernel
theorem n_259_227 : ∀ l, xpr 259 227 l = l := xpr_no (by decide +kernel)
theorem r_259_229 : xfetch 259 229 = some (.imul, 1) := by decide +kernel
theorem n_259_229 : ∀ l, xpr 259 229 l = l := xpr_no (by decide +kernel)
theorem r_259_230 : xfetch 259 230 = some (.iload 10, 2) := by decide +kernel
theorem n_259_230 : ∀ l, xpr 259 230 l = l := xpr_no (by decide +kernel)
theorem r_259_232 : xfetch 259 232 = some (.iadd, 1) := by decide +kernel
theorem n_259_232 : ∀ l, xpr 259 232 l = l := xpr_no (by decide +kernel)
theorem r_259_233 : xfetch 259 233 = some (.laload, 1) := by decide +kernel
theorem n_259_233 : ∀ l, xpr 259 233 l = l := xpr_no (by decide +kernel)
theorem r_259_234 : xfetch 259 234 = some (.invokevirtual 281, 3) := by decide +kernel
theorem n_259_234 : ∀ l, xpr 259 234 l = l := xpr_no (by decide +kernel)
theorem r_259_237 : xfetch 259 237 = some (.iinc 11 1, 3) := by decide +kernel
theorem n_259_237 : ∀ l, xpr 259 237 l = l := xpr_no (by decide +kernel)
theorem r_259_240 : xfetch 259 240 = some (.goto (-42), 3) := by decide +kernel
theorem n_259_240 : ∀ l, xpr 259 240 l = l := xpr_no (by decide +kernel)
theorem r_259_243 : xfetch 259 243 = some (.iinc 9 1, 3) := by decide +kernel
theorem n_259_243 : ∀ l, xpr 259 243 l = l := xpr_no (by decide +kernel)
theorem r_259_246 : xfetch 259 246 = some (.goto (-89), 3) := by decide +kernel
theorem n_259_246 : ∀ l, xpr 259 246 l = l := xpr_no (by decide +kernel)
theorem r_259_249 : xfetch 259 249 = some (.iload 8, 2) := by decide +kernel
theorem n_259_249 : ∀ l, xpr 259 249 l = l := xpr_no (by decide +kernel)
theorem r_259_251 : xfetch 259 251 = some (.ireturn, 1) := by decide +kernel
theorem n_259_251 : ∀ l, xpr 259 251 l = l := xpr_no (by decide +kernel)
theorem v_Model_migrate_0 {S : Option (Nat × (Nat → Int32))} {s : zSt} {Q : Option Value ⊕ Nat → zSt → Prop} {x1 : Int} {x2 : Int} {x3 : Int} 
    (h : rng x1 ∧ ((¬ (0 ≤ x1 ∧ x1 ≤ 2 ∧ zI s 253 (157 + 6 * x1) ≠ -1) → rng x3 ∧ (wp S 259 75 [(0, rf 252), (1, iv x1), (2, iv x2), (3, iv x3), (4, iv 0), (5, iv (bi (0 ≤ x3 ∧ x3 ≤ 8))), (6, iv (-1))] [] s Q)) ∧ (0 ≤ x1 ∧ x1 ≤ 2 ∧ zI s 253 (157 + 6 * x1) ≠ -1 → rng x2 ∧ (rng ((zI s 253 0) - 1) ∧ ((¬ (0 ≤ x2 ∧ x2 ≤ ((zI s 253 0) - 1)) → rng x3 ∧ (wp S 259 75 [(0, rf 252), (1, iv x1), (2, iv x2), (3, iv x3), (4, iv 0), (5, iv (bi (0 ≤ x3 ∧ x3 ≤ 8))), (6, iv (-1))] [] s Q)) ∧ (0 ≤ x2 ∧ x2 ≤ ((zI s 253 0) - 1) → rng x3 ∧ ((¬ (0 ≤ x3 ∧ x3 ≤ 8) → wp S 259 75 [(0, rf 252), (1, iv x1), (2, iv x2), (3, iv x3), (4, iv 1), (5, iv (bi (0 ≤ x3 ∧ x3 ≤ 8))), (6, iv (-1))] [] s Q) ∧ (0 ≤ x3 ∧ x3 ≤ 8 → (0 ≤ ((1 + (26 * x2)) + 1) ∧ ((1 + (26 * x2)) + 1) < 1199) ∧ (((zI s 253 ((1 + (26 * x2)) + 1)) ≤ 0 → wp S 259 75 [(0, rf 252), (1, iv x1), (2, iv x2), (3, iv x3), (4, iv 1), (5, iv (bi (0 ≤ x3 ∧ x3 ≤ 8))), (6, iv (-1))] [] s Q) ∧ (0 < (zI s 253 ((1 + (26 * x2)) + 1)) → wp S 193 0 [(0, rf 252)] [] s (fun o19 s19 => zkU ((0 ≤ ((157 + (6 * x1)) + 1) ∧ ((157 + (6 * x1)) + 1) < 1199) ∧ (wp S 230 0 [(0, rf 252), (1, iv x2), (2, iv (zI s19 253 ((157 + (6 * x1)) + 1))), (3, iv x3)] [] s19 (fun o24 s24 => zkI (fun y24 => wp S 233 0 [(0, rf 252), (1, iv y24)] [] s24 (fun o26 s26 => zkI (fun y26 => wp S 259 75 [(0, rf 252), (1, iv x1), (2, iv x2), (3, iv x3), (4, iv 1), (5, iv (bi (0 ≤ x3 ∧ x3 ≤ 8))), (6, iv y26)] [] s26 Q) (fun e26 => False) o26)) (fun e24 => False) o24))) (fun e19 => False) o19))))))))))) :
    wp S 259 0 [(0, rf 252), (1, iv x1), (2, iv x2), (3, iv x3)] [] s Q := by
  refine i_aload_n (a := 252) r_259_0 (n_259_0 _) rfl ?_
  refine i_iload_n (x := x1) r_259_1 (n_259_1 _) rfl ?_
  obtain ⟨g1, h⟩ := h
  refine wp_virt (b := 252) (rest := []) (Ls := [(0, rf 252), (1, iv x1)]) r_259_2 (n_259_2 _) rfl ⟨rfl, rfl, by decide, by decide⟩ rfl rfl lf_252 ⟨rfl, Nat.le_of_ble_eq_true rfl, Nat.le_of_ble_eq_true rfl⟩ rfl (K_Model_isTable g1) ?_
  rintro _ _ ⟨rfl, rfl⟩
  refine .inl ⟨some (iv (bi (0 ≤ x1 ∧ x1 ≤ 2 ∧ zI s 253 (157 + 6 * x1) ≠ -1))), rfl, ?_⟩
  show wp S 259 5 [(0, rf 252), (1, iv x1), (2, iv x2), (3, iv x3)] [iv (bi (0 ≤ x1 ∧ x1 ≤ 2 ∧ zI s 253 (157 + 6 * x1) ≠ -1))] s Q
  refine i_if (t := 20) r_259_5 (n_259_5 _) rfl (TB_eq) (fun c3 => ?_) (fun c3 => ?_)
  · replace h := h.1 c3
    refine i_iconst r_259_20 (n_259_20 _) ?_
    refine i_istore (l' := [(0, rf 252), (1, iv x1), (2, iv x2), (3, iv x3), (4, iv 0)]) r_259_21 (n_259_21 _) (by decide) rfl ?_
    refine i_iload_n (x := x3) r_259_23 (n_259_23 _) rfl ?_
    refine i_iconst r_259_24 (n_259_24 _) ?_
    refine i_bipush r_259_25 (n_259_25 _) rfl ?_
    obtain ⟨g4, h⟩ := h
    refine wp_stat (rest := []) (Ls := [(0, iv x3), (1, iv 0), (2, iv 8)]) r_259_27 (n_259_27 _) rfl ⟨rfl, by decide, by decide, by decide⟩ rfl rfl ⟨rfl, Nat.le_of_ble_eq_true rfl, Nat.le_of_ble_eq_true rfl⟩ rfl (K_Model_within g4 ⟨by omega, by omega⟩ ⟨by omega, by omega⟩) ?_
    rintro _ _ ⟨rfl, rfl⟩
    refine .inl ⟨some (iv (bi (0 ≤ x3 ∧ x3 ≤ 8))), rfl, ?_⟩
    show wp S 259 30 [(0, rf 252), (1, iv x1), (2, iv x2), (3, iv x3), (4, iv 0)] [iv (bi (0 ≤ x3 ∧ x3 ≤ 8))] s Q
    refine i_istore (l' := [(0, rf 252), (1, iv x1), (2, iv x2), (3, iv x3), (4, iv 0), (5, iv (bi (0 ≤ x3 ∧ x3 ≤ 8)))]) r_259_30 (n_259_30 _) (by decide) rfl ?_
    refine i_iconst r_259_32 (n_259_32 _) ?_
    refine i_istore (l' := [(0, rf 252), (1, iv x1), (2, iv x2), (3, iv x3), (4, iv 0), (5, iv (bi (0 ≤ x3 ∧ x3 ≤ 8))), (6, iv (-1))]) r_259_33 (n_259_33 _) (by decide) rfl ?_
    refine i_iload (x := 0) r_259_35 (n_259_35 _) rfl ?_
    refine i_if (t := 75) r_259_37 (n_259_37 _) rfl (T_eq ⟨by omega, by omega⟩ ⟨by omega, by omega⟩) (fun _ => ?_) (fun z => absurd z (by omega))
    exact wp_pr (l' := [(0, rf 252), (1, iv x1), (2, iv x2), (3, iv x3), (4, iv 0), (5, iv (bi (0 ≤ x3 ∧ x3 ≤ 8))), (6, iv (-1))]) rfl h
  · replace h := h.2 c3
    refine i_aload_n (a := 252) r_259_8 (n_259_8 _) rfl ?_
    refine i_iload_n (x := x2) r_259_9 (n_259_9 _) rfl ?_
    obtain ⟨g6, h⟩ := h
    obtain ⟨g7, h⟩ := h
    refine wp_virt (b := 252) (rest := []) (Ls := [(0, rf 252), (1, iv x2)]) r_259_10 (n_259_10 _) rfl ⟨rfl, rfl, by decide, by decide⟩ rfl rfl lf_252 ⟨rfl, Nat.le_of_ble_eq_true rfl, Nat.le_of_ble_eq_true rfl⟩ rfl (K_Model_isRecord g6 g7) ?_
    rintro _ _ ⟨rfl, rfl⟩
    refine .inl ⟨some (iv (bi (0 ≤ x2 ∧ x2 ≤ ((zI s 253 0) - 1)))), rfl, ?_⟩
    show wp S 259 13 [(0, rf 252), (1, iv x1), (2, iv x2), (3, iv x3)] [iv (bi (0 ≤ x2 ∧ x2 ≤ ((zI s 253 0) - 1)))] s Q
    refine i_if (t := 20) r_259_13 (n_259_13 _) rfl (TB_eq) (fun c9 => ?_) (fun c9 => ?_)
    · replace h := h.1 c9
      refine i_iconst r_259_20 (n_259_20 _) ?_
      refine i_istore (l' := [(0, rf 252), (1, iv x1), (2, iv x2), (3, iv x3), (4, iv 0)]) r_259_21 (n_259_21 _) (by decide) rfl ?_
      refine i_iload_n (x := x3) r_259_23 (n_259_23 _) rfl ?_
      refine i_iconst r_259_24 (n_259_24 _) ?_
      refine i_bipush r_259_25 (n_259_25 _) rfl ?_
      obtain ⟨g10, h⟩ := h
      refine wp_stat (rest := []) (Ls := [(0, iv x3), (1, iv 0), (2, iv 8)]) r_259_27 (n_259_27 _) rfl ⟨rfl, by decide, by decide, by decide⟩ rfl rfl ⟨rfl, Nat.le_of_ble_eq_true rfl, Nat.le_of_ble_eq_true rfl⟩ rfl (K_Model_within g10 ⟨by omega, by omega⟩ ⟨by omega, by omega⟩) ?_
      rintro _ _ ⟨rfl, rfl⟩
      refine .inl ⟨some (iv (bi (0 ≤ x3 ∧ x3 ≤ 8))), rfl, ?_⟩
      show wp S 259 30 [(0, rf 252), (1, iv x1), (2, iv x2), (3, iv x3), (4, iv 0)] [iv (bi (0 ≤ x3 ∧ x3 ≤ 8))] s Q
      refine i_istore (l' := [(0, rf 252), (1, iv x1), (2, iv x2), (3, iv x3), (4, iv 0), (5, iv (bi (0 ≤ x3 ∧ x3 ≤ 8)))]) r_259_30 (n_259_30 _) (by decide) rfl ?_
      refine i_iconst r_259_32 (n_259_32 _) ?_
      refine i_istore (l' := [(0, rf 252), (1, iv x1), (2, iv x2), (3, iv x3), (4, iv 0), (5, iv (bi (0 ≤ x3 ∧ x3 ≤ 8))), (6, iv (-1))]) r_259_33 (n_259_33 _) (by decide) rfl ?_
      refine i_iload (x := 0) r_259_35 (n_259_35 _) rfl ?_
      refine i_if (t := 75) r_259_37 (n_259_37 _) rfl (T_eq ⟨by omega, by omega⟩ ⟨by omega, by omega⟩) (fun _ => ?_) (fun z => absurd z (by omega))
      exact wp_pr (l' := [(0, rf 252), (1, iv x1), (2, iv x2), (3, iv x3), (4, iv 0), (5, iv (bi (0 ≤ x3 ∧ x3 ≤ 8))), (6, iv (-1))]) rfl h
    · replace h := h.2 c9
      refine i_iconst r_259_16 (n_259_16 _) ?_
      refine i_goto (t := 21) r_259_17 (n_259_17 _) rfl ?_
      refine i_istore (l' := [(0, rf 252), (1, iv x1), (2, iv x2), (3, iv x3), (4, iv 1)]) r_259_21 (n_259_21 _) (by decide) rfl ?_
      refine i_iload_n (x := x3) r_259_23 (n_259_23 _) rfl ?_
      refine i_iconst r_259_24 (n_259_24 _) ?_
      refine i_bipush r_259_25 (n_259_25 _) rfl ?_
      obtain ⟨g12, h⟩ := h
      refine wp_stat (rest := []) (Ls := [(0, iv x3), (1, iv 0), (2, iv 8)]) r_259_27 (n_259_27 _) rfl ⟨rfl, by decide, by decide, by decide⟩ rfl rfl ⟨rfl, Nat.le_of_ble_eq_true rfl, Nat.le_of_ble_eq_true rfl⟩ rfl (K_Model_within g12 ⟨by omega, by omega⟩ ⟨by omega, by omega⟩) ?_
      rintro _ _ ⟨rfl, rfl⟩
      refine .inl ⟨some (iv (bi (0 ≤ x3 ∧ x3 ≤ 8))), rfl, ?_⟩
      show wp S 259 30 [(0, rf 252), (1, iv x1), (2, iv x2), (3, iv x3), (4, iv 1)] [iv (bi (0 ≤ x3 ∧ x3 ≤ 8))] s Q
      refine i_istore (l' := [(0, rf 252), (1, iv x1), (2, iv x2), (3, iv x3), (4, iv 1), (5, iv (bi (0 ≤ x3 ∧ x3 ≤ 8)))]) r_259_30 (n_259_30 _) (by decide) rfl ?_
      refine i_iconst r_259_32 (n_259_32 _) ?_
      refine i_istore (l' := [(0, rf 252), (1, iv x1), (2, iv x2), (3, iv x3), (4, iv 1), (5, iv (bi (0 ≤ x3 ∧ x3 ≤ 8))), (6, iv (-1))]) r_259_33 (n_259_33 _) (by decide) rfl ?_
      refine i_iload (x := 1) r_259_35 (n_259_35 _) rfl ?_
      refine i_if (t := 75) r_259_37 (n_259_37 _) rfl (T_eq ⟨by omega, by omega⟩ ⟨by omega, by omega⟩) (fun z => absurd z (by omega)) (fun _ => ?_)
      refine i_iload (x := bi (0 ≤ x3 ∧ x3 ≤ 8)) r_259_40 (n_259_40 _) rfl ?_
      refine i_if (t := 75) r_259_42 (n_259_42 _) rfl (TB_eq) (fun c14 => ?_) (fun c14 => ?_)
      · replace h := h.1 c14
        exact wp_pr (l' := [(0, rf 252), (1, iv x1), (2, iv x2), (3, iv x3), (4, iv 1), (5, iv (bi (0 ≤ x3 ∧ x3 ≤ 8))), (6, iv (-1))]) rfl h
      · replace h := h.2 c14
        refine i_aload_n (a := 252) r_259_45 (n_259_45 _) rfl ?_
        refine i_iload_n (x := x2) r_259_46 (n_259_46 _) rfl ?_
        obtain ⟨g15, h⟩ := h
        refine wp_virt (b := 252) (rest := []) (Ls := [(0, rf 252), (1, iv x2)]) r_259_47 (n_259_47 _) rfl ⟨rfl, rfl, by decide, by decide⟩ rfl rfl lf_252 ⟨rfl, Nat.le_of_ble_eq_true rfl, Nat.le_of_ble_eq_true rfl⟩ rfl (K_Model_fieldsOf g15) ?_
        rintro _ _ ⟨rfl, rfl⟩
        refine .inl ⟨some (iv (zI s 253 ((1 + (26 * x2)) + 1))), rfl, ?_⟩
        show wp S 259 50 [(0, rf 252), (1, iv x1), (2, iv x2), (3, iv x3), (4, iv 1), (5, iv (bi (0 ≤ x3 ∧ x3 ≤ 8))), (6, iv (-1))] [iv (zI s 253 ((1 + (26 * x2)) + 1))] s Q
        refine wp_rd (a := 253) (j := ((1 + (26 * x2)) + 1)) (fun q17 => ?_)
        refine i_if (t := 75) r_259_50 (n_259_50 _) rfl (T_le q17 ⟨by omega, by omega⟩) (fun c18 => ?_) (fun c18 => ?_)
        · replace h := h.1 c18
          exact wp_pr (l' := [(0, rf 252), (1, iv x1), (2, iv x2), (3, iv x3), (4, iv 1), (5, iv (bi (0 ≤ x3 ∧ x3 ≤ 8))), (6, iv (-1))]) rfl h
        · replace h := h.2 c18
          refine i_aload_n (a := 252) r_259_53 (n_259_53 _) rfl ?_
          refine wp_virt (b := 252) (rest := []) (Ls := [(0, rf 252)]) r_259_54 (n_259_54 _) rfl ⟨rfl, rfl, by decide, by decide⟩ rfl rfl lf_252 ⟨rfl, Nat.le_of_ble_eq_true rfl, Nat.le_of_ble_eq_true rfl⟩ rfl h ?_
          intro o19 s19 h
          rcases h with ⟨rfl, h⟩ | ⟨e19, rfl, h⟩
          · refine .inl ⟨none, rfl, ?_⟩
            refine i_aload_n (a := 252) r_259_57 (n_259_57 _) rfl ?_
            refine i_aload_n (a := 252) r_259_58 (n_259_58 _) rfl ?_
            refine i_iload_n (x := x2) r_259_59 (n_259_59 _) rfl ?_
            refine i_aload_n (a := 252) r_259_60 (n_259_60 _) rfl ?_
            refine i_iload_n (x := x1) r_259_61 (n_259_61 _) rfl ?_
            refine i_iconst r_259_62 (n_259_62 _) ?_
            obtain ⟨g21, h⟩ := h
            refine wp_virt (b := 252) (rest := [iv x2, rf 252, rf 252]) (Ls := [(0, rf 252), (1, iv x1), (2, iv 1)]) r_259_63 (n_259_63 _) rfl ⟨rfl, rfl, by decide, by decide⟩ rfl rfl lf_252 ⟨rfl, Nat.le_of_ble_eq_true rfl, Nat.le_of_ble_eq_true rfl⟩ rfl (K_Model_of g21) ?_
            rintro _ _ ⟨rfl, rfl⟩
            refine .inl ⟨some (iv (zI s19 253 ((157 + (6 * x1)) + 1))), rfl, ?_⟩
            show wp S 259 66 [(0, rf 252), (1, iv x1), (2, iv x2), (3, iv x3), (4, iv 1), (5, iv (bi (0 ≤ x3 ∧ x3 ≤ 8))), (6, iv (-1))] [iv (zI s19 253 ((157 + (6 * x1)) + 1)), iv x2, rf 252, rf 252] s19 Q
            refine wp_rd (a := 253) (j := ((157 + (6 * x1)) + 1)) (fun q23 => ?_)
            refine i_iload_n (x := x3) r_259_66 (n_259_66 _) rfl ?_
            refine wp_virt (b := 252) (rest := [rf 252]) (Ls := [(0, rf 252), (1, iv x2), (2, iv (zI s19 253 ((157 + (6 * x1)) + 1))), (3, iv x3)]) r_259_67 (n_259_67 _) rfl ⟨rfl, rfl, by decide, by decide⟩ rfl rfl lf_252 ⟨rfl, Nat.le_of_ble_eq_true rfl, Nat.le_of_ble_eq_true rfl⟩ rfl h ?_
            intro o24 s24 h
            rcases h with ⟨y24, q25, rfl, h⟩ | ⟨e24, rfl, h⟩
            · refine .inl ⟨some (iv y24), rfl, ?_⟩
              show wp S 259 70 [(0, rf 252), (1, iv x1), (2, iv x2), (3, iv x3), (4, iv 1), (5, iv (bi (0 ≤ x3 ∧ x3 ≤ 8))), (6, iv (-1))] [iv y24, rf 252] s24 Q
              refine wp_virt (b := 252) (rest := []) (Ls := [(0, rf 252), (1, iv y24)]) r_259_70 (n_259_70 _) rfl ⟨rfl, rfl, by decide, by decide⟩ rfl rfl lf_252 ⟨rfl, Nat.le_of_ble_eq_true rfl, Nat.le_of_ble_eq_true rfl⟩ rfl h ?_
              intro o26 s26 h
              rcases h with ⟨y26, q27, rfl, h⟩ | ⟨e26, rfl, h⟩
              · refine .inl ⟨some (iv y26), rfl, ?_⟩
                show wp S 259 73 [(0, rf 252), (1, iv x1), (2, iv x2), (3, iv x3), (4, iv 1), (5, iv (bi (0 ≤ x3 ∧ x3 ≤ 8))), (6, iv (-1))] [iv y26] s26 Q
                refine i_istore (l' := [(0, rf 252), (1, iv x1), (2, iv x2), (3, iv x3), (4, iv 1), (5, iv (bi (0 ≤ x3 ∧ x3 ≤ 8))), (6, iv y26)]) r_259_73 (n_259_73 _) (by decide) rfl ?_
                exact wp_pr (l' := [(0, rf 252), (1, iv x1), (2, iv x2), (3, iv x3), (4, iv 1), (5, iv (bi (0 ≤ x3 ∧ x3 ≤ 8))), (6, iv y26)]) rfl h
              · skip
                exact h.elim
            · skip
              exact h.elim
          · skip
            exact h.elim
theorem v_Model_migrate_75 {S : Option (Nat × (Nat → Int32))} {s : zSt} {Q : Option Value ⊕ Nat → zSt → Prop} {x1 : Int} {x2 : Int} {x3 : Int} {x4 : Int} {x5 : Int} {x6 : Int} 
    (h : rng x4 ∧ ((x4 ≠ 0 → rng x5 ∧ ((x5 ≠ 0 → rng x6 ∧ ((x6 ≠ (-1) → wp S 182 0 [(0, rf 252)] [] (zwI s 252 3 0) (fun o8 s8 => zkU (wp S 258 0 [(0, rf 252), (1, iv x1)] [] s8 (fun o10 s10 => zkU ((0 ≤ ((157 + (6 * x1)) + 0) ∧ ((157 + (6 * x1)) + 0) < 1199) ∧ ((0 ≤ ((157 + (6 * x1)) + 1) ∧ ((157 + (6 * x1)) + 1) < 1199) ∧ ((0 ≤ ((157 + (6 * x1)) + 3) ∧ ((157 + (6 * x1)) + 3) < 1199) ∧ (wp S 237 0 [(0, rf 252), (1, iv x1), (2, iv x2), (3, iv (zI s10 253 ((157 + (6 * x1)) + 1))), (4, iv x3), (5, iv (zI s10 253 ((157 + (6 * x1)) + 3))), (6, iv x6)] [] s10 (fun o21 s21 => zkU (wp S 259 157 [(0, rf 252), (1, iv x1), (2, iv x2), (7, iv (zI s10 253 ((157 + (6 * x1)) + 0))), (8, iv 0), (9, iv 0)] [] s21 Q) (fun e21 => False) o21))))) (fun e10 => False) o10)) (fun e8 => False) o8)) ∧ (x6 = (-1) → Q (rI 0) (zwI s 252 3 3)))) ∧ (x5 = 0 → Q (rI 0) (zwI s 252 3 2)))) ∧ (x4 = 0 → Q (rI 0) (zwI s 252 3 1)))) :
    wp S 259 75 [(0, rf 252), (1, iv x1), (2, iv x2), (3, iv x3), (4, iv x4), (5, iv x5), (6, iv x6)] [] s Q := by
  refine i_aload_n (a := 252) r_259_75 rfl rfl ?_
  refine i_iload (x := x4) r_259_76 (n_259_76 _) rfl ?_
  obtain ⟨g1, h⟩ := h
  refine i_if (t := 85) r_259_78 (n_259_78 _) rfl (T_ne g1 ⟨by omega, by omega⟩) (fun c2 => ?_) (fun c2 => ?_)
  · replace h := h.1 c2
    refine i_iload (x := x5) r_259_85 (n_259_85 _) rfl ?_
    obtain ⟨g3, h⟩ := h
    refine i_if (t := 94) r_259_87 (n_259_87 _) rfl (T_ne g3 ⟨by omega, by omega⟩) (fun c4 => ?_) (fun c4 => ?_)
    · replace h := h.1 c4
      refine i_iload (x := x6) r_259_94 (n_259_94 _) rfl ?_
      refine i_iconst r_259_96 (n_259_96 _) ?_
      obtain ⟨g5, h⟩ := h
      refine i_icmp (t := 104) r_259_97 (n_259_97 _) rfl (T_ne g5 ⟨by omega, by omega⟩) (fun c6 => ?_) (fun c6 => ?_)
      · replace h := h.1 c6
        refine i_iconst r_259_104 (n_259_104 _) ?_
        refine wp_virt (b := 252) (rest := []) (Ls := [(0, rf 252), (1, iv 0)]) r_259_105 (n_259_105 _) rfl ⟨rfl, rfl, by decide, by decide⟩ rfl rfl lf_252 ⟨rfl, Nat.le_of_ble_eq_true rfl, Nat.le_of_ble_eq_true rfl⟩ rfl K_Model_refused0 ?_
        rintro _ _ ⟨rfl, rfl⟩
        refine .inl ⟨some (iv 0), rfl, ?_⟩
        show wp S 259 108 [(0, rf 252), (1, iv x1), (2, iv x2), (3, iv x3), (4, iv x4), (5, iv x5), (6, iv x6)] [iv 0] (zwI s 252 3 0) Q
        refine i_if (t := 113) r_259_108 (n_259_108 _) rfl (T_eq ⟨by omega, by omega⟩ ⟨by omega, by omega⟩) (fun _ => ?_) (fun z => absurd z (by omega))
        refine i_aload_n (a := 252) r_259_113 (n_259_113 _) rfl ?_
        refine wp_virt (b := 252) (rest := []) (Ls := [(0, rf 252)]) r_259_114 (n_259_114 _) rfl ⟨rfl, rfl, by decide, by decide⟩ rfl rfl lf_252 ⟨rfl, Nat.le_of_ble_eq_true rfl, Nat.le_of_ble_eq_true rfl⟩ rfl h ?_
        intro o8 s8 h
        rcases h with ⟨rfl, h⟩ | ⟨e8, rfl, h⟩
        · refine .inl ⟨none, rfl, ?_⟩
          refine i_aload_n (a := 252) r_259_117 (n_259_117 _) rfl ?_
          refine i_iload_n (x := x1) r_259_118 (n_259_118 _) rfl ?_
          refine wp_virt (b := 252) (rest := []) (Ls := [(0, rf 252), (1, iv x1)]) r_259_119 (n_259_119 _) rfl ⟨rfl, rfl, by decide, by decide⟩ rfl rfl lf_252 ⟨rfl, Nat.le_of_ble_eq_true rfl, Nat.le_of_ble_eq_true rfl⟩ rfl h ?_
          intro o10 s10 h
          rcases h with ⟨rfl, h⟩ | ⟨e10, rfl, h⟩
          · refine .inl ⟨none, rfl, ?_⟩
            refine i_aload_n (a := 252) r_259_122 (n_259_122 _) rfl ?_
            refine i_iload_n (x := x1) r_259_123 (n_259_123 _) rfl ?_
            refine i_iconst r_259_124 (n_259_124 _) ?_
            obtain ⟨g12, h⟩ := h
            refine wp_virt (b := 252) (rest := []) (Ls := [(0, rf 252), (1, iv x1), (2, iv 0)]) r_259_125 (n_259_125 _) rfl ⟨rfl, rfl, by decide, by decide⟩ rfl rfl lf_252 ⟨rfl, Nat.le_of_ble_eq_true rfl, Nat.le_of_ble_eq_true rfl⟩ rfl (K_Model_of g12) ?_
            rintro _ _ ⟨rfl, rfl⟩
            refine .inl ⟨some (iv (zI s10 253 ((157 + (6 * x1)) + 0))), rfl, ?_⟩
            show wp S 259 128 [(0, rf 252), (1, iv x1), (2, iv x2), (3, iv x3), (4, iv x4), (5, iv x5), (6, iv x6)] [iv (zI s10 253 ((157 + (6 * x1)) + 0))] s10 Q
            refine wp_rd (a := 253) (j := ((157 + (6 * x1)) + 0)) (fun q14 => ?_)
            refine i_istore (l' := [(0, rf 252), (1, iv x1), (2, iv x2), (3, iv x3), (4, iv x4), (5, iv x5), (6, iv x6), (7, iv (zI s10 253 ((157 + (6 * x1)) + 0)))]) r_259_128 (n_259_128 _) (by decide) rfl ?_
            refine i_aload_n (a := 252) r_259_130 (n_259_130 _) rfl ?_
            refine i_iload_n (x := x1) r_259_131 (n_259_131 _) rfl ?_
            refine i_iload_n (x := x2) r_259_132 (n_259_132 _) rfl ?_
            refine i_aload_n (a := 252) r_259_133 (n_259_133 _) rfl ?_
            refine i_iload_n (x := x1) r_259_134 (n_259_134 _) rfl ?_
            refine i_iconst r_259_135 (n_259_135 _) ?_
            obtain ⟨g15, h⟩ := h
            refine wp_virt (b := 252) (rest := [iv x2, iv x1, rf 252]) (Ls := [(0, rf 252), (1, iv x1), (2, iv 1)]) r_259_136 (n_259_136 _) rfl ⟨rfl, rfl, by decide, by decide⟩ rfl rfl lf_252 ⟨rfl, Nat.le_of_ble_eq_true rfl, Nat.le_of_ble_eq_true rfl⟩ rfl (K_Model_of g15) ?_
            rintro _ _ ⟨rfl, rfl⟩
            refine .inl ⟨some (iv (zI s10 253 ((157 + (6 * x1)) + 1))), rfl, ?_⟩
            show wp S 259 139 [(0, rf 252), (1, iv x1), (2, iv x2), (3, iv x3), (4, iv x4), (5, iv x5), (6, iv x6), (7, iv (zI s10 253 ((157 + (6 * x1)) + 0)))] [iv (zI s10 253 ((157 + (6 * x1)) + 1)), iv x2, iv x1, rf 252] s10 Q
            refine wp_rd (a := 253) (j := ((157 + (6 * x1)) + 1)) (fun q17 => ?_)
            refine i_iload_n (x := x3) r_259_139 (n_259_139 _) rfl ?_
            refine i_aload_n (a := 252) r_259_140 (n_259_140 _) rfl ?_
            refine i_iload_n (x := x1) r_259_141 (n_259_141 _) rfl ?_
            refine i_iconst r_259_142 (n_259_142 _) ?_
            obtain ⟨g18, h⟩ := h
            refine wp_virt (b := 252) (rest := [iv x3, iv (zI s10 253 ((157 + (6 * x1)) + 1)), iv x2, iv x1, rf 252]) (Ls := [(0, rf 252), (1, iv x1), (2, iv 3)]) r_259_143 (n_259_143 _) rfl ⟨rfl, rfl, by decide, by decide⟩ rfl rfl lf_252 ⟨rfl, Nat.le_of_ble_eq_true rfl, Nat.le_of_ble_eq_true rfl⟩ rfl (K_Model_of g18) ?_
            rintro _ _ ⟨rfl, rfl⟩
            refine .inl ⟨some (iv (zI s10 253 ((157 + (6 * x1)) + 3))), rfl, ?_⟩
            show wp S 259 146 [(0, rf 252), (1, iv x1), (2, iv x2), (3, iv x3), (4, iv x4), (5, iv x5), (6, iv x6), (7, iv (zI s10 253 ((157 + (6 * x1)) + 0)))] [iv (zI s10 253 ((157 + (6 * x1)) + 3)), iv x3, iv (zI s10 253 ((157 + (6 * x1)) + 1)), iv x2, iv x1, rf 252] s10 Q
            refine wp_rd (a := 253) (j := ((157 + (6 * x1)) + 3)) (fun q20 => ?_)
            refine i_iload (x := x6) r_259_146 (n_259_146 _) rfl ?_
            refine wp_virt (b := 252) (rest := []) (Ls := [(0, rf 252), (1, iv x1), (2, iv x2), (3, iv (zI s10 253 ((157 + (6 * x1)) + 1))), (4, iv x3), (5, iv (zI s10 253 ((157 + (6 * x1)) + 3))), (6, iv x6)]) r_259_148 (n_259_148 _) rfl ⟨rfl, rfl, by decide, by decide⟩ rfl rfl lf_252 ⟨rfl, Nat.le_of_ble_eq_true rfl, Nat.le_of_ble_eq_true rfl⟩ rfl h ?_
            intro o21 s21 h
            rcases h with ⟨rfl, h⟩ | ⟨e21, rfl, h⟩
            · refine .inl ⟨none, rfl, ?_⟩
              refine i_iconst r_259_151 (n_259_151 _) ?_
              refine i_istore (l' := [(0, rf 252), (1, iv x1), (2, iv x2), (3, iv x3), (4, iv x4), (5, iv x5), (6, iv x6), (7, iv (zI s10 253 ((157 + (6 * x1)) + 0))), (8, iv 0)]) r_259_152 (n_259_152 _) (by decide) rfl ?_
              refine i_iconst r_259_154 (n_259_154 _) ?_
              refine i_istore (l' := [(0, rf 252), (1, iv x1), (2, iv x2), (3, iv x3), (4, iv x4), (5, iv x5), (6, iv x6), (7, iv (zI s10 253 ((157 + (6 * x1)) + 0))), (8, iv 0), (9, iv 0)]) r_259_155 (n_259_155 _) (by decide) rfl ?_
              exact wp_pr (l' := [(0, rf 252), (1, iv x1), (2, iv x2), (7, iv (zI s10 253 ((157 + (6 * x1)) + 0))), (8, iv 0), (9, iv 0)]) rfl h
            · skip
              exact h.elim
          · skip
            exact h.elim
        · skip
          exact h.elim
      · replace h := h.2 c6
        refine i_iconst r_259_100 (n_259_100 _) ?_
        refine i_goto (t := 105) r_259_101 (n_259_101 _) rfl ?_
        refine wp_virt (b := 252) (rest := []) (Ls := [(0, rf 252), (1, iv 3)]) r_259_105 (n_259_105 _) rfl ⟨rfl, rfl, by decide, by decide⟩ rfl rfl lf_252 ⟨rfl, Nat.le_of_ble_eq_true rfl, Nat.le_of_ble_eq_true rfl⟩ rfl (K_Model_refused1 ⟨by omega, by omega⟩ (by omega)) ?_
        rintro _ _ ⟨rfl, rfl⟩
        refine .inl ⟨some (iv 1), rfl, ?_⟩
        show wp S 259 108 [(0, rf 252), (1, iv x1), (2, iv x2), (3, iv x3), (4, iv x4), (5, iv x5), (6, iv x6)] [iv 1] (zwI s 252 3 3) Q
        refine i_if (t := 113) r_259_108 (n_259_108 _) rfl (T_eq ⟨by omega, by omega⟩ ⟨by omega, by omega⟩) (fun z => absurd z (by omega)) (fun _ => ?_)
        refine i_iconst r_259_111 (n_259_111 _) ?_
        exact i_ireturn r_259_112 (n_259_112 _) rfl h
    · replace h := h.2 c4
      refine i_iconst r_259_90 (n_259_90 _) ?_
      refine i_goto (t := 105) r_259_91 (n_259_91 _) rfl ?_
      refine wp_virt (b := 252) (rest := []) (Ls := [(0, rf 252), (1, iv 2)]) r_259_105 (n_259_105 _) rfl ⟨rfl, rfl, by decide, by decide⟩ rfl rfl lf_252 ⟨rfl, Nat.le_of_ble_eq_true rfl, Nat.le_of_ble_eq_true rfl⟩ rfl (K_Model_refused1 ⟨by omega, by omega⟩ (by omega)) ?_
      rintro _ _ ⟨rfl, rfl⟩
      refine .inl ⟨some (iv 1), rfl, ?_⟩
      show wp S 259 108 [(0, rf 252), (1, iv x1), (2, iv x2), (3, iv x3), (4, iv x4), (5, iv x5), (6, iv x6)] [iv 1] (zwI s 252 3 2) Q
      refine i_if (t := 113) r_259_108 (n_259_108 _) rfl (T_eq ⟨by omega, by omega⟩ ⟨by omega, by omega⟩) (fun z => absurd z (by omega)) (fun _ => ?_)
      refine i_iconst r_259_111 (n_259_111 _) ?_
      exact i_ireturn r_259_112 (n_259_112 _) rfl h
  · replace h := h.2 c2
    refine i_iconst r_259_81 (n_259_81 _) ?_
    refine i_goto (t := 105) r_259_82 (n_259_82 _) rfl ?_
    refine wp_virt (b := 252) (rest := []) (Ls := [(0, rf 252), (1, iv 1)]) r_259_105 (n_259_105 _) rfl ⟨rfl, rfl, by decide, by decide⟩ rfl rfl lf_252 ⟨rfl, Nat.le_of_ble_eq_true rfl, Nat.le_of_ble_eq_true rfl⟩ rfl (K_Model_refused1 ⟨by omega, by omega⟩ (by omega)) ?_
    rintro _ _ ⟨rfl, rfl⟩
    refine .inl ⟨some (iv 1), rfl, ?_⟩
    show wp S 259 108 [(0, rf 252), (1, iv x1), (2, iv x2), (3, iv x3), (4, iv x4), (5, iv x5), (6, iv x6)] [iv 1] (zwI s 252 3 1) Q
    refine i_if (t := 113) r_259_108 (n_259_108 _) rfl (T_eq ⟨by omega, by omega⟩ ⟨by omega, by omega⟩) (fun z => absurd z (by omega)) (fun _ => ?_)
    refine i_iconst r_259_111 (n_259_111 _) ?_
    exact i_ireturn r_259_112 (n_259_112 _) rfl h
theorem v_Model_migrate_157 {S : Option (Nat × (Nat → Int32))} {s : zSt} {Q : Option Value ⊕ Nat → zSt → Prop} {x1 : Int} {x2 : Int} {x7 : Int} {x8 : Int} {x9 : Int} 
    (h : (0 ≤ x2 ∧ x2 < 6) ∧ (rng x9 ∧ (((zI s 256 x2) ≤ x9 → Q (rI x8) s) ∧ (x9 < (zI s 256 x2) → wp S 260 0 [(0, rf 252), (1, iv x7), (2, iv x2), (3, iv x9)] [] s (fun o5 s5 => zkI (fun y5 => (y5 ≠ (-1) → wp S 259 198 [(0, rf 252), (1, iv x1), (2, iv x2), (7, iv x7), (8, iv (x8 + 1)), (9, iv x9), (10, iv y5), (11, iv 0)] [] s5 Q) ∧ (y5 = (-1) → wp S 259 198 [(0, rf 252), (1, iv x1), (2, iv x2), (7, iv x7), (8, iv (x8 + 0)), (9, iv x9), (10, iv y5), (11, iv 0)] [] s5 Q)) (fun e5 => False) o5))))) :
    wp S 259 157 [(0, rf 252), (1, iv x1), (2, iv x2), (7, iv x7), (8, iv x8), (9, iv x9)] [] s Q := by
  refine i_iload (x := x9) r_259_157 rfl rfl ?_
  refine i_aload_n (a := 252) r_259_159 (n_259_159 _) rfl ?_
  refine i_getR (a := 252) (b := 256) r_259_160 (n_259_160 _) rfl rfl rfl (by omega) lf_252 (by omega) ?_
  refine i_iload_n (x := x2) r_259_163 (n_259_163 _) rfl ?_
  obtain ⟨g1, h⟩ := h
  refine i_iaload (a := 256) (j := x2) r_259_164 (n_259_164 _) lf_256 ⟨by omega, by omega⟩ (by omega) (by omega) (fun q2 => ?_)
  obtain ⟨g3, h⟩ := h
  refine i_icmp (t := 249) r_259_165 (n_259_165 _) rfl (T_ge g3 q2) (fun c4 => ?_) (fun c4 => ?_)
  · replace h := h.1 c4
    refine i_iload (x := x8) r_259_249 (n_259_249 _) rfl ?_
    exact i_ireturn r_259_251 (n_259_251 _) rfl h
  · replace h := h.2 c4
    refine i_aload_n (a := 252) r_259_168 (n_259_168 _) rfl ?_
    refine i_iload (x := x7) r_259_169 (n_259_169 _) rfl ?_
    refine i_iload_n (x := x2) r_259_171 (n_259_171 _) rfl ?_
    refine i_iload (x := x9) r_259_172 (n_259_172 _) rfl ?_
    refine wp_virt (b := 252) (rest := []) (Ls := [(0, rf 252), (1, iv x7), (2, iv x2), (3, iv x9)]) r_259_174 (n_259_174 _) rfl ⟨rfl, rfl, by decide, by decide⟩ rfl rfl lf_252 ⟨rfl, Nat.le_of_ble_eq_true rfl, Nat.le_of_ble_eq_true rfl⟩ rfl h ?_
    intro o5 s5 h
    rcases h with ⟨y5, q6, rfl, h⟩ | ⟨e5, rfl, h⟩
    · refine .inl ⟨some (iv y5), rfl, ?_⟩
      show wp S 259 177 [(0, rf 252), (1, iv x1), (2, iv x2), (7, iv x7), (8, iv x8), (9, iv x9)] [iv y5] s5 Q
      refine i_istore (l' := [(0, rf 252), (1, iv x1), (2, iv x2), (7, iv x7), (8, iv x8), (9, iv x9), (10, iv y5)]) r_259_177 (n_259_177 _) (by decide) rfl ?_
      refine i_iload (x := x8) r_259_179 (n_259_179 _) rfl ?_
      refine i_iload (x := y5) r_259_181 (n_259_181 _) rfl ?_
      refine i_iconst r_259_183 (n_259_183 _) ?_
      refine i_icmp (t := 191) r_259_184 (n_259_184 _) rfl (T_ne q6 ⟨by omega, by omega⟩) (fun c7 => ?_) (fun c7 => ?_)
      · replace h := h.1 c7
        refine i_iconst r_259_191 (n_259_191 _) ?_
        refine i_iadd r_259_192 (n_259_192 _) ?_
        refine i_istore (l' := [(0, rf 252), (1, iv x1), (2, iv x2), (7, iv x7), (8, iv (x8 + 1)), (9, iv x9), (10, iv y5)]) r_259_193 (n_259_193 _) (by decide) rfl ?_
        refine i_iconst r_259_195 (n_259_195 _) ?_
        refine i_istore (l' := [(0, rf 252), (1, iv x1), (2, iv x2), (7, iv x7), (8, iv (x8 + 1)), (9, iv x9), (10, iv y5), (11, iv 0)]) r_259_196 (n_259_196 _) (by decide) rfl ?_
        exact wp_pr (l' := [(0, rf 252), (1, iv x1), (2, iv x2), (7, iv x7), (8, iv (x8 + 1)), (9, iv x9), (10, iv y5), (11, iv 0)]) rfl h
      · replace h := h.2 c7
        refine i_iconst r_259_187 (n_259_187 _) ?_
        refine i_goto (t := 192) r_259_188 (n_259_188 _) rfl ?_
        refine i_iadd r_259_192 (n_259_192 _) ?_
        refine i_istore (l' := [(0, rf 252), (1, iv x1), (2, iv x2), (7, iv x7), (8, iv (x8 + 0)), (9, iv x9), (10, iv y5)]) r_259_193 (n_259_193 _) (by decide) rfl ?_
        refine i_iconst r_259_195 (n_259_195 _) ?_
        refine i_istore (l' := [(0, rf 252), (1, iv x1), (2, iv x2), (7, iv x7), (8, iv (x8 + 0)), (9, iv x9), (10, iv y5), (11, iv 0)]) r_259_196 (n_259_196 _) (by decide) rfl ?_
        exact wp_pr (l' := [(0, rf 252), (1, iv x1), (2, iv x2), (7, iv x7), (8, iv (x8 + 0)), (9, iv x9), (10, iv y5), (11, iv 0)]) rfl h
    · skip
      exact h.elim
theorem v_Model_migrate_198 {S : Option (Nat × (Nat → Int32))} {s : zSt} {Q : Option Value ⊕ Nat → zSt → Prop} {x1 : Int} {x2 : Int} {x7 : Int} {x8 : Int} {x9 : Int} {x10 : Int} {x11 : Int} 
    (h : (0 ≤ ((157 + (6 * x1)) + 1) ∧ ((157 + (6 * x1)) + 1) < 1199) ∧ (rng x11 ∧ (((zI s 253 ((157 + (6 * x1)) + 1)) ≤ x11 → wp S 259 157 [(0, rf 252), (1, iv x1), (2, iv x2), (7, iv x7), (8, iv x8), (9, iv (x9 + 1))] [] s Q) ∧ (x11 < (zI s 253 ((157 + (6 * x1)) + 1)) → rng x10 ∧ ((x10 = (-1) → wp S 259 157 [(0, rf 252), (1, iv x1), (2, iv x2), (7, iv x7), (8, iv x8), (9, iv (x9 + 1))] [] s Q) ∧ (x10 ≠ (-1) → (0 ≤ ((40 * x11) + x10) ∧ ((40 * x11) + x10) < 480) ∧ (wp S 252 0 [(0, rf 252), (1, iv x1), (2, iv x11), (3, iv x9), (4, .long (zL s 272 ((40 * x11) + x10)))] [] s (fun o9 s9 => zkU (wp S 259 198 [(0, rf 252), (1, iv x1), (2, iv x2), (7, iv x7), (8, iv x8), (9, iv x9), (10, iv x10), (11, iv (x11 + 1))] [] s9 Q) (fun e9 => False) o9)))))))) :
    wp S 259 198 [(0, rf 252), (1, iv x1), (2, iv x2), (7, iv x7), (8, iv x8), (9, iv x9), (10, iv x10), (11, iv x11)] [] s Q := by
  refine i_iload (x := x11) r_259_198 rfl rfl ?_
  refine i_aload_n (a := 252) r_259_200 (n_259_200 _) rfl ?_
  refine i_iload_n (x := x1) r_259_201 (n_259_201 _) rfl ?_
  refine i_iconst r_259_202 (n_259_202 _) ?_
  obtain ⟨g1, h⟩ := h
  refine wp_virt (b := 252) (rest := [iv x11]) (Ls := [(0, rf 252), (1, iv x1), (2, iv 1)]) r_259_203 (n_259_203 _) rfl ⟨rfl, rfl, by decide, by decide⟩ rfl rfl lf_252 ⟨rfl, Nat.le_of_ble_eq_true rfl, Nat.le_of_ble_eq_true rfl⟩ rfl (K_Model_of g1) ?_
  rintro _ _ ⟨rfl, rfl⟩
  refine .inl ⟨some (iv (zI s 253 ((157 + (6 * x1)) + 1))), rfl, ?_⟩
  show wp S 259 206 [(0, rf 252), (1, iv x1), (2, iv x2), (7, iv x7), (8, iv x8), (9, iv x9), (10, iv x10), (11, iv x11)] [iv (zI s 253 ((157 + (6 * x1)) + 1)), iv x11] s Q
  refine wp_rd (a := 253) (j := ((157 + (6 * x1)) + 1)) (fun q3 => ?_)
  obtain ⟨g4, h⟩ := h
  refine i_icmp (t := 243) r_259_206 (n_259_206 _) rfl (T_ge g4 q3) (fun c5 => ?_) (fun c5 => ?_)
  · replace h := h.1 c5
    refine i_iinc (x := x9) (l' := [(0, rf 252), (1, iv x1), (2, iv x2), (7, iv x7), (8, iv x8), (9, iv (x9 + 1)), (10, iv x10), (11, iv x11)]) r_259_243 (n_259_243 _) (by decide) rfl rfl ?_
    refine i_goto (t := 157) r_259_246 (n_259_246 _) rfl ?_
    exact wp_pr (l' := [(0, rf 252), (1, iv x1), (2, iv x2), (7, iv x7), (8, iv x8), (9, iv (x9 + 1))]) rfl h
  · replace h := h.2 c5
    refine i_iload (x := x10) r_259_209 (n_259_209 _) rfl ?_
    refine i_iconst r_259_211 (n_259_211 _) ?_
    obtain ⟨g6, h⟩ := h
    refine i_icmp (t := 243) r_259_212 (n_259_212 _) rfl (T_eq g6 ⟨by omega, by omega⟩) (fun c7 => ?_) (fun c7 => ?_)
    · replace h := h.1 c7
      refine i_iinc (x := x9) (l' := [(0, rf 252), (1, iv x1), (2, iv x2), (7, iv x7), (8, iv x8), (9, iv (x9 + 1)), (10, iv x10), (11, iv x11)]) r_259_243 (n_259_243 _) (by decide) rfl rfl ?_
      refine i_goto (t := 157) r_259_246 (n_259_246 _) rfl ?_
      exact wp_pr (l' := [(0, rf 252), (1, iv x1), (2, iv x2), (7, iv x7), (8, iv x8), (9, iv (x9 + 1))]) rfl h
    · replace h := h.2 c7
      refine i_aload_n (a := 252) r_259_215 (n_259_215 _) rfl ?_
      refine i_iload_n (x := x1) r_259_216 (n_259_216 _) rfl ?_
      refine i_iload (x := x11) r_259_217 (n_259_217 _) rfl ?_
      refine i_iload (x := x9) r_259_219 (n_259_219 _) rfl ?_
      refine i_aload_n (a := 252) r_259_221 (n_259_221 _) rfl ?_
      refine i_getR (a := 252) (b := 272) r_259_222 (n_259_222 _) rfl rfl rfl (by omega) lf_252 (by omega) ?_
      refine i_bipush r_259_225 (n_259_225 _) rfl ?_
      refine i_iload (x := x11) r_259_227 (n_259_227 _) rfl ?_
      refine i_imul r_259_229 (n_259_229 _) ?_
      refine i_iload (x := x10) r_259_230 (n_259_230 _) rfl ?_
      refine i_iadd r_259_232 (n_259_232 _) ?_
      obtain ⟨g8, h⟩ := h
      refine i_laload (a := 272) (j := (40 * x11) + x10) r_259_233 (n_259_233 _) lf_272 ⟨by omega, by omega⟩ (by omega) (by omega) ?_
      refine wp_virt (b := 252) (rest := []) (Ls := [(0, rf 252), (1, iv x1), (2, iv x11), (3, iv x9), (4, .long (zL s 272 ((40 * x11) + x10)))]) r_259_234 (n_259_234 _) rfl ⟨rfl, rfl, by decide, by decide⟩ rfl rfl lf_252 ⟨rfl, Nat.le_of_ble_eq_true rfl, Nat.le_of_ble_eq_true rfl⟩ rfl h ?_
      intro o9 s9 h
      rcases h with ⟨rfl, h⟩ | ⟨e9, rfl, h⟩
      · refine .inl ⟨none, rfl, ?_⟩
        refine i_iinc (x := x11) (l' := [(0, rf 252), (1, iv x1), (2, iv x2), (7, iv x7), (8, iv x8), (9, iv x9), (10, iv x10), (11, iv (x11 + 1))]) r_259_237 (n_259_237 _) (by decide) rfl rfl ?_
        refine i_goto (t := 198) r_259_240 (n_259_240 _) rfl ?_
        exact wp_pr (l' := [(0, rf 252), (1, iv x1), (2, iv x2), (7, iv x7), (8, iv x8), (9, iv x9), (10, iv x10), (11, iv (x11 + 1))]) rfl h
      · skip
        exact h.elim
theorem r_260_0 : xfetch 260 0 = some (.bipush 40, 2) := by decide +kernel
theorem n_260_0 : ∀ l, xpr 260 0 l = l := xpr_no (by decide +kernel)
theorem r_260_2 : xfetch 260 2 = some (.iload_n 2, 1) := by decide +kernel
theorem n_260_2 : ∀ l, xpr 260 2 l = l := xpr_no (by decide +kernel)
theorem r_260_3 : xfetch 260 3 = some (.imul, 1) := by decide +kernel
theorem n_260_3 : ∀ l, xpr 260 3 l = l := xpr_no (by decide +kernel)
theorem r_260_4 : xfetch 260 4 = some (.iload_n 3, 1) := by decide +kernel
theorem n_260_4 : ∀ l, xpr 260 4 l = l := xpr_no (by decide +kernel)
theorem r_260_5 : xfetch 260 5 = some (.iadd, 1) := by decide +kernel
theorem n_260_5 : ∀ l, xpr 260 5 l = l := xpr_no (by decide +kernel)
theorem r_260_6 : xfetch 260 6 = some (.istore 4, 2) := by decide +kernel
theorem n_260_6 : ∀ l, xpr 260 6 l = l := xpr_no (by decide +kernel)
theorem r_260_8 : xfetch 260 8 = some (.iconst 0, 1) := by decide +kernel
theorem n_260_8 : ∀ l, xpr 260 8 l = l := xpr_no (by decide +kernel)
theorem r_260_9 : xfetch 260 9 = some (.istore 5, 2) := by decide +kernel
theorem n_260_9 : ∀ l, xpr 260 9 l = l := xpr_no (by decide +kernel)
theorem r_260_11 : xfetch 260 11 = some (.iload 5, 2) := by decide +kernel
theorem r_260_13 : xfetch 260 13 = some (.aload_n 0, 1) := by decide +kernel
theorem n_260_13 : ∀ l, xpr 260 13 l = l := xpr_no (by decide +kernel)
theorem r_260_14 : xfetch 260 14 = some (.getfield 19, 3) := by decide +kernel
theorem n_260_14 : ∀ l, xpr 260 14 l = l := xpr_no (by decide +kernel)
theorem r_260_17 : xfetch 260 17 = some (.iload_n 1, 1) := by decide +kernel
theorem n_260_17 : ∀ l, xpr 260 17 l = l := xpr_no (by decide +kernel)
theorem r_260_18 : xfetch 260 18 = some (.iaload, 1) := by decide +kernel
theorem n_260_18 : ∀ l, xpr 260 18 l = l := xpr_no (by decide +kernel)
theorem r_260_19 : xfetch 260 19 = some (.if_icmp .ge 112, 3) := by decide +kernel
theorem n_260_19 : ∀ l, xpr 260 19 l = l := xpr_no (by decide +kernel)
theorem r_260_22 : xfetch 260 22 = some (.bipush 40, 2) := by decide +kernel
theorem n_260_22 : ∀ l, xpr 260 22 l = l := xpr_no (by decide +kernel)
theorem r_260_24 : xfetch 260 24 = some (.iload_n 1, 1) := by decide +kernel
theorem n_260_24 : ∀ l, xpr 260 24 l = l := xpr_no (by decide +kernel)
theorem r_260_25 : xfetch 260 25 = some (.imul, 1) := by decide +kernel
theorem n_260_25 : ∀ l, xpr 260 25 l = l := xpr_no (by decide +kernel)
theorem r_260_26 : xfetch 260 26 = some (.iload 5, 2) := by decide +kernel
theorem n_260_26 : ∀ l, xpr 260 26 l = l := xpr_no (by decide +kernel)
theorem r_260_28 : xfetch 260 28 = some (.iadd, 1) := by decide +kernel
theorem n_260_28 : ∀ l, xpr 260 28 l = l := xpr_no (by decide +kernel)
theorem r_260_29 : xfetch 260 29 = some (.istore 6, 2) := by decide +kernel
theorem n_260_29 : ∀ l, xpr 260 29 l = l := xpr_no (by decide +kernel)
theorem r_260_31 : xfetch 260 31 = some (.aload_n 0, 1) := by decide +kernel
theorem n_260_31 : ∀ l, xpr 260 31 l = l := xpr_no (by decide +kernel)
theorem r_260_32 : xfetch 260 32 = some (.getfield 43, 3) := by decide +kernel
theorem n_260_32 : ∀ l, xpr 260 32 l = l := xpr_no (by decide +kernel)
theorem r_260_35 : xfetch 260 35 = some (.iload 6, 2) := by decide +kernel
theorem n_260_35 : ∀ l, xpr 260 35 l = l := xpr_no (by decide +kernel)
theorem r_260_37 : xfetch 260 37 = some (.iaload, 1) := by decide +kernel
theorem n_260_37 : ∀ l, xpr 260 37 l = l := xpr_no (by decide +kernel)
theorem r_260_38 : xfetch 260 38 = some (.aload_n 0, 1) := by decide +kernel
theorem n_260_38 : ∀ l, xpr 260 38 l = l := xpr_no (by decide +kernel)
theorem r_260_39 : xfetch 260 39 = some (.getfield 43, 3) := by decide +kernel
theorem n_260_39 : ∀ l, xpr 260 39 l = l := xpr_no (by decide +kernel)
theorem r_260_42 : xfetch 260 42 = some (.iload 4, 2) := by decide +kernel
theorem n_260_42 : ∀ l, xpr 260 42 l = l := xpr_no (by decide +kernel)
theorem r_260_44 : xfetch 260 44 = some (.iaload, 1) := by decide +kernel
theorem n_260_44 : ∀ l, xpr 260 44 l = l := xpr_no (by decide +kernel)
theorem r_260_45 : xfetch 260 45 = some (.if_icmp .ne 7, 3) := by decide +kernel
theorem n_260_45 : ∀ l, xpr 260 45 l = l := xpr_no (by decide +kernel)
theorem r_260_48 : xfetch 260 48 = some (.iconst 1, 1) := by decide +kernel
theorem n_260_48 : ∀ l, xpr 260 48 l = l := xpr_no (by decide +kernel)
theorem r_260_49 : xfetch 260 49 = some (.goto 4, 3) := by decide +kernel
theorem n_260_49 : ∀ l, xpr 260 49 l = l := xpr_no (by decide +kernel)
theorem r_260_52 : xfetch 260 52 = some (.iconst 0, 1) := by decide +kernel
theorem n_260_52 : ∀ l, xpr 260 52 l = l := xpr_no (by decide +kernel)
theorem r_260_53 : xfetch 260 53 = some (.istore 7, 2) := by decide +kernel
theorem n_260_53 : ∀ l, xpr 260 53 l = l := xpr_no (by decide +kernel)
theorem r_260_55 : xfetch 260 55 = some (.iconst 0, 1) := by decide +kernel
theorem n_260_55 : ∀ l, xpr 260 55 l = l := xpr_no (by decide +kernel)
theorem r_260_56 : xfetch 260 56 = some (.istore 8, 2) := by decide +kernel
theorem n_260_56 : ∀ l, xpr 260 56 l = l := xpr_no (by decide +kernel)
theorem r_260_58 : xfetch 260 58 = some (.iload 7, 2) := by decide +kernel
theorem r_260_60 : xfetch 260 60 = some (.ifCond .eq 57, 3) := by decide +kernel
theorem n_260_60 : ∀ l, xpr 260 60 l = l := xpr_no (by decide +kernel)
theorem r_260_63 : xfetch 260 63 = some (.iload 8, 2) := by decide +kernel
theorem n_260_63 : ∀ l, xpr 260 63 l = l := xpr_no (by decide +kernel)
theorem r_260_65 : xfetch 260 65 = some (.aload_n 0, 1) := by decide +kernel
theorem n_260_65 : ∀ l, xpr 260 65 l = l := xpr_no (by decide +kernel)
theorem r_260_66 : xfetch 260 66 = some (.getfield 43, 3) := by decide +kernel
theorem n_260_66 : ∀ l, xpr 260 66 l = l := xpr_no (by decide +kernel)
theorem r_260_69 : xfetch 260 69 = some (.iload 6, 2) := by decide +kernel
theorem n_260_69 : ∀ l, xpr 260 69 l = l := xpr_no (by decide +kernel)
theorem r_260_71 : xfetch 260 71 = some (.iaload, 1) := by decide +kernel
theorem n_260_71 : ∀ l, xpr 260 71 l = l := xpr_no (by decide +kernel)
theorem r_260_72 : xfetch 260 72 = some (.if_icmp .ge 45, 3) := by decide +kernel
theorem n_260_72 : ∀ l, xpr 260 72 l = l := xpr_no (by decide +kernel)
theorem r_260_75 : xfetch 260 75 = some (.aload_n 0, 1) := by decide +kernel
theorem n_260_75 : ∀ l, xpr 260 75 l = l := xpr_no (by decide +kernel)
theorem r_260_76 : xfetch 260 76 = some (.getfield 40, 3) := by decide +kernel
theorem n_260_76 : ∀ l, xpr 260 76 l = l := xpr_no (by decide +kernel)
theorem r_260_79 : xfetch 260 79 = some (.bipush 32, 2) := by decide +kernel
theorem n_260_79 : ∀ l, xpr 260 79 l = l := xpr_no (by decide +kernel)
theorem r_260_81 : xfetch 260 81 = some (.iload 6, 2) := by decide +kernel
theorem n_260_81 : ∀ l, xpr 260 81 l = l := xpr_no (by decide +kernel)
theorem r_260_83 : xfetch 260 83 = some (.imul, 1) := by decide +kernel
theorem n_260_83 : ∀ l, xpr 260 83 l = l := xpr_no (by decide +kernel)
theorem r_260_84 : xfetch 260 84 = some (.iload 8, 2) := by decide +kernel
theorem n_260_84 : ∀ l, xpr 260 84 l = l := xpr_no (by decide +kernel)
theorem r_260_86 : xfetch 260 86 = some (.iadd, 1) := by decide +kernel
theorem n_260_86 : ∀ l, xpr 260 86 l = l := xpr_no (by decide +kernel)
theorem r_260_87 : xfetch 260 87 = some (.iaload, 1) := by decide +kernel
theorem n_260_87 : ∀ l, xpr 260 87 l = l := xpr_no (by decide +kernel)
theorem r_260_88 : xfetch 260 88 = some (.aload_n 0, 1) := by decide +kernel
theorem n_260_88 : ∀ l, xpr 260 88 l = l := xpr_no (by decide +kernel)
theorem r_260_89 : xfetch 260 89 = some (.getfield 40, 3) := by decide +kernel
theorem n_260_89 : ∀ l, xpr 260 89 l = l := xpr_no (by decide +kernel)
theorem r_260_92 : xfetch 260 92 = some (.bipush 32, 2) := by decide +kernel
theorem n_260_92 : ∀ l, xpr 260 92 l = l := xpr_no (by decide +kernel)
theorem r_260_94 : xfetch 260 94 = some (.iload 4, 2) := by decide +kernel
theorem n_260_94 : ∀ l, xpr 260 94 l = l := xpr_no (by decide +kernel)
theorem r_260_96 : xfetch 260 96 = some (.imul, 1) := by decide +kernel
theorem n_260_96 : ∀ l, xpr 260 96 l = l := xpr_no (by decide +kernel)
theorem r_260_97 : xfetch 260 97 = some (.iload 8, 2) := by decide +kernel
theorem n_260_97 : ∀ l, xpr 260 97 l = l := xpr_no (by decide +kernel)
theorem r_260_99 : xfetch 260 99 = some (.iadd, 1) := by decide +kernel
theorem n_260_99 : ∀ l, xpr 260 99 l = l := xpr_no (by decide +kernel)
theorem r_260_100 : xfetch 260 100 = some (.iaload, 1) := by decide +kernel
theorem n_260_100 : ∀ l, xpr 260 100 l = l := xpr_no (by decide +kernel)
theorem r_260_101 : xfetch 260 101 = some (.if_icmp .ne 7, 3) := by decide +kernel
theorem n_260_101 : ∀ l, xpr 260 101 l = l := xpr_no (by decide +kernel)
theorem r_260_104 : xfetch 260 104 = some (.iconst 1, 1) := by decide +kernel
theorem n_260_104 : ∀ l, xpr 260 104 l = l := xpr_no (by decide +kernel)
theorem r_260_105 : xfetch 260 105 = some (.goto 4, 3) := by decide +kernel
theorem n_260_105 : ∀ l, xpr 260 105 l = l := xpr_no (by decide +kernel)
theorem r_260_108 : xfetch 260 108 = some (.iconst 0, 1) := by decide +kernel
theorem n_260_108 : ∀ l, xpr 260 108 l = l := xpr_no (by decide +kernel)
theorem r_260_109 : xfetch 260 109 = some (.istore 7, 2) := by decide +kernel
theorem n_260_109 : ∀ l, xpr 260 109 l = l := xpr_no (by decide +kernel)
theorem r_260_111 : xfetch 260 111 = some (.iinc 8 1, 3) := by decide +kernel
theorem n_260_111 : ∀ l, xpr 260 111 l = l := xpr_no (by decide +kernel)
theorem r_260_114 : xfetch 260 114 = some (.goto (-56), 3) := by decide +kernel
theorem n_260_114 : ∀ l, xpr 260 114 l = l := xpr_no (by decide +kernel)
theorem r_260_117 : xfetch 260 117 = some (.iload 7, 2) := by decide +kernel
theorem n_260_117 : ∀ l, xpr 260 117 l = l := xpr_no (by decide +kernel)
theorem r_260_119 : xfetch 260 119 = some (.ifCond .eq 6, 3) := by decide +kernel
theorem n_260_119 : ∀ l, xpr 260 119 l = l := xpr_no (by decide +kernel)
theorem r_260_122 : xfetch 260 122 = some (.iload 5, 2) := by decide +kernel
theorem n_260_122 : ∀ l, xpr 260 122 l = l := xpr_no (by decide +kernel)
theorem r_260_124 : xfetch 260 124 = some (.ireturn, 1) := by decide +kernel
theorem n_260_124 : ∀ l, xpr 260 124 l = l := xpr_no (by decide +kernel)
theorem r_260_125 : xfetch 260 125 = some (.iinc 5 1, 3) := by decide +kernel
theorem n_260_125 : ∀ l, xpr 260 125 l = l := xpr_no (by decide +kernel)
theorem r_260_128 : xfetch 260 128 = some (.goto (-117), 3) := by decide +kernel
theorem n_260_128 : ∀ l, xpr 260 128 l = l := xpr_no (by decide +kernel)
theorem r_260_131 : xfetch 260 131 = some (.iconst (-1), 1) := by decide +kernel
theorem n_260_131 : ∀ l, xpr 260 131 l = l := xpr_no (by decide +kernel)
theorem r_260_132 : xfetch 260 132 = some (.ireturn, 1) := by decide +kernel
theorem n_260_132 : ∀ l, xpr 260 132 l = l := xpr_no (by decide +kernel)
theorem v_Model_samePath_0 {S : Option (Nat × (Nat → Int32))} {s : zSt} {Q : Option Value ⊕ Nat → zSt → Prop} {x1 : Int} {x2 : Int} {x3 : Int} 
    (h : wp S 260 11 [(0, rf 252), (1, iv x1), (4, iv ((40 * x2) + x3)), (5, iv 0)] [] s Q) :
    wp S 260 0 [(0, rf 252), (1, iv x1), (2, iv x2), (3, iv x3)] [] s Q := by
  refine i_bipush r_260_0 (n_260_0 _) rfl ?_
  refine i_iload_n (x := x2) r_260_2 (n_260_2 _) rfl ?_
  refine i_imul r_260_3 (n_260_3 _) ?_
  refine i_iload_n (x := x3) r_260_4 (n_260_4 _) rfl ?_
  refine i_iadd r_260_5 (n_260_5 _) ?_
  refine i_istore (l' := [(0, rf 252), (1, iv x1), (2, iv x2), (3, iv x3), (4, iv ((40 * x2) + x3))]) r_260_6 (n_260_6 _) (by decide) rfl ?_
  refine i_iconst r_260_8 (n_260_8 _) ?_
  refine i_istore (l' := [(0, rf 252), (1, iv x1), (2, iv x2), (3, iv x3), (4, iv ((40 * x2) + x3)), (5, iv 0)]) r_260_9 (n_260_9 _) (by decide) rfl ?_
  exact wp_pr (l' := [(0, rf 252), (1, iv x1), (4, iv ((40 * x2) + x3)), (5, iv 0)]) rfl h
theorem v_Model_samePath_11 {S : Option (Nat × (Nat → Int32))} {s : zSt} {Q : Option Value ⊕ Nat → zSt → Prop} {x1 : Int} {x4 : Int} {x5 : Int} 
    (h : (0 ≤ x1 ∧ x1 < 6) ∧ (rng x5 ∧ (((zI s 256 x1) ≤ x5 → Q (rI (-1)) s) ∧ (x5 < (zI s 256 x1) → (0 ≤ ((40 * x1) + x5) ∧ ((40 * x1) + x5) < 240) ∧ ((0 ≤ x4 ∧ x4 < 240) ∧ (((zI s 264 ((40 * x1) + x5)) ≠ (zI s 264 x4) → wp S 260 58 [(0, rf 252), (1, iv x1), (4, iv x4), (5, iv x5), (6, iv ((40 * x1) + x5)), (7, iv 0), (8, iv 0)] [] s Q) ∧ ((zI s 264 ((40 * x1) + x5)) = (zI s 264 x4) → wp S 260 58 [(0, rf 252), (1, iv x1), (4, iv x4), (5, iv x5), (6, iv ((40 * x1) + x5)), (7, iv 1), (8, iv 0)] [] s Q))))))) :
    wp S 260 11 [(0, rf 252), (1, iv x1), (4, iv x4), (5, iv x5)] [] s Q := by
  refine i_iload (x := x5) r_260_11 rfl rfl ?_
  refine i_aload_n (a := 252) r_260_13 (n_260_13 _) rfl ?_
  refine i_getR (a := 252) (b := 256) r_260_14 (n_260_14 _) rfl rfl rfl (by omega) lf_252 (by omega) ?_
  refine i_iload_n (x := x1) r_260_17 (n_260_17 _) rfl ?_
  obtain ⟨g1, h⟩ := h
  refine i_iaload (a := 256) (j := x1) r_260_18 (n_260_18 _) lf_256 ⟨by omega, by omega⟩ (by omega) (by omega) (fun q2 => ?_)
  obtain ⟨g3, h⟩ := h
  refine i_icmp (t := 131) r_260_19 (n_260_19 _) rfl (T_ge g3 q2) (fun c4 => ?_) (fun c4 => ?_)
  · replace h := h.1 c4
    refine i_iconst r_260_131 (n_260_131 _) ?_
    exact i_ireturn r_260_132 (n_260_132 _) rfl h
  · replace h := h.2 c4
    refine i_bipush r_260_22 (n_260_22 _) rfl ?_
    refine i_iload_n (x := x1) r_260_24 (n_260_24 _) rfl ?_
    refine i_imul r_260_25 (n_260_25 _) ?_
    refine i_iload (x := x5) r_260_26 (n_260_26 _) rfl ?_
    refine i_iadd r_260_28 (n_260_28 _) ?_
    refine i_istore (l' := [(0, rf 252), (1, iv x1), (4, iv x4), (5, iv x5), (6, iv ((40 * x1) + x5))]) r_260_29 (n_260_29 _) (by decide) rfl ?_
    refine i_aload_n (a := 252) r_260_31 (n_260_31 _) rfl ?_
    refine i_getR (a := 252) (b := 264) r_260_32 (n_260_32 _) rfl rfl rfl (by omega) lf_252 (by omega) ?_
    refine i_iload (x := (40 * x1) + x5) r_260_35 (n_260_35 _) rfl ?_
    obtain ⟨g5, h⟩ := h
    refine i_iaload (a := 264) (j := (40 * x1) + x5) r_260_37 (n_260_37 _) lf_264 ⟨by omega, by omega⟩ (by omega) (by omega) (fun q6 => ?_)
    refine i_aload_n (a := 252) r_260_38 (n_260_38 _) rfl ?_
    refine i_getR (a := 252) (b := 264) r_260_39 (n_260_39 _) rfl rfl rfl (by omega) lf_252 (by omega) ?_
    refine i_iload (x := x4) r_260_42 (n_260_42 _) rfl ?_
    obtain ⟨g7, h⟩ := h
    refine i_iaload (a := 264) (j := x4) r_260_44 (n_260_44 _) lf_264 ⟨by omega, by omega⟩ (by omega) (by omega) (fun q8 => ?_)
    refine i_icmp (t := 52) r_260_45 (n_260_45 _) rfl (T_ne q6 q8) (fun c9 => ?_) (fun c9 => ?_)
    · replace h := h.1 c9
      refine i_iconst r_260_52 (n_260_52 _) ?_
      refine i_istore (l' := [(0, rf 252), (1, iv x1), (4, iv x4), (5, iv x5), (6, iv ((40 * x1) + x5)), (7, iv 0)]) r_260_53 (n_260_53 _) (by decide) rfl ?_
      refine i_iconst r_260_55 (n_260_55 _) ?_
      refine i_istore (l' := [(0, rf 252), (1, iv x1), (4, iv x4), (5, iv x5), (6, iv ((40 * x1) + x5)), (7, iv 0), (8, iv 0)]) r_260_56 (n_260_56 _) (by decide) rfl ?_
      exact wp_pr (l' := [(0, rf 252), (1, iv x1), (4, iv x4), (5, iv x5), (6, iv ((40 * x1) + x5)), (7, iv 0), (8, iv 0)]) rfl h
    · replace h := h.2 c9
      refine i_iconst r_260_48 (n_260_48 _) ?_
      refine i_goto (t := 53) r_260_49 (n_260_49 _) rfl ?_
      refine i_istore (l' := [(0, rf 252), (1, iv x1), (4, iv x4), (5, iv x5), (6, iv ((40 * x1) + x5)), (7, iv 1)]) r_260_53 (n_260_53 _) (by decide) rfl ?_
      refine i_iconst r_260_55 (n_260_55 _) ?_
      refine i_istore (l' := [(0, rf 252), (1, iv x1), (4, iv x4), (5, iv x5), (6, iv ((40 * x1) + x5)), (7, iv 1), (8, iv 0)]) r_260_56 (n_260_56 _) (by decide) rfl ?_
      exact wp_pr (l' := [(0, rf 252), (1, iv x1), (4, iv x4), (5, iv x5), (6, iv ((40 * x1) + x5)), (7, iv 1), (8, iv 0)]) rfl h
theorem v_Model_samePath_58 {S : Option (Nat × (Nat → Int32))} {s : zSt} {Q : Option Value ⊕ Nat → zSt → Prop} {x1 : Int} {x4 : Int} {x5 : Int} {x6 : Int} {x7 : Int} {x8 : Int} 
    (h : rng x7 ∧ ((x7 = 0 → (x7 = 0 → wp S 260 11 [(0, rf 252), (1, iv x1), (4, iv x4), (5, iv (x5 + 1))] [] s Q) ∧ (x7 ≠ 0 → Q (rI x5) s)) ∧ (x7 ≠ 0 → (0 ≤ x6 ∧ x6 < 240) ∧ (rng x8 ∧ (((zI s 264 x6) ≤ x8 → (x7 = 0 → wp S 260 11 [(0, rf 252), (1, iv x1), (4, iv x4), (5, iv (x5 + 1))] [] s Q) ∧ (x7 ≠ 0 → Q (rI x5) s)) ∧ (x8 < (zI s 264 x6) → (0 ≤ ((32 * x6) + x8) ∧ ((32 * x6) + x8) < 7680) ∧ ((0 ≤ ((32 * x4) + x8) ∧ ((32 * x4) + x8) < 7680) ∧ (((zI s 263 ((32 * x6) + x8)) ≠ (zI s 263 ((32 * x4) + x8)) → wp S 260 58 [(0, rf 252), (1, iv x1), (4, iv x4), (5, iv x5), (6, iv x6), (7, iv 0), (8, iv (x8 + 1))] [] s Q) ∧ ((zI s 263 ((32 * x6) + x8)) = (zI s 263 ((32 * x4) + x8)) → wp S 260 58 [(0, rf 252), (1, iv x1), (4, iv x4), (5, iv x5), (6, iv x6), (7, iv 1), (8, iv (x8 + 1))] [] s Q))))))))) :
    wp S 260 58 [(0, rf 252), (1, iv x1), (4, iv x4), (5, iv x5), (6, iv x6), (7, iv x7), (8, iv x8)] [] s Q := by
  refine i_iload (x := x7) r_260_58 rfl rfl ?_
  obtain ⟨g1, h⟩ := h
  refine i_if (t := 117) r_260_60 (n_260_60 _) rfl (T_eq g1 ⟨by omega, by omega⟩) (fun c2 => ?_) (fun c2 => ?_)
  · replace h := h.1 c2
    refine i_iload (x := x7) r_260_117 (n_260_117 _) rfl ?_
    refine i_if (t := 125) r_260_119 (n_260_119 _) rfl (T_eq g1 ⟨by omega, by omega⟩) (fun c3 => ?_) (fun c3 => ?_)
    · replace h := h.1 c3
      refine i_iinc (x := x5) (l' := [(0, rf 252), (1, iv x1), (4, iv x4), (5, iv (x5 + 1)), (6, iv x6), (7, iv x7), (8, iv x8)]) r_260_125 (n_260_125 _) (by decide) rfl rfl ?_
      refine i_goto (t := 11) r_260_128 (n_260_128 _) rfl ?_
      exact wp_pr (l' := [(0, rf 252), (1, iv x1), (4, iv x4), (5, iv (x5 + 1))]) rfl h
    · replace h := h.2 c3
      refine i_iload (x := x5) r_260_122 (n_260_122 _) rfl ?_
      exact i_ireturn r_260_124 (n_260_124 _) rfl h
  · replace h := h.2 c2
    refine i_iload (x := x8) r_260_63 (n_260_63 _) rfl ?_
    refine i_aload_n (a := 252) r_260_65 (n_260_65 _) rfl ?_
    refine i_getR (a := 252) (b := 264) r_260_66 (n_260_66 _) rfl rfl rfl (by omega) lf_252 (by omega) ?_
    refine i_iload (x := x6) r_260_69 (n_260_69 _) rfl ?_
    obtain ⟨g4, h⟩ := h
    refine i_iaload (a := 264) (j := x6) r_260_71 (n_260_71 _) lf_264 ⟨by omega, by omega⟩ (by omega) (by omega) (fun q5 => ?_)
    obtain ⟨g6, h⟩ := h
    refine i_icmp (t := 117) r_260_72 (n_260_72 _) rfl (T_ge g6 q5) (fun c7 => ?_) (fun c7 => ?_)
    · replace h := h.1 c7
      refine i_iload (x := x7) r_260_117 (n_260_117 _) rfl ?_
      refine i_if (t := 125) r_260_119 (n_260_119 _) rfl (T_eq g1 ⟨by omega, by omega⟩) (fun c8 => ?_) (fun c8 => ?_)
      · replace h := h.1 c8
        refine i_iinc (x := x5) (l' := [(0, rf 252), (1, iv x1), (4, iv x4), (5, iv (x5 + 1)), (6, iv x6), (7, iv x7), (8, iv x8)]) r_260_125 (n_260_125 _) (by decide) rfl rfl ?_
        refine i_goto (t := 11) r_260_128 (n_260_128 _) rfl ?_
        exact wp_pr (l' := [(0, rf 252), (1, iv x1), (4, iv x4), (5, iv (x5 + 1))]) rfl h
      · replace h := h.2 c8
        refine i_iload (x := x5) r_260_122 (n_260_122 _) rfl ?_
        exact i_ireturn r_260_124 (n_260_124 _) rfl h
    · replace h := h.2 c7
      refine i_aload_n (a := 252) r_260_75 (n_260_75 _) rfl ?_
      refine i_getR (a := 252) (b := 263) r_260_76 (n_260_76 _) rfl rfl rfl (by omega) lf_252 (by omega) ?_
      refine i_bipush r_260_79 (n_260_79 _) rfl ?_
      refine i_iload (x := x6) r_260_81 (n_260_81 _) rfl ?_
      refine i_imul r_260_83 (n_260_83 _) ?_
      refine i_iload (x := x8) r_260_84 (n_260_84 _) rfl ?_
      refine i_iadd r_260_86 (n_260_86 _) ?_
      obtain ⟨g9, h⟩ := h
      refine i_iaload (a := 263) (j := (32 * x6) + x8) r_260_87 (n_260_87 _) lf_263 ⟨by omega, by omega⟩ (by omega) (by omega) (fun q10 => ?_)
      refine i_aload_n (a := 252) r_260_88 (n_260_88 _) rfl ?_
      refine i_getR (a := 252) (b := 263) r_260_89 (n_260_89 _) rfl rfl rfl (by omega) lf_252 (by omega) ?_
      refine i_bipush r_260_92 (n_260_92 _) rfl ?_
      refine i_iload (x := x4) r_260_94 (n_260_94 _) rfl ?_
      refine i_imul r_260_96 (n_260_96 _) ?_
      refine i_iload (x := x8) r_260_97 (n_260_97 _) rfl ?_
      refine i_iadd r_260_99 (n_260_99 _) ?_
      obtain ⟨g11, h⟩ := h
      refine i_iaload (a := 263) (j := (32 * x4) + x8) r_260_100 (n_260_100 _) lf_263 ⟨by omega, by omega⟩ (by omega) (by omega) (fun q12 => ?_)
      refine i_icmp (t := 108) r_260_101 (n_260_101 _) rfl (T_ne q10 q12) (fun c13 => ?_) (fun c13 => ?_)
      · replace h := h.1 c13
        refine i_iconst r_260_108 (n_260_108 _) ?_
        refine i_istore (l' := [(0, rf 252), (1, iv x1), (4, iv x4), (5, iv x5), (6, iv x6), (7, iv 0), (8, iv x8)]) r_260_109 (n_260_109 _) (by decide) rfl ?_
        refine i_iinc (x := x8) (l' := [(0, rf 252), (1, iv x1), (4, iv x4), (5, iv x5), (6, iv x6), (7, iv 0), (8, iv (x8 + 1))]) r_260_111 (n_260_111 _) (by decide) rfl rfl ?_
        refine i_goto (t := 58) r_260_114 (n_260_114 _) rfl ?_
        exact wp_pr (l' := [(0, rf 252), (1, iv x1), (4, iv x4), (5, iv x5), (6, iv x6), (7, iv 0), (8, iv (x8 + 1))]) rfl h
      · replace h := h.2 c13
        refine i_iconst r_260_104 (n_260_104 _) ?_
        refine i_goto (t := 109) r_260_105 (n_260_105 _) rfl ?_
        refine i_istore (l' := [(0, rf 252), (1, iv x1), (4, iv x4), (5, iv x5), (6, iv x6), (7, iv 1), (8, iv x8)]) r_260_109 (n_260_109 _) (by decide) rfl ?_
        refine i_iinc (x := x8) (l' := [(0, rf 252), (1, iv x1), (4, iv x4), (5, iv x5), (6, iv x6), (7, iv 1), (8, iv (x8 + 1))]) r_260_111 (n_260_111 _) (by decide) rfl rfl ?_
        refine i_goto (t := 58) r_260_114 (n_260_114 _) rfl ?_
        exact wp_pr (l' := [(0, rf 252), (1, iv x1), (4, iv x4), (5, iv x5), (6, iv x6), (7, iv 1), (8, iv (x8 + 1))]) rfl h
theorem r_261_0 : xfetch 261 0 = some (.aload_n 0, 1) := by decide +kernel
theorem n_261_0 : ∀ l, xpr 261 0 l = l := xpr_no (by decide +kernel)
theorem r_261_1 : xfetch 261 1 = some (.iconst 0, 1) := by decide +kernel
theorem n_261_1 : ∀ l, xpr 261 1 l = l := xpr_no (by decide +kernel)
theorem r_261_2 : xfetch 261 2 = some (.putfield 77, 3) := by decide +kernel
theorem n_261_2 : ∀ l, xpr 261 2 l = l := xpr_no (by decide +kernel)
theorem r_261_5 : xfetch 261 5 = some (.aload_n 0, 1) := by decide +kernel
theorem n_261_5 : ∀ l, xpr 261 5 l = l := xpr_no (by decide +kernel)
theorem r_261_6 : xfetch 261 6 = some (.invokevirtual 135, 3) := by decide +kernel
theorem n_261_6 : ∀ l, xpr 261 6 l = l := xpr_no (by decide +kernel)
theorem r_261_9 : xfetch 261 9 = some (.iconst 0, 1) := by decide +kernel
theorem n_261_9 : ∀ l, xpr 261 9 l = l := xpr_no (by decide +kernel)
theorem r_261_10 : xfetch 261 10 = some (.istore_n 1, 1) := by decide +kernel
theorem n_261_10 : ∀ l, xpr 261 10 l = l := xpr_no (by decide +kernel)
theorem r_261_11 : xfetch 261 11 = some (.iconst 0, 1) := by decide +kernel
theorem n_261_11 : ∀ l, xpr 261 11 l = l := xpr_no (by decide +kernel)
theorem r_261_12 : xfetch 261 12 = some (.istore_n 2, 1) := by decide +kernel
theorem n_261_12 : ∀ l, xpr 261 12 l = l := xpr_no (by decide +kernel)
theorem r_261_13 : xfetch 261 13 = some (.iconst (-1), 1) := by decide +kernel
theorem n_261_13 : ∀ l, xpr 261 13 l = l := xpr_no (by decide +kernel)
theorem r_261_14 : xfetch 261 14 = some (.istore_n 3, 1) := by decide +kernel
theorem n_261_14 : ∀ l, xpr 261 14 l = l := xpr_no (by decide +kernel)
theorem r_261_15 : xfetch 261 15 = some (.iconst 0, 1) := by decide +kernel
theorem n_261_15 : ∀ l, xpr 261 15 l = l := xpr_no (by decide +kernel)
theorem r_261_16 : xfetch 261 16 = some (.istore 4, 2) := by decide +kernel
theorem n_261_16 : ∀ l, xpr 261 16 l = l := xpr_no (by decide +kernel)
theorem r_261_18 : xfetch 261 18 = some (.iload 4, 2) := by decide +kernel
theorem r_261_20 : xfetch 261 20 = some (.iconst 3, 1) := by decide +kernel
theorem n_261_20 : ∀ l, xpr 261 20 l = l := xpr_no (by decide +kernel)
theorem r_261_21 : xfetch 261 21 = some (.if_icmp .ge 198, 3) := by decide +kernel
theorem n_261_21 : ∀ l, xpr 261 21 l = l := xpr_no (by decide +kernel)
theorem r_261_24 : xfetch 261 24 = some (.iconst (-1), 1) := by decide +kernel
theorem n_261_24 : ∀ l, xpr 261 24 l = l := xpr_no (by decide +kernel)
theorem r_261_25 : xfetch 261 25 = some (.istore 5, 2) := by decide +kernel
theorem n_261_25 : ∀ l, xpr 261 25 l = l := xpr_no (by decide +kernel)
theorem r_261_27 : xfetch 261 27 = some (.iconst 0, 1) := by decide +kernel
theorem n_261_27 : ∀ l, xpr 261 27 l = l := xpr_no (by decide +kernel)
theorem r_261_28 : xfetch 261 28 = some (.istore 6, 2) := by decide +kernel
theorem n_261_28 : ∀ l, xpr 261 28 l = l := xpr_no (by decide +kernel)
theorem r_261_30 : xfetch 261 30 = some (.iload 6, 2) := by decide +kernel
theorem r_261_32 : xfetch 261 32 = some (.iconst 3, 1) := by decide +kernel
theorem n_261_32 : ∀ l, xpr 261 32 l = l := xpr_no (by decide +kernel)
theorem r_261_33 : xfetch 261 33 = some (.if_icmp .ge 61, 3) := by decide +kernel
theorem n_261_33 : ∀ l, xpr 261 33 l = l := xpr_no (by decide +kernel)
theorem r_261_36 : xfetch 261 36 = some (.aload_n 0, 1) := by decide +kernel
theorem n_261_36 : ∀ l, xpr 261 36 l = l := xpr_no (by decide +kernel)
theorem r_261_37 : xfetch 261 37 = some (.iload 6, 2) := by decide +kernel
theorem n_261_37 : ∀ l, xpr 261 37 l = l := xpr_no (by decide +kernel)
theorem r_261_39 : xfetch 261 39 = some (.invokevirtual 225, 3) := by decide +kernel
theorem n_261_39 : ∀ l, xpr 261 39 l = l := xpr_no (by decide +kernel)
theorem r_261_42 : xfetch 261 42 = some (.ifCond .eq 42, 3) := by decide +kernel
theorem n_261_42 : ∀ l, xpr 261 42 l = l := xpr_no (by decide +kernel)
theorem r_261_45 : xfetch 261 45 = some (.aload_n 0, 1) := by decide +kernel
theorem n_261_45 : ∀ l, xpr 261 45 l = l := xpr_no (by decide +kernel)
theorem r_261_46 : xfetch 261 46 = some (.iload 6, 2) := by decide +kernel
theorem n_261_46 : ∀ l, xpr 261 46 l = l := xpr_no (by decide +kernel)
theorem r_261_48 : xfetch 261 48 = some (.iconst 4, 1) := by decide +kernel
theorem n_261_48 : ∀ l, xpr 261 48 l = l := xpr_no (by decide +kernel)
theorem r_261_49 : xfetch 261 49 = some (.invokevirtual 228, 3) := by decide +kernel
theorem n_261_49 : ∀ l, xpr 261 49 l = l := xpr_no (by decide +kernel)
theorem r_261_52 : xfetch 261 52 = some (.iload_n 3, 1) := by decide +kernel
theorem n_261_52 : ∀ l, xpr 261 52 l = l := xpr_no (by decide +kernel)
theorem r_261_53 : xfetch 261 53 = some (.if_icmp .le 31, 3) := by decide +kernel
theorem n_261_53 : ∀ l, xpr 261 53 l = l := xpr_no (by decide +kernel)
theorem r_261_56 : xfetch 261 56 = some (.iload 5, 2) := by decide +kernel
theorem n_261_56 : ∀ l, xpr 261 56 l = l := xpr_no (by decide +kernel)
theorem r_261_58 : xfetch 261 58 = some (.iconst (-1), 1) := by decide +kernel
theorem n_261_58 : ∀ l, xpr 261 58 l = l := xpr_no (by decide +kernel)
theorem r_261_59 : xfetch 261 59 = some (.if_icmp .eq 20, 3) := by decide +kernel
theorem n_261_59 : ∀ l, xpr 261 59 l = l := xpr_no (by decide +kernel)
theorem r_261_62 : xfetch 261 62 = some (.aload_n 0, 1) := by decide +kernel
theorem n_261_62 : ∀ l, xpr 261 62 l = l := xpr_no (by decide +kernel)
theorem r_261_63 : xfetch 261 63 = some (.iload 6, 2) := by decide +kernel
theorem n_261_63 : ∀ l, xpr 261 63 l = l := xpr_no (by decide +kernel)
theorem r_261_65 : xfetch 261 65 = some (.iconst 4, 1) := by decide +kernel
theorem n_261_65 : ∀ l, xpr 261 65 l = l := xpr_no (by decide +kernel)
theorem r_261_66 : xfetch 261 66 = some (.invokevirtual 228, 3) := by decide +kernel
theorem n_261_66 : ∀ l, xpr 261 66 l = l := xpr_no (by decide +kernel)
theorem r_261_69 : xfetch 261 69 = some (.aload_n 0, 1) := by decide +kernel
theorem n_261_69 : ∀ l, xpr 261 69 l = l := xpr_no (by decide +kernel)
theorem r_261_70 : xfetch 261 70 = some (.iload 5, 2) := by decide +kernel
theorem n_261_70 : ∀ l, xpr 261 70 l = l := xpr_no (by decide +kernel)
theorem r_261_72 : xfetch 261 72 = some (.iconst 4, 1) := by decide +kernel
theorem n_261_72 : ∀ l, xpr 261 72 l = l := xpr_no (by decide +kernel)
theorem r_261_73 : xfetch 261 73 = some (.invokevirtual 228, 3) := by decide +kernel
theorem n_261_73 : ∀ l, xpr 261 73 l = l := xpr_no (by decide +kernel)
theorem r_261_76 : xfetch 261 76 = some (.if_icmp .ge 8, 3) := by decide +kernel
theorem n_261_76 : ∀ l, xpr 261 76 l = l := xpr_no (by decide +kernel)
theorem r_261_79 : xfetch 261 79 = some (.iload 6, 2) := by decide +kernel
theorem n_261_79 : ∀ l, xpr 261 79 l = l := xpr_no (by decide +kernel)
theorem r_261_81 : xfetch 261 81 = some (.goto 5, 3) := by decide +kernel
theorem n_261_81 : ∀ l, xpr 261 81 l = l := xpr_no (by decide +kernel)
theorem r_261_84 : xfetch 261 84 = some (.iload 5, 2) := by decide +kernel
theorem n_261_84 : ∀ l, xpr 261 84 l = l := xpr_no (by decide +kernel)
theorem r_261_86 : xfetch 261 86 = some (.istore 5, 2) := by decide +kernel
theorem n_261_86 : ∀ l, xpr 261 86 l = l := xpr_no (by decide +kernel)
theorem r_261_88 : xfetch 261 88 = some (.iinc 6 1, 3) := by decide +kernel
theorem n_261_88 : ∀ l, xpr 261 88 l = l := xpr_no (by decide +kernel)
theorem r_261_91 : xfetch 261 91 = some (.goto (-61), 3) := by decide +kernel
theorem n_261_91 : ∀ l, xpr 261 91 l = l := xpr_no (by decide +kernel)
theorem r_261_94 : xfetch 261 94 = some (.iload 5, 2) := by decide +kernel
theorem n_261_94 : ∀ l, xpr 261 94 l = l := xpr_no (by decide +kernel)
theorem r_261_96 : xfetch 261 96 = some (.iconst (-1), 1) := by decide +kernel
theorem n_261_96 : ∀ l, xpr 261 96 l = l := xpr_no (by decide +kernel)
theorem r_261_97 : xfetch 261 97 = some (.if_icmp .eq 116, 3) := by decide +kernel
theorem n_261_97 : ∀ l, xpr 261 97 l = l := xpr_no (by decide +kernel)
theorem r_261_100 : xfetch 261 100 = some (.aload_n 0, 1) := by decide +kernel
theorem n_261_100 : ∀ l, xpr 261 100 l = l := xpr_no (by decide +kernel)
theorem r_261_101 : xfetch 261 101 = some (.iload 5, 2) := by decide +kernel
theorem n_261_101 : ∀ l, xpr 261 101 l = l := xpr_no (by decide +kernel)
theorem r_261_103 : xfetch 261 103 = some (.iconst 4, 1) := by decide +kernel
theorem n_261_103 : ∀ l, xpr 261 103 l = l := xpr_no (by decide +kernel)
theorem r_261_104 : xfetch 261 104 = some (.invokevirtual 228, 3) := by decide +kernel
theorem n_261_104 : ∀ l, xpr 261 104 l = l := xpr_no (by decide +kernel)
theorem r_261_107 : xfetch 261 107 = some (.istore 6, 2) := by decide +kernel
theorem n_261_107 : ∀ l, xpr 261 107 l = l := xpr_no (by decide +kernel)
theorem r_261_109 : xfetch 261 109 = some (.iload 6, 2) := by decide +kernel
theorem n_261_109 : ∀ l, xpr 261 109 l = l := xpr_no (by decide +kernel)
theorem r_261_111 : xfetch 261 111 = some (.istore_n 3, 1) := by decide +kernel
theorem n_261_111 : ∀ l, xpr 261 111 l = l := xpr_no (by decide +kernel)
theorem r_261_112 : xfetch 261 112 = some (.iload_n 2, 1) := by decide +kernel
theorem n_261_112 : ∀ l, xpr 261 112 l = l := xpr_no (by decide +kernel)
theorem r_261_113 : xfetch 261 113 = some (.bipush 16, 2) := by decide +kernel
theorem n_261_113 : ∀ l, xpr 261 113 l = l := xpr_no (by decide +kernel)
theorem r_261_115 : xfetch 261 115 = some (.invokestatic 112, 3) := by decide +kernel
theorem n_261_115 : ∀ l, xpr 261 115 l = l := xpr_no (by decide +kernel)
theorem r_261_118 : xfetch 261 118 = some (.istore 7, 2) := by decide +kernel
theorem n_261_118 : ∀ l, xpr 261 118 l = l := xpr_no (by decide +kernel)
theorem r_261_120 : xfetch 261 120 = some (.iconst 0, 1) := by decide +kernel
theorem n_261_120 : ∀ l, xpr 261 120 l = l := xpr_no (by decide +kernel)
theorem r_261_121 : xfetch 261 121 = some (.istore 8, 2) := by decide +kernel
theorem n_261_121 : ∀ l, xpr 261 121 l = l := xpr_no (by decide +kernel)
theorem r_261_123 : xfetch 261 123 = some (.iload 8, 2) := by decide +kernel
theorem r_261_125 : xfetch 261 125 = some (.aload_n 0, 1) := by decide +kernel
theorem n_261_125 : ∀ l, xpr 261 125 l = l := xpr_no (by decide +kernel)
theorem r_261_126 : xfetch 261 126 = some (.iload 5, 2) := by decide +kernel
theorem n_261_126 : ∀ l, xpr 261 126 l = l := xpr_no (by decide +kernel)
theorem r_261_128 : xfetch 261 128 = some (.iconst 5, 1) := by decide +kernel
theorem n_261_128 : ∀ l, xpr 261 128 l = l := xpr_no (by decide +kernel)
theorem r_261_129 : xfetch 261 129 = some (.invokevirtual 228, 3) := by decide +kernel
theorem n_261_129 : ∀ l, xpr 261 129 l = l := xpr_no (by decide +kernel)
theorem r_261_132 : xfetch 261 132 = some (.if_icmp .ge 37, 3) := by decide +kernel
theorem n_261_132 : ∀ l, xpr 261 132 l = l := xpr_no (by decide +kernel)
theorem r_261_135 : xfetch 261 135 = some (.aload_n 0, 1) := by decide +kernel
theorem n_261_135 : ∀ l, xpr 261 135 l = l := xpr_no (by decide +kernel)
theorem r_261_136 : xfetch 261 136 = some (.getfield 7, 3) := by decide +kernel
theorem n_261_136 : ∀ l, xpr 261 136 l = l := xpr_no (by decide +kernel)
theorem r_261_139 : xfetch 261 139 = some (.sipush 175, 3) := by decide +kernel
theorem n_261_139 : ∀ l, xpr 261 139 l = l := xpr_no (by decide +kernel)
theorem r_261_142 : xfetch 261 142 = some (.iload 7, 2) := by decide +kernel
theorem n_261_142 : ∀ l, xpr 261 142 l = l := xpr_no (by decide +kernel)
theorem r_261_144 : xfetch 261 144 = some (.iadd, 1) := by decide +kernel
theorem n_261_144 : ∀ l, xpr 261 144 l = l := xpr_no (by decide +kernel)
theorem r_261_145 : xfetch 261 145 = some (.iload 8, 2) := by decide +kernel
theorem n_261_145 : ∀ l, xpr 261 145 l = l := xpr_no (by decide +kernel)
theorem r_261_147 : xfetch 261 147 = some (.iadd, 1) := by decide +kernel
theorem n_261_147 : ∀ l, xpr 261 147 l = l := xpr_no (by decide +kernel)
theorem r_261_148 : xfetch 261 148 = some (.aload_n 0, 1) := by decide +kernel
theorem n_261_148 : ∀ l, xpr 261 148 l = l := xpr_no (by decide +kernel)
theorem r_261_149 : xfetch 261 149 = some (.getfield 7, 3) := by decide +kernel
theorem n_261_149 : ∀ l, xpr 261 149 l = l := xpr_no (by decide +kernel)
theorem r_261_152 : xfetch 261 152 = some (.sipush 175, 3) := by decide +kernel
theorem n_261_152 : ∀ l, xpr 261 152 l = l := xpr_no (by decide +kernel)
theorem r_261_155 : xfetch 261 155 = some (.iload 6, 2) := by decide +kernel
theorem n_261_155 : ∀ l, xpr 261 155 l = l := xpr_no (by decide +kernel)
theorem r_261_157 : xfetch 261 157 = some (.iadd, 1) := by decide +kernel
theorem n_261_157 : ∀ l, xpr 261 157 l = l := xpr_no (by decide +kernel)
theorem r_261_158 : xfetch 261 158 = some (.iload 8, 2) := by decide +kernel
theorem n_261_158 : ∀ l, xpr 261 158 l = l := xpr_no (by decide +kernel)
theorem r_261_160 : xfetch 261 160 = some (.iadd, 1) := by decide +kernel
theorem n_261_160 : ∀ l, xpr 261 160 l = l := xpr_no (by decide +kernel)
theorem r_261_161 : xfetch 261 161 = some (.iaload, 1) := by decide +kernel
theorem n_261_161 : ∀ l, xpr 261 161 l = l := xpr_no (by decide +kernel)
theorem r_261_162 : xfetch 261 162 = some (.iastore, 1) := by decide +kernel
theorem n_261_162 : ∀ l, xpr 261 162 l = l := xpr_no (by decide +kernel)
theorem r_261_163 : xfetch 261 163 = some (.iinc 8 1, 3) := by decide +kernel
theorem n_261_163 : ∀ l, xpr 261 163 l = l := xpr_no (by decide +kernel)
theorem r_261_166 : xfetch 261 166 = some (.goto (-43), 3) := by decide +kernel
theorem n_261_166 : ∀ l, xpr 261 166 l = l := xpr_no (by decide +kernel)
theorem r_261_169 : xfetch 261 169 = some (.aload_n 0, 1) := by decide +kernel
theorem n_261_169 : ∀ l, xpr 261 169 l = l := xpr_no (by decide +kernel)
theorem r_261_170 : xfetch 261 170 = some (.getfield 7, 3) := by decide +kernel
theorem n_261_170 : ∀ l, xpr 261 170 l = l := xpr_no (by decide +kernel)
theorem r_261_173 : xfetch 261 173 = some (.sipush 157, 3) := by decide +kernel
theorem n_261_173 : ∀ l, xpr 261 173 l = l := xpr_no (by decide +kernel)
theorem r_261_176 : xfetch 261 176 = some (.bipush 6, 2) := by decide +kernel
theorem n_261_176 : ∀ l, xpr 261 176 l = l := xpr_no (by decide +kernel)
theorem r_261_178 : xfetch 261 178 = some (.iload 5, 2) := by decide +kernel
theorem n_261_178 : ∀ l, xpr 261 178 l = l := xpr_no (by decide +kernel)
theorem r_261_180 : xfetch 261 180 = some (.imul, 1) := by decide +kernel
theorem n_261_180 : ∀ l, xpr 261 180 l = l := xpr_no (by decide +kernel)
theorem r_261_181 : xfetch 261 181 = some (.iadd, 1) := by decide +kernel
theorem n_261_181 : ∀ l, xpr 261 181 l = l := xpr_no (by decide +kernel)
theorem r_261_182 : xfetch 261 182 = some (.iconst 4, 1) := by decide +kernel
theorem n_261_182 : ∀ l, xpr 261 182 l = l := xpr_no (by decide +kernel)
theorem r_261_183 : xfetch 261 183 = some (.iadd, 1) := by decide +kernel
theorem n_261_183 : ∀ l, xpr 261 183 l = l := xpr_no (by decide +kernel)
theorem r_261_184 : xfetch 261 184 = some (.iload 7, 2) := by decide +kernel
theorem n_261_184 : ∀ l, xpr 261 184 l = l := xpr_no (by decide +kernel)
theorem r_261_186 : xfetch 261 186 = some (.iastore, 1) := by decide +kernel
theorem n_261_186 : ∀ l, xpr 261 186 l = l := xpr_no (by decide +kernel)
theorem r_261_187 : xfetch 261 187 = some (.iload_n 1, 1) := by decide +kernel
theorem n_261_187 : ∀ l, xpr 261 187 l = l := xpr_no (by decide +kernel)
theorem r_261_188 : xfetch 261 188 = some (.iload 7, 2) := by decide +kernel
theorem n_261_188 : ∀ l, xpr 261 188 l = l := xpr_no (by decide +kernel)
theorem r_261_190 : xfetch 261 190 = some (.iload 6, 2) := by decide +kernel
theorem n_261_190 : ∀ l, xpr 261 190 l = l := xpr_no (by decide +kernel)
theorem r_261_192 : xfetch 261 192 = some (.if_icmp .ne 7, 3) := by decide +kernel
theorem n_261_192 : ∀ l, xpr 261 192 l = l := xpr_no (by decide +kernel)
theorem r_261_195 : xfetch 261 195 = some (.iconst 0, 1) := by decide +kernel
theorem n_261_195 : ∀ l, xpr 261 195 l = l := xpr_no (by decide +kernel)
theorem r_261_196 : xfetch 261 196 = some (.goto 4, 3) := by decide +kernel
theorem n_261_196 : ∀ l, xpr 261 196 l = l := xpr_no (by decide +kernel)
theorem r_261_199 : xfetch 261 199 = some (.iconst 1, 1) := by decide +kernel
theorem n_261_199 : ∀ l, xpr 261 199 l = l := xpr_no (by decide +kernel)
theorem r_261_200 : xfetch 261 200 = some (.iadd, 1) := by decide +kernel
theorem n_261_200 : ∀ l, xpr 261 200 l = l := xpr_no (by decide +kernel)
theorem r_261_201 : xfetch 261 201 = some (.istore_n 1, 1) := by decide +kernel
theorem n_261_201 : ∀ l, xpr 261 201 l = l := xpr_no (by decide +kernel)
theorem r_261_202 : xfetch 261 202 = some (.iload 7, 2) := by decide +kernel
theorem n_261_202 : ∀ l, xpr 261 202 l = l := xpr_no (by decide +kernel)
theorem r_261_204 : xfetch 261 204 = some (.aload_n 0, 1) := by decide +kernel
theorem n_261_204 : ∀ l, xpr 261 204 l = l := xpr_no (by decide +kernel)
theorem r_261_205 : xfetch 261 205 = some (.iload 5, 2) := by decide +kernel
theorem n_261_205 : ∀ l, xpr 261 205 l = l := xpr_no (by decide +kernel)
theorem r_261_207 : xfetch 261 207 = some (.iconst 5, 1) := by decide +kernel
theorem n_261_207 : ∀ l, xpr 261 207 l = l := xpr_no (by decide +kernel)
theorem r_261_208 : xfetch 261 208 = some (.invokevirtual 228, 3) := by decide +kernel
theorem n_261_208 : ∀ l, xpr 261 208 l = l := xpr_no (by decide +kernel)
theorem r_261_211 : xfetch 261 211 = some (.iadd, 1) := by decide +kernel
theorem n_261_211 : ∀ l, xpr 261 211 l = l := xpr_no (by decide +kernel)
theorem r_261_212 : xfetch 261 212 = some (.istore_n 2, 1) := by decide +kernel
theorem n_261_212 : ∀ l, xpr 261 212 l = l := xpr_no (by decide +kernel)
theorem r_261_213 : xfetch 261 213 = some (.iinc 4 1, 3) := by decide +kernel
theorem n_261_213 : ∀ l, xpr 261 213 l = l := xpr_no (by decide +kernel)
theorem r_261_216 : xfetch 261 216 = some (.goto (-198), 3) := by decide +kernel
theorem n_261_216 : ∀ l, xpr 261 216 l = l := xpr_no (by decide +kernel)
theorem r_261_219 : xfetch 261 219 = some (.iload_n 1, 1) := by decide +kernel
theorem n_261_219 : ∀ l, xpr 261 219 l = l := xpr_no (by decide +kernel)
theorem r_261_220 : xfetch 261 220 = some (.ireturn, 1) := by decide +kernel
theorem n_261_220 : ∀ l, xpr 261 220 l = l := xpr_no (by decide +kernel)
theorem v_Model_compact_0 {S : Option (Nat × (Nat → Int32))} {s : zSt} {Q : Option Value ⊕ Nat → zSt → Prop}  
    (h : wp S 182 0 [(0, rf 252)] [] (zwI s 252 3 0) (fun o1 s1 => zkU (wp S 261 18 [(0, rf 252), (1, iv 0), (2, iv 0), (3, iv (-1)), (4, iv 0)] [] s1 Q) (fun e1 => False) o1)) :
    wp S 261 0 [(0, rf 252)] [] s Q := by
  refine i_aload_n (a := 252) r_261_0 (n_261_0 _) rfl ?_
  refine i_iconst r_261_1 (n_261_1 _) ?_
  refine i_putI (a := 252) (x := 0) r_261_2 (n_261_2 _) rfl (.inl rfl) rfl lf_252 ⟨by omega, by omega⟩ ?_
  refine i_aload_n (a := 252) r_261_5 (n_261_5 _) rfl ?_
  refine wp_virt (b := 252) (rest := []) (Ls := [(0, rf 252)]) r_261_6 (n_261_6 _) rfl ⟨rfl, rfl, by decide, by decide⟩ rfl rfl lf_252 ⟨rfl, Nat.le_of_ble_eq_true rfl, Nat.le_of_ble_eq_true rfl⟩ rfl h ?_
  intro o1 s1 h
  rcases h with ⟨rfl, h⟩ | ⟨e1, rfl, h⟩
  · refine .inl ⟨none, rfl, ?_⟩
    refine i_iconst r_261_9 (n_261_9 _) ?_
    refine i_istore_n (l' := [(0, rf 252), (1, iv 0)]) r_261_10 (n_261_10 _) (by decide) rfl ?_
    refine i_iconst r_261_11 (n_261_11 _) ?_
    refine i_istore_n (l' := [(0, rf 252), (1, iv 0), (2, iv 0)]) r_261_12 (n_261_12 _) (by decide) rfl ?_
    refine i_iconst r_261_13 (n_261_13 _) ?_
    refine i_istore_n (l' := [(0, rf 252), (1, iv 0), (2, iv 0), (3, iv (-1))]) r_261_14 (n_261_14 _) (by decide) rfl ?_
    refine i_iconst r_261_15 (n_261_15 _) ?_
    refine i_istore (l' := [(0, rf 252), (1, iv 0), (2, iv 0), (3, iv (-1)), (4, iv 0)]) r_261_16 (n_261_16 _) (by decide) rfl ?_
    exact wp_pr (l' := [(0, rf 252), (1, iv 0), (2, iv 0), (3, iv (-1)), (4, iv 0)]) rfl h
  · skip
    exact h.elim
theorem v_Model_compact_18 {S : Option (Nat × (Nat → Int32))} {s : zSt} {Q : Option Value ⊕ Nat → zSt → Prop} {x1 : Int} {x2 : Int} {x3 : Int} {x4 : Int} 
    (h : rng x4 ∧ ((3 ≤ x4 → Q (rI x1) s) ∧ (x4 < 3 → wp S 261 30 [(0, rf 252), (1, iv x1), (2, iv x2), (3, iv x3), (4, iv x4), (5, iv (-1)), (6, iv 0)] [] s Q))) :
    wp S 261 18 [(0, rf 252), (1, iv x1), (2, iv x2), (3, iv x3), (4, iv x4)] [] s Q := by
  refine i_iload (x := x4) r_261_18 rfl rfl ?_
  refine i_iconst r_261_20 (n_261_20 _) ?_
  obtain ⟨g1, h⟩ := h
  refine i_icmp (t := 219) r_261_21 (n_261_21 _) rfl (T_ge g1 ⟨by omega, by omega⟩) (fun c2 => ?_) (fun c2 => ?_)
  · replace h := h.1 c2
    refine i_iload_n (x := x1) r_261_219 (n_261_219 _) rfl ?_
    exact i_ireturn r_261_220 (n_261_220 _) rfl h
  · replace h := h.2 c2
    refine i_iconst r_261_24 (n_261_24 _) ?_
    refine i_istore (l' := [(0, rf 252), (1, iv x1), (2, iv x2), (3, iv x3), (4, iv x4), (5, iv (-1))]) r_261_25 (n_261_25 _) (by decide) rfl ?_
    refine i_iconst r_261_27 (n_261_27 _) ?_
    refine i_istore (l' := [(0, rf 252), (1, iv x1), (2, iv x2), (3, iv x3), (4, iv x4), (5, iv (-1)), (6, iv 0)]) r_261_28 (n_261_28 _) (by decide) rfl ?_
    exact wp_pr (l' := [(0, rf 252), (1, iv x1), (2, iv x2), (3, iv x3), (4, iv x4), (5, iv (-1)), (6, iv 0)]) rfl h
theorem v_Model_compact_30 {S : Option (Nat × (Nat → Int32))} {s : zSt} {Q : Option Value ⊕ Nat → zSt → Prop} {x1 : Int} {x2 : Int} {x3 : Int} {x4 : Int} {x5 : Int} {x6 : Int} 
    (h : rng x6 ∧ ((3 ≤ x6 → rng x5 ∧ ((x5 = (-1) → wp S 261 18 [(0, rf 252), (1, iv x1), (2, iv x2), (3, iv x3), (4, iv (x4 + 1))] [] s Q) ∧ (x5 ≠ (-1) → (0 ≤ ((157 + (6 * x5)) + 4) ∧ ((157 + (6 * x5)) + 4) < 1199) ∧ (rng (x2 + 16 - 1) ∧ ((0 ≤ x2 + 16 - 1) ∧ (wp S 261 123 [(0, rf 252), (1, iv x1), (3, iv (zI s 253 ((157 + (6 * x5)) + 4))), (4, iv x4), (5, iv x5), (6, iv (zI s 253 ((157 + (6 * x5)) + 4))), (7, iv (zup x2 16)), (8, iv 0)] [] s Q)))))) ∧ (x6 < 3 → (¬ (0 ≤ x6 ∧ x6 ≤ 2 ∧ zI s 253 (157 + 6 * x6) ≠ -1) → wp S 261 30 [(0, rf 252), (1, iv x1), (2, iv x2), (3, iv x3), (4, iv x4), (5, iv x5), (6, iv (x6 + 1))] [] s Q) ∧ (0 ≤ x6 ∧ x6 ≤ 2 ∧ zI s 253 (157 + 6 * x6) ≠ -1 → (0 ≤ ((157 + (6 * x6)) + 4) ∧ ((157 + (6 * x6)) + 4) < 1199) ∧ (rng x3 ∧ (((zI s 253 ((157 + (6 * x6)) + 4)) ≤ x3 → wp S 261 30 [(0, rf 252), (1, iv x1), (2, iv x2), (3, iv x3), (4, iv x4), (5, iv x5), (6, iv (x6 + 1))] [] s Q) ∧ (x3 < (zI s 253 ((157 + (6 * x6)) + 4)) → rng x5 ∧ ((x5 = (-1) → wp S 261 30 [(0, rf 252), (1, iv x1), (2, iv x2), (3, iv x3), (4, iv x4), (5, iv x6), (6, iv (x6 + 1))] [] s Q) ∧ (x5 ≠ (-1) → (0 ≤ ((157 + (6 * x5)) + 4) ∧ ((157 + (6 * x5)) + 4) < 1199) ∧ (((zI s 253 ((157 + (6 * x5)) + 4)) ≤ (zI s 253 ((157 + (6 * x6)) + 4)) → wp S 261 30 [(0, rf 252), (1, iv x1), (2, iv x2), (3, iv x3), (4, iv x4), (5, iv x5), (6, iv (x6 + 1))] [] s Q) ∧ ((zI s 253 ((157 + (6 * x6)) + 4)) < (zI s 253 ((157 + (6 * x5)) + 4)) → wp S 261 30 [(0, rf 252), (1, iv x1), (2, iv x2), (3, iv x3), (4, iv x4), (5, iv x6), (6, iv (x6 + 1))] [] s Q))))))))))) :
    wp S 261 30 [(0, rf 252), (1, iv x1), (2, iv x2), (3, iv x3), (4, iv x4), (5, iv x5), (6, iv x6)] [] s Q := by
  refine i_iload (x := x6) r_261_30 rfl rfl ?_
  refine i_iconst r_261_32 (n_261_32 _) ?_
  obtain ⟨g1, h⟩ := h
  refine i_icmp (t := 94) r_261_33 (n_261_33 _) rfl (T_ge g1 ⟨by omega, by omega⟩) (fun c2 => ?_) (fun c2 => ?_)
  · replace h := h.1 c2
    refine i_iload (x := x5) r_261_94 (n_261_94 _) rfl ?_
    refine i_iconst r_261_96 (n_261_96 _) ?_
    obtain ⟨g3, h⟩ := h
    refine i_icmp (t := 213) r_261_97 (n_261_97 _) rfl (T_eq g3 ⟨by omega, by omega⟩) (fun c4 => ?_) (fun c4 => ?_)
    · replace h := h.1 c4
      refine i_iinc (x := x4) (l' := [(0, rf 252), (1, iv x1), (2, iv x2), (3, iv x3), (4, iv (x4 + 1)), (5, iv x5), (6, iv x6)]) r_261_213 (n_261_213 _) (by decide) rfl rfl ?_
      refine i_goto (t := 18) r_261_216 (n_261_216 _) rfl ?_
      exact wp_pr (l' := [(0, rf 252), (1, iv x1), (2, iv x2), (3, iv x3), (4, iv (x4 + 1))]) rfl h
    · replace h := h.2 c4
      refine i_aload_n (a := 252) r_261_100 (n_261_100 _) rfl ?_
      refine i_iload (x := x5) r_261_101 (n_261_101 _) rfl ?_
      refine i_iconst r_261_103 (n_261_103 _) ?_
      obtain ⟨g5, h⟩ := h
      refine wp_virt (b := 252) (rest := []) (Ls := [(0, rf 252), (1, iv x5), (2, iv 4)]) r_261_104 (n_261_104 _) rfl ⟨rfl, rfl, by decide, by decide⟩ rfl rfl lf_252 ⟨rfl, Nat.le_of_ble_eq_true rfl, Nat.le_of_ble_eq_true rfl⟩ rfl (K_Model_of g5) ?_
      rintro _ _ ⟨rfl, rfl⟩
      refine .inl ⟨some (iv (zI s 253 ((157 + (6 * x5)) + 4))), rfl, ?_⟩
      show wp S 261 107 [(0, rf 252), (1, iv x1), (2, iv x2), (3, iv x3), (4, iv x4), (5, iv x5), (6, iv x6)] [iv (zI s 253 ((157 + (6 * x5)) + 4))] s Q
      refine wp_rd (a := 253) (j := ((157 + (6 * x5)) + 4)) (fun q7 => ?_)
      refine i_istore (l' := [(0, rf 252), (1, iv x1), (2, iv x2), (3, iv x3), (4, iv x4), (5, iv x5), (6, iv (zI s 253 ((157 + (6 * x5)) + 4)))]) r_261_107 (n_261_107 _) (by decide) rfl ?_
      refine i_iload (x := zI s 253 ((157 + (6 * x5)) + 4)) r_261_109 (n_261_109 _) rfl ?_
      refine i_istore_n (l' := [(0, rf 252), (1, iv x1), (2, iv x2), (3, iv (zI s 253 ((157 + (6 * x5)) + 4))), (4, iv x4), (5, iv x5), (6, iv (zI s 253 ((157 + (6 * x5)) + 4)))]) r_261_111 (n_261_111 _) (by decide) rfl ?_
      refine i_iload_n (x := x2) r_261_112 (n_261_112 _) rfl ?_
      refine i_bipush r_261_113 (n_261_113 _) rfl ?_
      obtain ⟨g8, h⟩ := h
      obtain ⟨g9, h⟩ := h
      refine wp_stat (rest := []) (Ls := [(0, iv x2), (1, iv 16)]) r_261_115 (n_261_115 _) rfl ⟨rfl, by decide, by decide, by decide⟩ rfl rfl ⟨rfl, Nat.le_of_ble_eq_true rfl, Nat.le_of_ble_eq_true rfl⟩ rfl (K_Model_up g8 ⟨by omega, by omega⟩ g9 (by omega)) ?_
      rintro _ _ ⟨rfl, rfl⟩
      refine .inl ⟨some (iv (zup x2 16)), rfl, ?_⟩
      show wp S 261 118 [(0, rf 252), (1, iv x1), (2, iv x2), (3, iv (zI s 253 ((157 + (6 * x5)) + 4))), (4, iv x4), (5, iv x5), (6, iv (zI s 253 ((157 + (6 * x5)) + 4)))] [iv (zup x2 16)] s Q
      refine i_istore (l' := [(0, rf 252), (1, iv x1), (2, iv x2), (3, iv (zI s 253 ((157 + (6 * x5)) + 4))), (4, iv x4), (5, iv x5), (6, iv (zI s 253 ((157 + (6 * x5)) + 4))), (7, iv (zup x2 16))]) r_261_118 (n_261_118 _) (by decide) rfl ?_
      refine i_iconst r_261_120 (n_261_120 _) ?_
      refine i_istore (l' := [(0, rf 252), (1, iv x1), (2, iv x2), (3, iv (zI s 253 ((157 + (6 * x5)) + 4))), (4, iv x4), (5, iv x5), (6, iv (zI s 253 ((157 + (6 * x5)) + 4))), (7, iv (zup x2 16)), (8, iv 0)]) r_261_121 (n_261_121 _) (by decide) rfl ?_
      exact wp_pr (l' := [(0, rf 252), (1, iv x1), (3, iv (zI s 253 ((157 + (6 * x5)) + 4))), (4, iv x4), (5, iv x5), (6, iv (zI s 253 ((157 + (6 * x5)) + 4))), (7, iv (zup x2 16)), (8, iv 0)]) rfl h
  · replace h := h.2 c2
    refine i_aload_n (a := 252) r_261_36 (n_261_36 _) rfl ?_
    refine i_iload (x := x6) r_261_37 (n_261_37 _) rfl ?_
    refine wp_virt (b := 252) (rest := []) (Ls := [(0, rf 252), (1, iv x6)]) r_261_39 (n_261_39 _) rfl ⟨rfl, rfl, by decide, by decide⟩ rfl rfl lf_252 ⟨rfl, Nat.le_of_ble_eq_true rfl, Nat.le_of_ble_eq_true rfl⟩ rfl (K_Model_isTable g1) ?_
    rintro _ _ ⟨rfl, rfl⟩
    refine .inl ⟨some (iv (bi (0 ≤ x6 ∧ x6 ≤ 2 ∧ zI s 253 (157 + 6 * x6) ≠ -1))), rfl, ?_⟩
    show wp S 261 42 [(0, rf 252), (1, iv x1), (2, iv x2), (3, iv x3), (4, iv x4), (5, iv x5), (6, iv x6)] [iv (bi (0 ≤ x6 ∧ x6 ≤ 2 ∧ zI s 253 (157 + 6 * x6) ≠ -1))] s Q
    refine i_if (t := 84) r_261_42 (n_261_42 _) rfl (TB_eq) (fun c12 => ?_) (fun c12 => ?_)
    · replace h := h.1 c12
      refine i_iload (x := x5) r_261_84 (n_261_84 _) rfl ?_
      refine i_istore (l' := [(0, rf 252), (1, iv x1), (2, iv x2), (3, iv x3), (4, iv x4), (5, iv x5), (6, iv x6)]) r_261_86 (n_261_86 _) (by decide) rfl ?_
      refine i_iinc (x := x6) (l' := [(0, rf 252), (1, iv x1), (2, iv x2), (3, iv x3), (4, iv x4), (5, iv x5), (6, iv (x6 + 1))]) r_261_88 (n_261_88 _) (by decide) rfl rfl ?_
      refine i_goto (t := 30) r_261_91 (n_261_91 _) rfl ?_
      exact wp_pr (l' := [(0, rf 252), (1, iv x1), (2, iv x2), (3, iv x3), (4, iv x4), (5, iv x5), (6, iv (x6 + 1))]) rfl h
    · replace h := h.2 c12
      refine i_aload_n (a := 252) r_261_45 (n_261_45 _) rfl ?_
      refine i_iload (x := x6) r_261_46 (n_261_46 _) rfl ?_
      refine i_iconst r_261_48 (n_261_48 _) ?_
      obtain ⟨g13, h⟩ := h
      refine wp_virt (b := 252) (rest := []) (Ls := [(0, rf 252), (1, iv x6), (2, iv 4)]) r_261_49 (n_261_49 _) rfl ⟨rfl, rfl, by decide, by decide⟩ rfl rfl lf_252 ⟨rfl, Nat.le_of_ble_eq_true rfl, Nat.le_of_ble_eq_true rfl⟩ rfl (K_Model_of g13) ?_
      rintro _ _ ⟨rfl, rfl⟩
      refine .inl ⟨some (iv (zI s 253 ((157 + (6 * x6)) + 4))), rfl, ?_⟩
      show wp S 261 52 [(0, rf 252), (1, iv x1), (2, iv x2), (3, iv x3), (4, iv x4), (5, iv x5), (6, iv x6)] [iv (zI s 253 ((157 + (6 * x6)) + 4))] s Q
      refine wp_rd (a := 253) (j := ((157 + (6 * x6)) + 4)) (fun q15 => ?_)
      refine i_iload_n (x := x3) r_261_52 (n_261_52 _) rfl ?_
      obtain ⟨g16, h⟩ := h
      refine i_icmp (t := 84) r_261_53 (n_261_53 _) rfl (T_le q15 g16) (fun c17 => ?_) (fun c17 => ?_)
      · replace h := h.1 c17
        refine i_iload (x := x5) r_261_84 (n_261_84 _) rfl ?_
        refine i_istore (l' := [(0, rf 252), (1, iv x1), (2, iv x2), (3, iv x3), (4, iv x4), (5, iv x5), (6, iv x6)]) r_261_86 (n_261_86 _) (by decide) rfl ?_
        refine i_iinc (x := x6) (l' := [(0, rf 252), (1, iv x1), (2, iv x2), (3, iv x3), (4, iv x4), (5, iv x5), (6, iv (x6 + 1))]) r_261_88 (n_261_88 _) (by decide) rfl rfl ?_
        refine i_goto (t := 30) r_261_91 (n_261_91 _) rfl ?_
        exact wp_pr (l' := [(0, rf 252), (1, iv x1), (2, iv x2), (3, iv x3), (4, iv x4), (5, iv x5), (6, iv (x6 + 1))]) rfl h
      · replace h := h.2 c17
        refine i_iload (x := x5) r_261_56 (n_261_56 _) rfl ?_
        refine i_iconst r_261_58 (n_261_58 _) ?_
        obtain ⟨g18, h⟩ := h
        refine i_icmp (t := 79) r_261_59 (n_261_59 _) rfl (T_eq g18 ⟨by omega, by omega⟩) (fun c19 => ?_) (fun c19 => ?_)
        · replace h := h.1 c19
          refine i_iload (x := x6) r_261_79 (n_261_79 _) rfl ?_
          refine i_goto (t := 86) r_261_81 (n_261_81 _) rfl ?_
          refine i_istore (l' := [(0, rf 252), (1, iv x1), (2, iv x2), (3, iv x3), (4, iv x4), (5, iv x6), (6, iv x6)]) r_261_86 (n_261_86 _) (by decide) rfl ?_
          refine i_iinc (x := x6) (l' := [(0, rf 252), (1, iv x1), (2, iv x2), (3, iv x3), (4, iv x4), (5, iv x6), (6, iv (x6 + 1))]) r_261_88 (n_261_88 _) (by decide) rfl rfl ?_
          refine i_goto (t := 30) r_261_91 (n_261_91 _) rfl ?_
          exact wp_pr (l' := [(0, rf 252), (1, iv x1), (2, iv x2), (3, iv x3), (4, iv x4), (5, iv x6), (6, iv (x6 + 1))]) rfl h
        · replace h := h.2 c19
          refine i_aload_n (a := 252) r_261_62 (n_261_62 _) rfl ?_
          refine i_iload (x := x6) r_261_63 (n_261_63 _) rfl ?_
          refine i_iconst r_261_65 (n_261_65 _) ?_
          refine wp_virt (b := 252) (rest := []) (Ls := [(0, rf 252), (1, iv x6), (2, iv 4)]) r_261_66 (n_261_66 _) rfl ⟨rfl, rfl, by decide, by decide⟩ rfl rfl lf_252 ⟨rfl, Nat.le_of_ble_eq_true rfl, Nat.le_of_ble_eq_true rfl⟩ rfl (K_Model_of g13) ?_
          rintro _ _ ⟨rfl, rfl⟩
          refine .inl ⟨some (iv (zI s 253 ((157 + (6 * x6)) + 4))), rfl, ?_⟩
          show wp S 261 69 [(0, rf 252), (1, iv x1), (2, iv x2), (3, iv x3), (4, iv x4), (5, iv x5), (6, iv x6)] [iv (zI s 253 ((157 + (6 * x6)) + 4))] s Q
          refine i_aload_n (a := 252) r_261_69 (n_261_69 _) rfl ?_
          refine i_iload (x := x5) r_261_70 (n_261_70 _) rfl ?_
          refine i_iconst r_261_72 (n_261_72 _) ?_
          obtain ⟨g22, h⟩ := h
          refine wp_virt (b := 252) (rest := [iv (zI s 253 ((157 + (6 * x6)) + 4))]) (Ls := [(0, rf 252), (1, iv x5), (2, iv 4)]) r_261_73 (n_261_73 _) rfl ⟨rfl, rfl, by decide, by decide⟩ rfl rfl lf_252 ⟨rfl, Nat.le_of_ble_eq_true rfl, Nat.le_of_ble_eq_true rfl⟩ rfl (K_Model_of g22) ?_
          rintro _ _ ⟨rfl, rfl⟩
          refine .inl ⟨some (iv (zI s 253 ((157 + (6 * x5)) + 4))), rfl, ?_⟩
          show wp S 261 76 [(0, rf 252), (1, iv x1), (2, iv x2), (3, iv x3), (4, iv x4), (5, iv x5), (6, iv x6)] [iv (zI s 253 ((157 + (6 * x5)) + 4)), iv (zI s 253 ((157 + (6 * x6)) + 4))] s Q
          refine wp_rd (a := 253) (j := ((157 + (6 * x5)) + 4)) (fun q24 => ?_)
          refine i_icmp (t := 84) r_261_76 (n_261_76 _) rfl (T_ge q15 q24) (fun c25 => ?_) (fun c25 => ?_)
          · replace h := h.1 c25
            refine i_iload (x := x5) r_261_84 (n_261_84 _) rfl ?_
            refine i_istore (l' := [(0, rf 252), (1, iv x1), (2, iv x2), (3, iv x3), (4, iv x4), (5, iv x5), (6, iv x6)]) r_261_86 (n_261_86 _) (by decide) rfl ?_
            refine i_iinc (x := x6) (l' := [(0, rf 252), (1, iv x1), (2, iv x2), (3, iv x3), (4, iv x4), (5, iv x5), (6, iv (x6 + 1))]) r_261_88 (n_261_88 _) (by decide) rfl rfl ?_
            refine i_goto (t := 30) r_261_91 (n_261_91 _) rfl ?_
            exact wp_pr (l' := [(0, rf 252), (1, iv x1), (2, iv x2), (3, iv x3), (4, iv x4), (5, iv x5), (6, iv (x6 + 1))]) rfl h
          · replace h := h.2 c25
            refine i_iload (x := x6) r_261_79 (n_261_79 _) rfl ?_
            refine i_goto (t := 86) r_261_81 (n_261_81 _) rfl ?_
            refine i_istore (l' := [(0, rf 252), (1, iv x1), (2, iv x2), (3, iv x3), (4, iv x4), (5, iv x6), (6, iv x6)]) r_261_86 (n_261_86 _) (by decide) rfl ?_
            refine i_iinc (x := x6) (l' := [(0, rf 252), (1, iv x1), (2, iv x2), (3, iv x3), (4, iv x4), (5, iv x6), (6, iv (x6 + 1))]) r_261_88 (n_261_88 _) (by decide) rfl rfl ?_
            refine i_goto (t := 30) r_261_91 (n_261_91 _) rfl ?_
            exact wp_pr (l' := [(0, rf 252), (1, iv x1), (2, iv x2), (3, iv x3), (4, iv x4), (5, iv x6), (6, iv (x6 + 1))]) rfl h
theorem v_Model_compact_123 {S : Option (Nat × (Nat → Int32))} {s : zSt} {Q : Option Value ⊕ Nat → zSt → Prop} {x1 : Int} {x3 : Int} {x4 : Int} {x5 : Int} {x6 : Int} {x7 : Int} {x8 : Int} 
    (h : (0 ≤ ((157 + (6 * x5)) + 5) ∧ ((157 + (6 * x5)) + 5) < 1199) ∧ (rng x8 ∧ (((zI s 253 ((157 + (6 * x5)) + 5)) ≤ x8 → (0 ≤ ((157 + (6 * x5)) + 4) ∧ ((157 + (6 * x5)) + 4) < 1199) ∧ (rng x7 ∧ (rng x6 ∧ ((x7 ≠ x6 → wp S 261 18 [(0, rf 252), (1, iv (x1 + 1)), (2, iv (x7 + (zI s 253 ((157 + (6 * x5)) + 5)))), (3, iv x3), (4, iv (x4 + 1))] [] (zwI s 253 ((157 + (6 * x5)) + 4) x7) Q) ∧ (x7 = x6 → wp S 261 18 [(0, rf 252), (1, iv (x1 + 0)), (2, iv (x7 + (zI s 253 ((157 + (6 * x5)) + 5)))), (3, iv x3), (4, iv (x4 + 1))] [] (zwI s 253 ((157 + (6 * x5)) + 4) x7) Q))))) ∧ (x8 < (zI s 253 ((157 + (6 * x5)) + 5)) → (0 ≤ ((175 + x6) + x8) ∧ ((175 + x6) + x8) < 1199) ∧ ((0 ≤ ((175 + x7) + x8) ∧ ((175 + x7) + x8) < 1199) ∧ (wp S 261 123 [(0, rf 252), (1, iv x1), (3, iv x3), (4, iv x4), (5, iv x5), (6, iv x6), (7, iv x7), (8, iv (x8 + 1))] [] (zwI s 253 ((175 + x7) + x8) (zI s 253 ((175 + x6) + x8))) Q)))))) :
    wp S 261 123 [(0, rf 252), (1, iv x1), (3, iv x3), (4, iv x4), (5, iv x5), (6, iv x6), (7, iv x7), (8, iv x8)] [] s Q := by
  refine i_iload (x := x8) r_261_123 rfl rfl ?_
  refine i_aload_n (a := 252) r_261_125 (n_261_125 _) rfl ?_
  refine i_iload (x := x5) r_261_126 (n_261_126 _) rfl ?_
  refine i_iconst r_261_128 (n_261_128 _) ?_
  obtain ⟨g1, h⟩ := h
  refine wp_virt (b := 252) (rest := [iv x8]) (Ls := [(0, rf 252), (1, iv x5), (2, iv 5)]) r_261_129 (n_261_129 _) rfl ⟨rfl, rfl, by decide, by decide⟩ rfl rfl lf_252 ⟨rfl, Nat.le_of_ble_eq_true rfl, Nat.le_of_ble_eq_true rfl⟩ rfl (K_Model_of g1) ?_
  rintro _ _ ⟨rfl, rfl⟩
  refine .inl ⟨some (iv (zI s 253 ((157 + (6 * x5)) + 5))), rfl, ?_⟩
  show wp S 261 132 [(0, rf 252), (1, iv x1), (3, iv x3), (4, iv x4), (5, iv x5), (6, iv x6), (7, iv x7), (8, iv x8)] [iv (zI s 253 ((157 + (6 * x5)) + 5)), iv x8] s Q
  refine wp_rd (a := 253) (j := ((157 + (6 * x5)) + 5)) (fun q3 => ?_)
  obtain ⟨g4, h⟩ := h
  refine i_icmp (t := 169) r_261_132 (n_261_132 _) rfl (T_ge g4 q3) (fun c5 => ?_) (fun c5 => ?_)
  · replace h := h.1 c5
    refine i_aload_n (a := 252) r_261_169 (n_261_169 _) rfl ?_
    refine i_getR (a := 252) (b := 253) r_261_170 (n_261_170 _) rfl rfl rfl (by omega) lf_252 (by omega) ?_
    refine i_sipush r_261_173 (n_261_173 _) rfl ?_
    refine i_bipush r_261_176 (n_261_176 _) rfl ?_
    refine i_iload (x := x5) r_261_178 (n_261_178 _) rfl ?_
    refine i_imul r_261_180 (n_261_180 _) ?_
    refine i_iadd r_261_181 (n_261_181 _) ?_
    refine i_iconst r_261_182 (n_261_182 _) ?_
    refine i_iadd r_261_183 (n_261_183 _) ?_
    refine i_iload (x := x7) r_261_184 (n_261_184 _) rfl ?_
    obtain ⟨g6, h⟩ := h
    obtain ⟨g7, h⟩ := h
    refine i_iastore (a := 253) (j := (157 + (6 * x5)) + 4) (x := x7) r_261_186 (n_261_186 _) lf_253 ⟨by omega, by omega⟩ (by omega) (by omega) g7 ?_
    refine i_iload_n (x := x1) r_261_187 (n_261_187 _) rfl ?_
    refine i_iload (x := x7) r_261_188 (n_261_188 _) rfl ?_
    refine i_iload (x := x6) r_261_190 (n_261_190 _) rfl ?_
    obtain ⟨g8, h⟩ := h
    refine i_icmp (t := 199) r_261_192 (n_261_192 _) rfl (T_ne g7 g8) (fun c9 => ?_) (fun c9 => ?_)
    · replace h := h.1 c9
      refine i_iconst r_261_199 (n_261_199 _) ?_
      refine i_iadd r_261_200 (n_261_200 _) ?_
      refine i_istore_n (l' := [(0, rf 252), (1, iv (x1 + 1)), (3, iv x3), (4, iv x4), (5, iv x5), (6, iv x6), (7, iv x7), (8, iv x8)]) r_261_201 (n_261_201 _) (by decide) rfl ?_
      refine i_iload (x := x7) r_261_202 (n_261_202 _) rfl ?_
      refine i_aload_n (a := 252) r_261_204 (n_261_204 _) rfl ?_
      refine i_iload (x := x5) r_261_205 (n_261_205 _) rfl ?_
      refine i_iconst r_261_207 (n_261_207 _) ?_
      have e10 : zI (zwI s 253 ((157 + (6 * x5)) + 4) x7) 253 ((157 + (6 * x5)) + 5) = zI s 253 ((157 + (6 * x5)) + 5) := zI_nj (by omega)
      refine wp_virt (b := 252) (rest := [iv x7]) (Ls := [(0, rf 252), (1, iv x5), (2, iv 5)]) r_261_208 (n_261_208 _) rfl ⟨rfl, rfl, by decide, by decide⟩ rfl rfl lf_252 ⟨rfl, Nat.le_of_ble_eq_true rfl, Nat.le_of_ble_eq_true rfl⟩ rfl (K_Model_of (by (try rw [e10]); exact g1)) ?_
      rintro _ _ ⟨rfl, rfl⟩
      refine .inl ⟨some (iv (zI s 253 ((157 + (6 * x5)) + 5))), by (try rw [e10]); (try rfl), ?_⟩
      show wp S 261 211 [(0, rf 252), (1, iv (x1 + 1)), (3, iv x3), (4, iv x4), (5, iv x5), (6, iv x6), (7, iv x7), (8, iv x8)] [iv (zI s 253 ((157 + (6 * x5)) + 5)), iv x7] (zwI s 253 ((157 + (6 * x5)) + 4) x7) Q
      refine i_iadd r_261_211 (n_261_211 _) ?_
      refine i_istore_n (l' := [(0, rf 252), (1, iv (x1 + 1)), (2, iv (x7 + (zI s 253 ((157 + (6 * x5)) + 5)))), (3, iv x3), (4, iv x4), (5, iv x5), (6, iv x6), (7, iv x7), (8, iv x8)]) r_261_212 (n_261_212 _) (by decide) rfl ?_
      refine i_iinc (x := x4) (l' := [(0, rf 252), (1, iv (x1 + 1)), (2, iv (x7 + (zI s 253 ((157 + (6 * x5)) + 5)))), (3, iv x3), (4, iv (x4 + 1)), (5, iv x5), (6, iv x6), (7, iv x7), (8, iv x8)]) r_261_213 (n_261_213 _) (by decide) rfl rfl ?_
      refine i_goto (t := 18) r_261_216 (n_261_216 _) rfl ?_
      exact wp_pr (l' := [(0, rf 252), (1, iv (x1 + 1)), (2, iv (x7 + (zI s 253 ((157 + (6 * x5)) + 5)))), (3, iv x3), (4, iv (x4 + 1))]) rfl h
    · replace h := h.2 c9
      refine i_iconst r_261_195 (n_261_195 _) ?_
      refine i_goto (t := 200) r_261_196 (n_261_196 _) rfl ?_
      refine i_iadd r_261_200 (n_261_200 _) ?_
      refine i_istore_n (l' := [(0, rf 252), (1, iv (x1 + 0)), (3, iv x3), (4, iv x4), (5, iv x5), (6, iv x6), (7, iv x7), (8, iv x8)]) r_261_201 (n_261_201 _) (by decide) rfl ?_
      refine i_iload (x := x7) r_261_202 (n_261_202 _) rfl ?_
      refine i_aload_n (a := 252) r_261_204 (n_261_204 _) rfl ?_
      refine i_iload (x := x5) r_261_205 (n_261_205 _) rfl ?_
      refine i_iconst r_261_207 (n_261_207 _) ?_
      have e12 : zI (zwI s 253 ((157 + (6 * x5)) + 4) x7) 253 ((157 + (6 * x5)) + 5) = zI s 253 ((157 + (6 * x5)) + 5) := zI_nj (by omega)
      refine wp_virt (b := 252) (rest := [iv x7]) (Ls := [(0, rf 252), (1, iv x5), (2, iv 5)]) r_261_208 (n_261_208 _) rfl ⟨rfl, rfl, by decide, by decide⟩ rfl rfl lf_252 ⟨rfl, Nat.le_of_ble_eq_true rfl, Nat.le_of_ble_eq_true rfl⟩ rfl (K_Model_of (by (try rw [e12]); exact g1)) ?_
      rintro _ _ ⟨rfl, rfl⟩
      refine .inl ⟨some (iv (zI s 253 ((157 + (6 * x5)) + 5))), by (try rw [e12]); (try rfl), ?_⟩
      show wp S 261 211 [(0, rf 252), (1, iv (x1 + 0)), (3, iv x3), (4, iv x4), (5, iv x5), (6, iv x6), (7, iv x7), (8, iv x8)] [iv (zI s 253 ((157 + (6 * x5)) + 5)), iv x7] (zwI s 253 ((157 + (6 * x5)) + 4) x7) Q
      refine i_iadd r_261_211 (n_261_211 _) ?_
      refine i_istore_n (l' := [(0, rf 252), (1, iv (x1 + 0)), (2, iv (x7 + (zI s 253 ((157 + (6 * x5)) + 5)))), (3, iv x3), (4, iv x4), (5, iv x5), (6, iv x6), (7, iv x7), (8, iv x8)]) r_261_212 (n_261_212 _) (by decide) rfl ?_
      refine i_iinc (x := x4) (l' := [(0, rf 252), (1, iv (x1 + 0)), (2, iv (x7 + (zI s 253 ((157 + (6 * x5)) + 5)))), (3, iv x3), (4, iv (x4 + 1)), (5, iv x5), (6, iv x6), (7, iv x7), (8, iv x8)]) r_261_213 (n_261_213 _) (by decide) rfl rfl ?_
      refine i_goto (t := 18) r_261_216 (n_261_216 _) rfl ?_
      exact wp_pr (l' := [(0, rf 252), (1, iv (x1 + 0)), (2, iv (x7 + (zI s 253 ((157 + (6 * x5)) + 5)))), (3, iv x3), (4, iv (x4 + 1))]) rfl h
  · replace h := h.2 c5
    refine i_aload_n (a := 252) r_261_135 (n_261_135 _) rfl ?_
    refine i_getR (a := 252) (b := 253) r_261_136 (n_261_136 _) rfl rfl rfl (by omega) lf_252 (by omega) ?_
    refine i_sipush r_261_139 (n_261_139 _) rfl ?_
    refine i_iload (x := x7) r_261_142 (n_261_142 _) rfl ?_
    refine i_iadd r_261_144 (n_261_144 _) ?_
    refine i_iload (x := x8) r_261_145 (n_261_145 _) rfl ?_
    refine i_iadd r_261_147 (n_261_147 _) ?_
    refine i_aload_n (a := 252) r_261_148 (n_261_148 _) rfl ?_
    refine i_getR (a := 252) (b := 253) r_261_149 (n_261_149 _) rfl rfl rfl (by omega) lf_252 (by omega) ?_
    refine i_sipush r_261_152 (n_261_152 _) rfl ?_
    refine i_iload (x := x6) r_261_155 (n_261_155 _) rfl ?_
    refine i_iadd r_261_157 (n_261_157 _) ?_
    refine i_iload (x := x8) r_261_158 (n_261_158 _) rfl ?_
    refine i_iadd r_261_160 (n_261_160 _) ?_
    obtain ⟨g14, h⟩ := h
    refine i_iaload (a := 253) (j := (175 + x6) + x8) r_261_161 (n_261_161 _) lf_253 ⟨by omega, by omega⟩ (by omega) (by omega) (fun q15 => ?_)
    obtain ⟨g16, h⟩ := h
    refine i_iastore (a := 253) (j := (175 + x7) + x8) (x := zI s 253 ((175 + x6) + x8)) r_261_162 (n_261_162 _) lf_253 ⟨by omega, by omega⟩ (by omega) (by omega) q15 ?_
    refine i_iinc (x := x8) (l' := [(0, rf 252), (1, iv x1), (3, iv x3), (4, iv x4), (5, iv x5), (6, iv x6), (7, iv x7), (8, iv (x8 + 1))]) r_261_163 (n_261_163 _) (by decide) rfl rfl ?_
    refine i_goto (t := 123) r_261_166 (n_261_166 _) rfl ?_
    exact wp_pr (l' := [(0, rf 252), (1, iv x1), (3, iv x3), (4, iv x4), (5, iv x5), (6, iv x6), (7, iv x7), (8, iv (x8 + 1))]) rfl h
theorem r_262_0 : xfetch 262 0 = some (.aload_n 0, 1) := by decide +kernel
theorem n_262_0 : ∀ l, xpr 262 0 l = l := xpr_no (by decide +kernel)
theorem r_262_1 : xfetch 262 1 = some (.aload_n 0, 1) := by decide +kernel
theorem n_262_1 : ∀ l, xpr 262 1 l = l := xpr_no (by decide +kernel)
theorem r_262_2 : xfetch 262 2 = some (.aload_n 0, 1) := by decide +kernel
theorem n_262_2 : ∀ l, xpr 262 2 l = l := xpr_no (by decide +kernel)
theorem r_262_3 : xfetch 262 3 = some (.iload_n 1, 1) := by decide +kernel
theorem n_262_3 : ∀ l, xpr 262 3 l = l := xpr_no (by decide +kernel)
theorem r_262_4 : xfetch 262 4 = some (.iload_n 2, 1) := by decide +kernel
theorem n_262_4 : ∀ l, xpr 262 4 l = l := xpr_no (by decide +kernel)
theorem r_262_5 : xfetch 262 5 = some (.invokevirtual 254, 3) := by decide +kernel
theorem n_262_5 : ∀ l, xpr 262 5 l = l := xpr_no (by decide +kernel)
theorem r_262_8 : xfetch 262 8 = some (.invokevirtual 175, 3) := by decide +kernel
theorem n_262_8 : ∀ l, xpr 262 8 l = l := xpr_no (by decide +kernel)
theorem r_262_11 : xfetch 262 11 = some (.invokevirtual 84, 3) := by decide +kernel
theorem n_262_11 : ∀ l, xpr 262 11 l = l := xpr_no (by decide +kernel)
theorem r_262_14 : xfetch 262 14 = some (.ifCond .eq 5, 3) := by decide +kernel
theorem n_262_14 : ∀ l, xpr 262 14 l = l := xpr_no (by decide +kernel)
theorem r_262_17 : xfetch 262 17 = some (.iconst 0, 1) := by decide +kernel
theorem n_262_17 : ∀ l, xpr 262 17 l = l := xpr_no (by decide +kernel)
theorem r_262_18 : xfetch 262 18 = some (.ireturn, 1) := by decide +kernel
theorem n_262_18 : ∀ l, xpr 262 18 l = l := xpr_no (by decide +kernel)
theorem r_262_19 : xfetch 262 19 = some (.aload_n 0, 1) := by decide +kernel
theorem n_262_19 : ∀ l, xpr 262 19 l = l := xpr_no (by decide +kernel)
theorem r_262_20 : xfetch 262 20 = some (.invokevirtual 135, 3) := by decide +kernel
theorem n_262_20 : ∀ l, xpr 262 20 l = l := xpr_no (by decide +kernel)
theorem r_262_23 : xfetch 262 23 = some (.aload_n 0, 1) := by decide +kernel
theorem n_262_23 : ∀ l, xpr 262 23 l = l := xpr_no (by decide +kernel)
theorem r_262_24 : xfetch 262 24 = some (.iload_n 1, 1) := by decide +kernel
theorem n_262_24 : ∀ l, xpr 262 24 l = l := xpr_no (by decide +kernel)
theorem r_262_25 : xfetch 262 25 = some (.invokevirtual 284, 3) := by decide +kernel
theorem n_262_25 : ∀ l, xpr 262 25 l = l := xpr_no (by decide +kernel)
theorem r_262_28 : xfetch 262 28 = some (.iconst 0, 1) := by decide +kernel
theorem n_262_28 : ∀ l, xpr 262 28 l = l := xpr_no (by decide +kernel)
theorem r_262_29 : xfetch 262 29 = some (.istore 4, 2) := by decide +kernel
theorem n_262_29 : ∀ l, xpr 262 29 l = l := xpr_no (by decide +kernel)
theorem r_262_31 : xfetch 262 31 = some (.iconst 0, 1) := by decide +kernel
theorem n_262_31 : ∀ l, xpr 262 31 l = l := xpr_no (by decide +kernel)
theorem r_262_32 : xfetch 262 32 = some (.istore 5, 2) := by decide +kernel
theorem n_262_32 : ∀ l, xpr 262 32 l = l := xpr_no (by decide +kernel)
theorem r_262_34 : xfetch 262 34 = some (.iload 5, 2) := by decide +kernel
theorem r_262_36 : xfetch 262 36 = some (.aload_n 0, 1) := by decide +kernel
theorem n_262_36 : ∀ l, xpr 262 36 l = l := xpr_no (by decide +kernel)
theorem r_262_37 : xfetch 262 37 = some (.iload_n 1, 1) := by decide +kernel
theorem n_262_37 : ∀ l, xpr 262 37 l = l := xpr_no (by decide +kernel)
theorem r_262_38 : xfetch 262 38 = some (.iconst 1, 1) := by decide +kernel
theorem n_262_38 : ∀ l, xpr 262 38 l = l := xpr_no (by decide +kernel)
theorem r_262_39 : xfetch 262 39 = some (.invokevirtual 228, 3) := by decide +kernel
theorem n_262_39 : ∀ l, xpr 262 39 l = l := xpr_no (by decide +kernel)
theorem r_262_42 : xfetch 262 42 = some (.if_icmp .ge 136, 3) := by decide +kernel
theorem n_262_42 : ∀ l, xpr 262 42 l = l := xpr_no (by decide +kernel)
theorem r_262_45 : xfetch 262 45 = some (.iconst 0, 1) := by decide +kernel
theorem n_262_45 : ∀ l, xpr 262 45 l = l := xpr_no (by decide +kernel)
theorem r_262_46 : xfetch 262 46 = some (.istore 6, 2) := by decide +kernel
theorem n_262_46 : ∀ l, xpr 262 46 l = l := xpr_no (by decide +kernel)
theorem r_262_48 : xfetch 262 48 = some (.iconst 0, 1) := by decide +kernel
theorem n_262_48 : ∀ l, xpr 262 48 l = l := xpr_no (by decide +kernel)
theorem r_262_49 : xfetch 262 49 = some (.istore 7, 2) := by decide +kernel
theorem n_262_49 : ∀ l, xpr 262 49 l = l := xpr_no (by decide +kernel)
theorem r_262_51 : xfetch 262 51 = some (.iload 7, 2) := by decide +kernel
theorem r_262_53 : xfetch 262 53 = some (.aload_n 0, 1) := by decide +kernel
theorem n_262_53 : ∀ l, xpr 262 53 l = l := xpr_no (by decide +kernel)
theorem r_262_54 : xfetch 262 54 = some (.iload_n 1, 1) := by decide +kernel
theorem n_262_54 : ∀ l, xpr 262 54 l = l := xpr_no (by decide +kernel)
theorem r_262_55 : xfetch 262 55 = some (.iconst 1, 1) := by decide +kernel
theorem n_262_55 : ∀ l, xpr 262 55 l = l := xpr_no (by decide +kernel)
theorem r_262_56 : xfetch 262 56 = some (.invokevirtual 228, 3) := by decide +kernel
theorem n_262_56 : ∀ l, xpr 262 56 l = l := xpr_no (by decide +kernel)
theorem r_262_59 : xfetch 262 59 = some (.if_icmp .ge 87, 3) := by decide +kernel
theorem n_262_59 : ∀ l, xpr 262 59 l = l := xpr_no (by decide +kernel)
theorem r_262_62 : xfetch 262 62 = some (.aload_n 0, 1) := by decide +kernel
theorem n_262_62 : ∀ l, xpr 262 62 l = l := xpr_no (by decide +kernel)
theorem r_262_63 : xfetch 262 63 = some (.getfield 67, 3) := by decide +kernel
theorem n_262_63 : ∀ l, xpr 262 63 l = l := xpr_no (by decide +kernel)
theorem r_262_66 : xfetch 262 66 = some (.bipush 40, 2) := by decide +kernel
theorem n_262_66 : ∀ l, xpr 262 66 l = l := xpr_no (by decide +kernel)
theorem r_262_68 : xfetch 262 68 = some (.iload 7, 2) := by decide +kernel
theorem n_262_68 : ∀ l, xpr 262 68 l = l := xpr_no (by decide +kernel)
theorem r_262_70 : xfetch 262 70 = some (.imul, 1) := by decide +kernel
theorem n_262_70 : ∀ l, xpr 262 70 l = l := xpr_no (by decide +kernel)
theorem r_262_71 : xfetch 262 71 = some (.iload_n 2, 1) := by decide +kernel
theorem n_262_71 : ∀ l, xpr 262 71 l = l := xpr_no (by decide +kernel)
theorem r_262_72 : xfetch 262 72 = some (.iadd, 1) := by decide +kernel
theorem n_262_72 : ∀ l, xpr 262 72 l = l := xpr_no (by decide +kernel)
theorem r_262_73 : xfetch 262 73 = some (.laload, 1) := by decide +kernel
theorem n_262_73 : ∀ l, xpr 262 73 l = l := xpr_no (by decide +kernel)
theorem r_262_74 : xfetch 262 74 = some (.lstore 8, 2) := by decide +kernel
theorem n_262_74 : ∀ l, xpr 262 74 l = l := xpr_no (by decide +kernel)
theorem r_262_76 : xfetch 262 76 = some (.aload_n 0, 1) := by decide +kernel
theorem n_262_76 : ∀ l, xpr 262 76 l = l := xpr_no (by decide +kernel)
theorem r_262_77 : xfetch 262 77 = some (.getfield 67, 3) := by decide +kernel
theorem n_262_77 : ∀ l, xpr 262 77 l = l := xpr_no (by decide +kernel)
theorem r_262_80 : xfetch 262 80 = some (.bipush 40, 2) := by decide +kernel
theorem n_262_80 : ∀ l, xpr 262 80 l = l := xpr_no (by decide +kernel)
theorem r_262_82 : xfetch 262 82 = some (.iload 5, 2) := by decide +kernel
theorem n_262_82 : ∀ l, xpr 262 82 l = l := xpr_no (by decide +kernel)
theorem r_262_84 : xfetch 262 84 = some (.imul, 1) := by decide +kernel
theorem n_262_84 : ∀ l, xpr 262 84 l = l := xpr_no (by decide +kernel)
theorem r_262_85 : xfetch 262 85 = some (.iload_n 2, 1) := by decide +kernel
theorem n_262_85 : ∀ l, xpr 262 85 l = l := xpr_no (by decide +kernel)
theorem r_262_86 : xfetch 262 86 = some (.iadd, 1) := by decide +kernel
theorem n_262_86 : ∀ l, xpr 262 86 l = l := xpr_no (by decide +kernel)
theorem r_262_87 : xfetch 262 87 = some (.laload, 1) := by decide +kernel
theorem n_262_87 : ∀ l, xpr 262 87 l = l := xpr_no (by decide +kernel)
theorem r_262_88 : xfetch 262 88 = some (.lstore 10, 2) := by decide +kernel
theorem n_262_88 : ∀ l, xpr 262 88 l = l := xpr_no (by decide +kernel)
theorem r_262_90 : xfetch 262 90 = some (.iload 6, 2) := by decide +kernel
theorem n_262_90 : ∀ l, xpr 262 90 l = l := xpr_no (by decide +kernel)
theorem r_262_92 : xfetch 262 92 = some (.lload 8, 2) := by decide +kernel
theorem n_262_92 : ∀ l, xpr 262 92 l = l := xpr_no (by decide +kernel)
theorem r_262_94 : xfetch 262 94 = some (.lload 10, 2) := by decide +kernel
theorem n_262_94 : ∀ l, xpr 262 94 l = l := xpr_no (by decide +kernel)
theorem r_262_96 : xfetch 262 96 = some (.lcmp, 1) := by decide +kernel
theorem n_262_96 : ∀ l, xpr 262 96 l = l := xpr_no (by decide +kernel)
theorem r_262_97 : xfetch 262 97 = some (.ifCond .ne 18, 3) := by decide +kernel
theorem n_262_97 : ∀ l, xpr 262 97 l = l := xpr_no (by decide +kernel)
theorem r_262_100 : xfetch 262 100 = some (.iload 7, 2) := by decide +kernel
theorem n_262_100 : ∀ l, xpr 262 100 l = l := xpr_no (by decide +kernel)
theorem r_262_102 : xfetch 262 102 = some (.iload 5, 2) := by decide +kernel
theorem n_262_102 : ∀ l, xpr 262 102 l = l := xpr_no (by decide +kernel)
theorem r_262_104 : xfetch 262 104 = some (.if_icmp .ge 7, 3) := by decide +kernel
theorem n_262_104 : ∀ l, xpr 262 104 l = l := xpr_no (by decide +kernel)
theorem r_262_107 : xfetch 262 107 = some (.iconst 1, 1) := by decide +kernel
theorem n_262_107 : ∀ l, xpr 262 107 l = l := xpr_no (by decide +kernel)
theorem r_262_108 : xfetch 262 108 = some (.goto 29, 3) := by decide +kernel
theorem n_262_108 : ∀ l, xpr 262 108 l = l := xpr_no (by decide +kernel)
theorem r_262_111 : xfetch 262 111 = some (.iconst 0, 1) := by decide +kernel
theorem n_262_111 : ∀ l, xpr 262 111 l = l := xpr_no (by decide +kernel)
theorem r_262_112 : xfetch 262 112 = some (.goto 25, 3) := by decide +kernel
theorem n_262_112 : ∀ l, xpr 262 112 l = l := xpr_no (by decide +kernel)
theorem r_262_115 : xfetch 262 115 = some (.lload 8, 2) := by decide +kernel
theorem n_262_115 : ∀ l, xpr 262 115 l = l := xpr_no (by decide +kernel)
theorem r_262_117 : xfetch 262 117 = some (.lload 10, 2) := by decide +kernel
theorem n_262_117 : ∀ l, xpr 262 117 l = l := xpr_no (by decide +kernel)
theorem r_262_119 : xfetch 262 119 = some (.lcmp, 1) := by decide +kernel
theorem n_262_119 : ∀ l, xpr 262 119 l = l := xpr_no (by decide +kernel)
theorem r_262_120 : xfetch 262 120 = some (.ifCond .ge 7, 3) := by decide +kernel
theorem n_262_120 : ∀ l, xpr 262 120 l = l := xpr_no (by decide +kernel)
theorem r_262_123 : xfetch 262 123 = some (.iconst 1, 1) := by decide +kernel
theorem n_262_123 : ∀ l, xpr 262 123 l = l := xpr_no (by decide +kernel)
theorem r_262_124 : xfetch 262 124 = some (.goto 4, 3) := by decide +kernel
theorem n_262_124 : ∀ l, xpr 262 124 l = l := xpr_no (by decide +kernel)
theorem r_262_127 : xfetch 262 127 = some (.iconst 0, 1) := by decide +kernel
theorem n_262_127 : ∀ l, xpr 262 127 l = l := xpr_no (by decide +kernel)
theorem r_262_128 : xfetch 262 128 = some (.iload_n 3, 1) := by decide +kernel
theorem n_262_128 : ∀ l, xpr 262 128 l = l := xpr_no (by decide +kernel)
theorem r_262_129 : xfetch 262 129 = some (.if_icmp .eq 7, 3) := by decide +kernel
theorem n_262_129 : ∀ l, xpr 262 129 l = l := xpr_no (by decide +kernel)
theorem r_262_132 : xfetch 262 132 = some (.iconst 1, 1) := by decide +kernel
theorem n_262_132 : ∀ l, xpr 262 132 l = l := xpr_no (by decide +kernel)
theorem r_262_133 : xfetch 262 133 = some (.goto 4, 3) := by decide +kernel
theorem n_262_133 : ∀ l, xpr 262 133 l = l := xpr_no (by decide +kernel)
theorem r_262_136 : xfetch 262 136 = some (.iconst 0, 1) := by decide +kernel
theorem n_262_136 : ∀ l, xpr 262 136 l = l := xpr_no (by decide +kernel)
theorem r_262_137 : xfetch 262 137 = some (.iadd, 1) := by decide +kernel
theorem n_262_137 : ∀ l, xpr 262 137 l = l := xpr_no (by decide +kernel)
theorem r_262_138 : xfetch 262 138 = some (.istore 6, 2) := by decide +kernel
theorem n_262_138 : ∀ l, xpr 262 138 l = l := xpr_no (by decide +kernel)
theorem r_262_140 : xfetch 262 140 = some (.iinc 7 1, 3) := by decide +kernel
theorem n_262_140 : ∀ l, xpr 262 140 l = l := xpr_no (by decide +kernel)
theorem r_262_143 : xfetch 262 143 = some (.goto (-92), 3) := by decide +kernel
theorem n_262_143 : ∀ l, xpr 262 143 l = l := xpr_no (by decide +kernel)
theorem r_262_146 : xfetch 262 146 = some (.aload_n 0, 1) := by decide +kernel
theorem n_262_146 : ∀ l, xpr 262 146 l = l := xpr_no (by decide +kernel)
theorem r_262_147 : xfetch 262 147 = some (.getfield 71, 3) := by decide +kernel
theorem n_262_147 : ∀ l, xpr 262 147 l = l := xpr_no (by decide +kernel)
theorem r_262_150 : xfetch 262 150 = some (.iload 5, 2) := by decide +kernel
theorem n_262_150 : ∀ l, xpr 262 150 l = l := xpr_no (by decide +kernel)
theorem r_262_152 : xfetch 262 152 = some (.iload 6, 2) := by decide +kernel
theorem n_262_152 : ∀ l, xpr 262 152 l = l := xpr_no (by decide +kernel)
theorem r_262_154 : xfetch 262 154 = some (.iastore, 1) := by decide +kernel
theorem n_262_154 : ∀ l, xpr 262 154 l = l := xpr_no (by decide +kernel)
theorem r_262_155 : xfetch 262 155 = some (.iload 4, 2) := by decide +kernel
theorem n_262_155 : ∀ l, xpr 262 155 l = l := xpr_no (by decide +kernel)
theorem r_262_157 : xfetch 262 157 = some (.iload 6, 2) := by decide +kernel
theorem n_262_157 : ∀ l, xpr 262 157 l = l := xpr_no (by decide +kernel)
theorem r_262_159 : xfetch 262 159 = some (.iload 5, 2) := by decide +kernel
theorem n_262_159 : ∀ l, xpr 262 159 l = l := xpr_no (by decide +kernel)
theorem r_262_161 : xfetch 262 161 = some (.if_icmp .ne 7, 3) := by decide +kernel
theorem n_262_161 : ∀ l, xpr 262 161 l = l := xpr_no (by decide +kernel)
theorem r_262_164 : xfetch 262 164 = some (.iconst 0, 1) := by decide +kernel
theorem n_262_164 : ∀ l, xpr 262 164 l = l := xpr_no (by decide +kernel)
theorem r_262_165 : xfetch 262 165 = some (.goto 4, 3) := by decide +kernel
theorem n_262_165 : ∀ l, xpr 262 165 l = l := xpr_no (by decide +kernel)
theorem r_262_168 : xfetch 262 168 = some (.iconst 1, 1) := by decide +kernel
theorem n_262_168 : ∀ l, xpr 262 168 l = l := xpr_no (by decide +kernel)
theorem r_262_169 : xfetch 262 169 = some (.iadd, 1) := by decide +kernel
theorem n_262_169 : ∀ l, xpr 262 169 l = l := xpr_no (by decide +kernel)
theorem r_262_170 : xfetch 262 170 = some (.istore 4, 2) := by decide +kernel
theorem n_262_170 : ∀ l, xpr 262 170 l = l := xpr_no (by decide +kernel)
theorem r_262_172 : xfetch 262 172 = some (.iinc 5 1, 3) := by decide +kernel
theorem n_262_172 : ∀ l, xpr 262 172 l = l := xpr_no (by decide +kernel)
theorem r_262_175 : xfetch 262 175 = some (.goto (-141), 3) := by decide +kernel
theorem n_262_175 : ∀ l, xpr 262 175 l = l := xpr_no (by decide +kernel)
theorem r_262_178 : xfetch 262 178 = some (.iconst 0, 1) := by decide +kernel
theorem n_262_178 : ∀ l, xpr 262 178 l = l := xpr_no (by decide +kernel)
theorem r_262_179 : xfetch 262 179 = some (.istore 5, 2) := by decide +kernel
theorem n_262_179 : ∀ l, xpr 262 179 l = l := xpr_no (by decide +kernel)
theorem r_262_181 : xfetch 262 181 = some (.iload 5, 2) := by decide +kernel
theorem r_262_183 : xfetch 262 183 = some (.aload_n 0, 1) := by decide +kernel
theorem n_262_183 : ∀ l, xpr 262 183 l = l := xpr_no (by decide +kernel)
theorem r_262_184 : xfetch 262 184 = some (.iload_n 1, 1) := by decide +kernel
theorem n_262_184 : ∀ l, xpr 262 184 l = l := xpr_no (by decide +kernel)
theorem r_262_185 : xfetch 262 185 = some (.iconst 1, 1) := by decide +kernel
theorem n_262_185 : ∀ l, xpr 262 185 l = l := xpr_no (by decide +kernel)
theorem r_262_186 : xfetch 262 186 = some (.invokevirtual 228, 3) := by decide +kernel
theorem n_262_186 : ∀ l, xpr 262 186 l = l := xpr_no (by decide +kernel)
theorem r_262_189 : xfetch 262 189 = some (.if_icmp .ge 61, 3) := by decide +kernel
theorem n_262_189 : ∀ l, xpr 262 189 l = l := xpr_no (by decide +kernel)
theorem r_262_192 : xfetch 262 192 = some (.iconst 0, 1) := by decide +kernel
theorem n_262_192 : ∀ l, xpr 262 192 l = l := xpr_no (by decide +kernel)
theorem r_262_193 : xfetch 262 193 = some (.istore 6, 2) := by decide +kernel
theorem n_262_193 : ∀ l, xpr 262 193 l = l := xpr_no (by decide +kernel)
theorem r_262_195 : xfetch 262 195 = some (.iload 6, 2) := by decide +kernel
theorem r_262_197 : xfetch 262 197 = some (.aload_n 0, 1) := by decide +kernel
theorem n_262_197 : ∀ l, xpr 262 197 l = l := xpr_no (by decide +kernel)
theorem r_262_198 : xfetch 262 198 = some (.getfield 19, 3) := by decide +kernel
theorem n_262_198 : ∀ l, xpr 262 198 l = l := xpr_no (by decide +kernel)
theorem r_262_201 : xfetch 262 201 = some (.aload_n 0, 1) := by decide +kernel
theorem n_262_201 : ∀ l, xpr 262 201 l = l := xpr_no (by decide +kernel)
theorem r_262_202 : xfetch 262 202 = some (.iload_n 1, 1) := by decide +kernel
theorem n_262_202 : ∀ l, xpr 262 202 l = l := xpr_no (by decide +kernel)
theorem r_262_203 : xfetch 262 203 = some (.iconst 0, 1) := by decide +kernel
theorem n_262_203 : ∀ l, xpr 262 203 l = l := xpr_no (by decide +kernel)
theorem r_262_204 : xfetch 262 204 = some (.invokevirtual 228, 3) := by decide +kernel
theorem n_262_204 : ∀ l, xpr 262 204 l = l := xpr_no (by decide +kernel)
theorem r_262_207 : xfetch 262 207 = some (.iaload, 1) := by decide +kernel
theorem n_262_207 : ∀ l, xpr 262 207 l = l := xpr_no (by decide +kernel)
theorem r_262_208 : xfetch 262 208 = some (.if_icmp .ge 36, 3) := by decide +kernel
theorem n_262_208 : ∀ l, xpr 262 208 l = l := xpr_no (by decide +kernel)
theorem r_262_211 : xfetch 262 211 = some (.aload_n 0, 1) := by decide +kernel
theorem n_262_211 : ∀ l, xpr 262 211 l = l := xpr_no (by decide +kernel)
theorem r_262_212 : xfetch 262 212 = some (.iload_n 1, 1) := by decide +kernel
theorem n_262_212 : ∀ l, xpr 262 212 l = l := xpr_no (by decide +kernel)
theorem r_262_213 : xfetch 262 213 = some (.aload_n 0, 1) := by decide +kernel
theorem n_262_213 : ∀ l, xpr 262 213 l = l := xpr_no (by decide +kernel)
theorem r_262_214 : xfetch 262 214 = some (.getfield 71, 3) := by decide +kernel
theorem n_262_214 : ∀ l, xpr 262 214 l = l := xpr_no (by decide +kernel)
theorem r_262_217 : xfetch 262 217 = some (.iload 5, 2) := by decide +kernel
theorem n_262_217 : ∀ l, xpr 262 217 l = l := xpr_no (by decide +kernel)
theorem r_262_219 : xfetch 262 219 = some (.iaload, 1) := by decide +kernel
theorem n_262_219 : ∀ l, xpr 262 219 l = l := xpr_no (by decide +kernel)
theorem r_262_220 : xfetch 262 220 = some (.iload 6, 2) := by decide +kernel
theorem n_262_220 : ∀ l, xpr 262 220 l = l := xpr_no (by decide +kernel)
theorem r_262_222 : xfetch 262 222 = some (.aload_n 0, 1) := by decide +kernel
theorem n_262_222 : ∀ l, xpr 262 222 l = l := xpr_no (by decide +kernel)
theorem r_262_223 : xfetch 262 223 = some (.getfield 67, 3) := by decide +kernel
theorem n_262_223 : ∀ l, xpr 262 223 l = l := xpr_no (by decide +kernel)
theorem r_262_226 : xfetch 262 226 = some (.bipush 40, 2) := by decide +kernel
theorem n_262_226 : ∀ l, xpr 262 226 l = l := xpr_no (by decide +kernel)
theorem r_262_228 : xfetch 262 228 = some (.iload 5, 2) := by decide +kernel
theorem n_262_228 : ∀ l, xpr 262 228 l = l := xpr_no (by decide +kernel)
theorem r_262_230 : xfetch 262 230 = some (.imul, 1) := by decide +kernel
theorem n_262_230 : ∀ l, xpr 262 230 l = l := xpr_no (by decide +kernel)
theorem r_262_231 : xfetch 262 231 = some (.iload 6, 2) := by decide +kernel
theorem n_262_231 : ∀ l, xpr 262 231 l = l := xpr_no (by decide +kernel)
theorem r_262_233 : xfetch 262 233 = some (.iadd, 1) := by decide +kernel
theorem n_262_233 : ∀ l, xpr 262 233 l = l := xpr_no (by decide +kernel)
theorem r_262_234 : xfetch 262 234 = some (.laload, 1) := by decide +kernel
theorem n_262_234 : ∀ l, xpr 262 234 l = l := xpr_no (by decide +kernel)
theorem r_262_235 : xfetch 262 235 = some (.invokevirtual 281, 3) := by decide +kernel
theorem n_262_235 : ∀ l, xpr 262 235 l = l := xpr_no (by decide +kernel)
theorem r_262_238 : xfetch 262 238 = some (.iinc 6 1, 3) := by decide +kernel
theorem n_262_238 : ∀ l, xpr 262 238 l = l := xpr_no (by decide +kernel)
theorem r_262_241 : xfetch 262 241 = some (.goto (-46), 3) := by decide +kernel
theorem n_262_241 : ∀ l, xpr 262 241 l = l := xpr_no (by decide +kernel)
theorem r_262_244 : xfetch 262 244 = some (.iinc 5 1, 3) := by decide +kernel
theorem n_262_244 : ∀ l, xpr 262 244 l = l := xpr_no (by decide +kernel)
theorem r_262_247 : xfetch 262 247 = some (.goto (-66), 3) := by decide +kernel
theorem n_262_247 : ∀ l, xpr 262 247 l = l := xpr_no (by decide +kernel)
theorem r_262_250 : xfetch 262 250 = some (.iload 4, 2) := by decide +kernel
theorem n_262_250 : ∀ l, xpr 262 250 l = l := xpr_no (by decide +kernel)
theorem r_262_252 : xfetch 262 252 = some (.ireturn, 1) := by decide +kernel
theorem n_262_252 : ∀ l, xpr 262 252 l = l := xpr_no (by decide +kernel)
theorem v_Model_sort_0 {S : Option (Nat × (Nat → Int32))} {s : zSt} {Q : Option Value ⊕ Nat → zSt → Prop} {x1 : Int} {x2 : Int} {x3 : Int} 
    (h : wp S 243 0 [(0, rf 252), (1, iv x1), (2, iv x2)] [] s (fun o1 s1 => zkI (fun y1 => (¬ (y1 = 0) → wp S 182 0 [(0, rf 252)] [] (zwI s1 252 3 (bi (y1 = 0))) (fun o6 s6 => zkU (wp S 258 0 [(0, rf 252), (1, iv x1)] [] s6 (fun o8 s8 => zkU (wp S 262 34 [(0, rf 252), (1, iv x1), (2, iv x2), (3, iv x3), (4, iv 0), (5, iv 0)] [] s8 Q) (fun e8 => False) o8)) (fun e6 => False) o6)) ∧ (y1 = 0 → Q (rI 0) (zwI s1 252 3 (bi (y1 = 0))))) (fun e1 => False) o1)) :
    wp S 262 0 [(0, rf 252), (1, iv x1), (2, iv x2), (3, iv x3)] [] s Q := by
  refine i_aload_n (a := 252) r_262_0 (n_262_0 _) rfl ?_
  refine i_aload_n (a := 252) r_262_1 (n_262_1 _) rfl ?_
  refine i_aload_n (a := 252) r_262_2 (n_262_2 _) rfl ?_
  refine i_iload_n (x := x1) r_262_3 (n_262_3 _) rfl ?_
  refine i_iload_n (x := x2) r_262_4 (n_262_4 _) rfl ?_
  refine wp_virt (b := 252) (rest := [rf 252, rf 252]) (Ls := [(0, rf 252), (1, iv x1), (2, iv x2)]) r_262_5 (n_262_5 _) rfl ⟨rfl, rfl, by decide, by decide⟩ rfl rfl lf_252 ⟨rfl, Nat.le_of_ble_eq_true rfl, Nat.le_of_ble_eq_true rfl⟩ rfl h ?_
  intro o1 s1 h
  rcases h with ⟨y1, q2, rfl, h⟩ | ⟨e1, rfl, h⟩
  · refine .inl ⟨some (iv y1), rfl, ?_⟩
    show wp S 262 8 [(0, rf 252), (1, iv x1), (2, iv x2), (3, iv x3)] [iv y1, rf 252, rf 252] s1 Q
    refine wp_virt (b := 252) (rest := [rf 252]) (Ls := [(0, rf 252), (1, iv y1)]) r_262_8 (n_262_8 _) rfl ⟨rfl, rfl, by decide, by decide⟩ rfl rfl lf_252 ⟨rfl, Nat.le_of_ble_eq_true rfl, Nat.le_of_ble_eq_true rfl⟩ rfl (K_Model_need q2) ?_
    rintro _ _ ⟨rfl, rfl⟩
    refine .inl ⟨some (iv (bi (y1 = 0))), rfl, ?_⟩
    show wp S 262 11 [(0, rf 252), (1, iv x1), (2, iv x2), (3, iv x3)] [iv (bi (y1 = 0)), rf 252] s1 Q
    refine wp_virt (b := 252) (rest := []) (Ls := [(0, rf 252), (1, iv (bi (y1 = 0)))]) r_262_11 (n_262_11 _) rfl ⟨rfl, rfl, by decide, by decide⟩ rfl rfl lf_252 ⟨rfl, Nat.le_of_ble_eq_true rfl, Nat.le_of_ble_eq_true rfl⟩ rfl K_Model_refusedB ?_
    rintro _ _ ⟨rfl, rfl⟩
    refine .inl ⟨some (iv (bi (y1 = 0))), rfl, ?_⟩
    show wp S 262 14 [(0, rf 252), (1, iv x1), (2, iv x2), (3, iv x3)] [iv (bi (y1 = 0))] (zwI s1 252 3 (bi (y1 = 0))) Q
    refine i_if (t := 19) r_262_14 (n_262_14 _) rfl (TB_eq) (fun c5 => ?_) (fun c5 => ?_)
    · replace h := h.1 c5
      refine i_aload_n (a := 252) r_262_19 (n_262_19 _) rfl ?_
      refine wp_virt (b := 252) (rest := []) (Ls := [(0, rf 252)]) r_262_20 (n_262_20 _) rfl ⟨rfl, rfl, by decide, by decide⟩ rfl rfl lf_252 ⟨rfl, Nat.le_of_ble_eq_true rfl, Nat.le_of_ble_eq_true rfl⟩ rfl h ?_
      intro o6 s6 h
      rcases h with ⟨rfl, h⟩ | ⟨e6, rfl, h⟩
      · refine .inl ⟨none, rfl, ?_⟩
        refine i_aload_n (a := 252) r_262_23 (n_262_23 _) rfl ?_
        refine i_iload_n (x := x1) r_262_24 (n_262_24 _) rfl ?_
        refine wp_virt (b := 252) (rest := []) (Ls := [(0, rf 252), (1, iv x1)]) r_262_25 (n_262_25 _) rfl ⟨rfl, rfl, by decide, by decide⟩ rfl rfl lf_252 ⟨rfl, Nat.le_of_ble_eq_true rfl, Nat.le_of_ble_eq_true rfl⟩ rfl h ?_
        intro o8 s8 h
        rcases h with ⟨rfl, h⟩ | ⟨e8, rfl, h⟩
        · refine .inl ⟨none, rfl, ?_⟩
          refine i_iconst r_262_28 (n_262_28 _) ?_
          refine i_istore (l' := [(0, rf 252), (1, iv x1), (2, iv x2), (3, iv x3), (4, iv 0)]) r_262_29 (n_262_29 _) (by decide) rfl ?_
          refine i_iconst r_262_31 (n_262_31 _) ?_
          refine i_istore (l' := [(0, rf 252), (1, iv x1), (2, iv x2), (3, iv x3), (4, iv 0), (5, iv 0)]) r_262_32 (n_262_32 _) (by decide) rfl ?_
          exact wp_pr (l' := [(0, rf 252), (1, iv x1), (2, iv x2), (3, iv x3), (4, iv 0), (5, iv 0)]) rfl h
        · skip
          exact h.elim
      · skip
        exact h.elim
    · replace h := h.2 c5
      refine i_iconst r_262_17 (n_262_17 _) ?_
      exact i_ireturn r_262_18 (n_262_18 _) rfl h
  · skip
    exact h.elim
theorem v_Model_sort_34 {S : Option (Nat × (Nat → Int32))} {s : zSt} {Q : Option Value ⊕ Nat → zSt → Prop} {x1 : Int} {x2 : Int} {x3 : Int} {x4 : Int} {x5 : Int} 
    (h : (0 ≤ ((157 + (6 * x1)) + 1) ∧ ((157 + (6 * x1)) + 1) < 1199) ∧ (rng x5 ∧ (((zI s 253 ((157 + (6 * x1)) + 1)) ≤ x5 → wp S 262 181 [(0, rf 252), (1, iv x1), (4, iv x4), (5, iv 0)] [] s Q) ∧ (x5 < (zI s 253 ((157 + (6 * x1)) + 1)) → wp S 262 51 [(0, rf 252), (1, iv x1), (2, iv x2), (3, iv x3), (4, iv x4), (5, iv x5), (6, iv 0), (7, iv 0)] [] s Q)))) :
    wp S 262 34 [(0, rf 252), (1, iv x1), (2, iv x2), (3, iv x3), (4, iv x4), (5, iv x5)] [] s Q := by
  refine i_iload (x := x5) r_262_34 rfl rfl ?_
  refine i_aload_n (a := 252) r_262_36 (n_262_36 _) rfl ?_
  refine i_iload_n (x := x1) r_262_37 (n_262_37 _) rfl ?_
  refine i_iconst r_262_38 (n_262_38 _) ?_
  obtain ⟨g1, h⟩ := h
  refine wp_virt (b := 252) (rest := [iv x5]) (Ls := [(0, rf 252), (1, iv x1), (2, iv 1)]) r_262_39 (n_262_39 _) rfl ⟨rfl, rfl, by decide, by decide⟩ rfl rfl lf_252 ⟨rfl, Nat.le_of_ble_eq_true rfl, Nat.le_of_ble_eq_true rfl⟩ rfl (K_Model_of g1) ?_
  rintro _ _ ⟨rfl, rfl⟩
  refine .inl ⟨some (iv (zI s 253 ((157 + (6 * x1)) + 1))), rfl, ?_⟩
  show wp S 262 42 [(0, rf 252), (1, iv x1), (2, iv x2), (3, iv x3), (4, iv x4), (5, iv x5)] [iv (zI s 253 ((157 + (6 * x1)) + 1)), iv x5] s Q
  refine wp_rd (a := 253) (j := ((157 + (6 * x1)) + 1)) (fun q3 => ?_)
  obtain ⟨g4, h⟩ := h
  refine i_icmp (t := 178) r_262_42 (n_262_42 _) rfl (T_ge g4 q3) (fun c5 => ?_) (fun c5 => ?_)
  · replace h := h.1 c5
    refine i_iconst r_262_178 (n_262_178 _) ?_
    refine i_istore (l' := [(0, rf 252), (1, iv x1), (2, iv x2), (3, iv x3), (4, iv x4), (5, iv 0)]) r_262_179 (n_262_179 _) (by decide) rfl ?_
    exact wp_pr (l' := [(0, rf 252), (1, iv x1), (4, iv x4), (5, iv 0)]) rfl h
  · replace h := h.2 c5
    refine i_iconst r_262_45 (n_262_45 _) ?_
    refine i_istore (l' := [(0, rf 252), (1, iv x1), (2, iv x2), (3, iv x3), (4, iv x4), (5, iv x5), (6, iv 0)]) r_262_46 (n_262_46 _) (by decide) rfl ?_
    refine i_iconst r_262_48 (n_262_48 _) ?_
    refine i_istore (l' := [(0, rf 252), (1, iv x1), (2, iv x2), (3, iv x3), (4, iv x4), (5, iv x5), (6, iv 0), (7, iv 0)]) r_262_49 (n_262_49 _) (by decide) rfl ?_
    exact wp_pr (l' := [(0, rf 252), (1, iv x1), (2, iv x2), (3, iv x3), (4, iv x4), (5, iv x5), (6, iv 0), (7, iv 0)]) rfl h
theorem v_Model_sort_51 {S : Option (Nat × (Nat → Int32))} {s : zSt} {Q : Option Value ⊕ Nat → zSt → Prop} {x1 : Int} {x2 : Int} {x3 : Int} {x4 : Int} {x5 : Int} {x6 : Int} {x7 : Int} 
    (h : (0 ≤ ((157 + (6 * x1)) + 1) ∧ ((157 + (6 * x1)) + 1) < 1199) ∧ (rng x7 ∧ (((zI s 253 ((157 + (6 * x1)) + 1)) ≤ x7 → (0 ≤ x5 ∧ x5 < 12) ∧ (rng x6 ∧ (rng x5 ∧ ((x6 ≠ x5 → wp S 262 34 [(0, rf 252), (1, iv x1), (2, iv x2), (3, iv x3), (4, iv (x4 + 1)), (5, iv (x5 + 1))] [] (zwI s 273 x5 x6) Q) ∧ (x6 = x5 → wp S 262 34 [(0, rf 252), (1, iv x1), (2, iv x2), (3, iv x3), (4, iv (x4 + 0)), (5, iv (x5 + 1))] [] (zwI s 273 x5 x6) Q))))) ∧ (x7 < (zI s 253 ((157 + (6 * x1)) + 1)) → (0 ≤ ((40 * x7) + x2) ∧ ((40 * x7) + x2) < 480) ∧ ((0 ≤ ((40 * x5) + x2) ∧ ((40 * x5) + x2) < 480) ∧ (((zcmp (zL s 272 ((40 * x7) + x2)) (zL s 272 ((40 * x5) + x2))) ≠ 0 → (0 ≤ (zcmp (zL s 272 ((40 * x7) + x2)) (zL s 272 ((40 * x5) + x2))) → rng x3 ∧ ((0 = x3 → wp S 262 51 [(0, rf 252), (1, iv x1), (2, iv x2), (3, iv x3), (4, iv x4), (5, iv x5), (6, iv (x6 + 0)), (7, iv (x7 + 1))] [] s Q) ∧ (0 ≠ x3 → wp S 262 51 [(0, rf 252), (1, iv x1), (2, iv x2), (3, iv x3), (4, iv x4), (5, iv x5), (6, iv (x6 + 1)), (7, iv (x7 + 1))] [] s Q))) ∧ ((zcmp (zL s 272 ((40 * x7) + x2)) (zL s 272 ((40 * x5) + x2))) < 0 → rng x3 ∧ ((1 = x3 → wp S 262 51 [(0, rf 252), (1, iv x1), (2, iv x2), (3, iv x3), (4, iv x4), (5, iv x5), (6, iv (x6 + 0)), (7, iv (x7 + 1))] [] s Q) ∧ (1 ≠ x3 → wp S 262 51 [(0, rf 252), (1, iv x1), (2, iv x2), (3, iv x3), (4, iv x4), (5, iv x5), (6, iv (x6 + 1)), (7, iv (x7 + 1))] [] s Q)))) ∧ ((zcmp (zL s 272 ((40 * x7) + x2)) (zL s 272 ((40 * x5) + x2))) = 0 → rng x5 ∧ ((x5 ≤ x7 → wp S 262 51 [(0, rf 252), (1, iv x1), (2, iv x2), (3, iv x3), (4, iv x4), (5, iv x5), (6, iv (x6 + 0)), (7, iv (x7 + 1))] [] s Q) ∧ (x7 < x5 → wp S 262 51 [(0, rf 252), (1, iv x1), (2, iv x2), (3, iv x3), (4, iv x4), (5, iv x5), (6, iv (x6 + 1)), (7, iv (x7 + 1))] [] s Q))))))))) :
    wp S 262 51 [(0, rf 252), (1, iv x1), (2, iv x2), (3, iv x3), (4, iv x4), (5, iv x5), (6, iv x6), (7, iv x7)] [] s Q := by
  refine i_iload (x := x7) r_262_51 rfl rfl ?_
  refine i_aload_n (a := 252) r_262_53 (n_262_53 _) rfl ?_
  refine i_iload_n (x := x1) r_262_54 (n_262_54 _) rfl ?_
  refine i_iconst r_262_55 (n_262_55 _) ?_
  obtain ⟨g1, h⟩ := h
  refine wp_virt (b := 252) (rest := [iv x7]) (Ls := [(0, rf 252), (1, iv x1), (2, iv 1)]) r_262_56 (n_262_56 _) rfl ⟨rfl, rfl, by decide, by decide⟩ rfl rfl lf_252 ⟨rfl, Nat.le_of_ble_eq_true rfl, Nat.le_of_ble_eq_true rfl⟩ rfl (K_Model_of g1) ?_
  rintro _ _ ⟨rfl, rfl⟩
  refine .inl ⟨some (iv (zI s 253 ((157 + (6 * x1)) + 1))), rfl, ?_⟩
  show wp S 262 59 [(0, rf 252), (1, iv x1), (2, iv x2), (3, iv x3), (4, iv x4), (5, iv x5), (6, iv x6), (7, iv x7)] [iv (zI s 253 ((157 + (6 * x1)) + 1)), iv x7] s Q
  refine wp_rd (a := 253) (j := ((157 + (6 * x1)) + 1)) (fun q3 => ?_)
  obtain ⟨g4, h⟩ := h
  refine i_icmp (t := 146) r_262_59 (n_262_59 _) rfl (T_ge g4 q3) (fun c5 => ?_) (fun c5 => ?_)
  · replace h := h.1 c5
    refine i_aload_n (a := 252) r_262_146 (n_262_146 _) rfl ?_
    refine i_getR (a := 252) (b := 273) r_262_147 (n_262_147 _) rfl rfl rfl (by omega) lf_252 (by omega) ?_
    refine i_iload (x := x5) r_262_150 (n_262_150 _) rfl ?_
    refine i_iload (x := x6) r_262_152 (n_262_152 _) rfl ?_
    obtain ⟨g6, h⟩ := h
    obtain ⟨g7, h⟩ := h
    refine i_iastore (a := 273) (j := x5) (x := x6) r_262_154 (n_262_154 _) lf_273 ⟨by omega, by omega⟩ (by omega) (by omega) g7 ?_
    refine i_iload (x := x4) r_262_155 (n_262_155 _) rfl ?_
    refine i_iload (x := x6) r_262_157 (n_262_157 _) rfl ?_
    refine i_iload (x := x5) r_262_159 (n_262_159 _) rfl ?_
    obtain ⟨g8, h⟩ := h
    refine i_icmp (t := 168) r_262_161 (n_262_161 _) rfl (T_ne g7 g8) (fun c9 => ?_) (fun c9 => ?_)
    · replace h := h.1 c9
      refine i_iconst r_262_168 (n_262_168 _) ?_
      refine i_iadd r_262_169 (n_262_169 _) ?_
      refine i_istore (l' := [(0, rf 252), (1, iv x1), (2, iv x2), (3, iv x3), (4, iv (x4 + 1)), (5, iv x5), (6, iv x6), (7, iv x7)]) r_262_170 (n_262_170 _) (by decide) rfl ?_
      refine i_iinc (x := x5) (l' := [(0, rf 252), (1, iv x1), (2, iv x2), (3, iv x3), (4, iv (x4 + 1)), (5, iv (x5 + 1)), (6, iv x6), (7, iv x7)]) r_262_172 (n_262_172 _) (by decide) rfl rfl ?_
      refine i_goto (t := 34) r_262_175 (n_262_175 _) rfl ?_
      exact wp_pr (l' := [(0, rf 252), (1, iv x1), (2, iv x2), (3, iv x3), (4, iv (x4 + 1)), (5, iv (x5 + 1))]) rfl h
    · replace h := h.2 c9
      refine i_iconst r_262_164 (n_262_164 _) ?_
      refine i_goto (t := 169) r_262_165 (n_262_165 _) rfl ?_
      refine i_iadd r_262_169 (n_262_169 _) ?_
      refine i_istore (l' := [(0, rf 252), (1, iv x1), (2, iv x2), (3, iv x3), (4, iv (x4 + 0)), (5, iv x5), (6, iv x6), (7, iv x7)]) r_262_170 (n_262_170 _) (by decide) rfl ?_
      refine i_iinc (x := x5) (l' := [(0, rf 252), (1, iv x1), (2, iv x2), (3, iv x3), (4, iv (x4 + 0)), (5, iv (x5 + 1)), (6, iv x6), (7, iv x7)]) r_262_172 (n_262_172 _) (by decide) rfl rfl ?_
      refine i_goto (t := 34) r_262_175 (n_262_175 _) rfl ?_
      exact wp_pr (l' := [(0, rf 252), (1, iv x1), (2, iv x2), (3, iv x3), (4, iv (x4 + 0)), (5, iv (x5 + 1))]) rfl h
  · replace h := h.2 c5
    refine i_aload_n (a := 252) r_262_62 (n_262_62 _) rfl ?_
    refine i_getR (a := 252) (b := 272) r_262_63 (n_262_63 _) rfl rfl rfl (by omega) lf_252 (by omega) ?_
    refine i_bipush r_262_66 (n_262_66 _) rfl ?_
    refine i_iload (x := x7) r_262_68 (n_262_68 _) rfl ?_
    refine i_imul r_262_70 (n_262_70 _) ?_
    refine i_iload_n (x := x2) r_262_71 (n_262_71 _) rfl ?_
    refine i_iadd r_262_72 (n_262_72 _) ?_
    obtain ⟨g10, h⟩ := h
    refine i_laload (a := 272) (j := (40 * x7) + x2) r_262_73 (n_262_73 _) lf_272 ⟨by omega, by omega⟩ (by omega) (by omega) ?_
    refine i_lstore (l' := [(0, rf 252), (1, iv x1), (2, iv x2), (3, iv x3), (4, iv x4), (5, iv x5), (6, iv x6), (7, iv x7), (8, .long (zL s 272 ((40 * x7) + x2)))]) r_262_74 (n_262_74 _) (by decide) rfl ?_
    refine i_aload_n (a := 252) r_262_76 (n_262_76 _) rfl ?_
    refine i_getR (a := 252) (b := 272) r_262_77 (n_262_77 _) rfl rfl rfl (by omega) lf_252 (by omega) ?_
    refine i_bipush r_262_80 (n_262_80 _) rfl ?_
    refine i_iload (x := x5) r_262_82 (n_262_82 _) rfl ?_
    refine i_imul r_262_84 (n_262_84 _) ?_
    refine i_iload_n (x := x2) r_262_85 (n_262_85 _) rfl ?_
    refine i_iadd r_262_86 (n_262_86 _) ?_
    obtain ⟨g11, h⟩ := h
    refine i_laload (a := 272) (j := (40 * x5) + x2) r_262_87 (n_262_87 _) lf_272 ⟨by omega, by omega⟩ (by omega) (by omega) ?_
    refine i_lstore (l' := [(0, rf 252), (1, iv x1), (2, iv x2), (3, iv x3), (4, iv x4), (5, iv x5), (6, iv x6), (7, iv x7), (8, .long (zL s 272 ((40 * x7) + x2))), (10, .long (zL s 272 ((40 * x5) + x2)))]) r_262_88 (n_262_88 _) (by decide) rfl ?_
    refine i_iload (x := x6) r_262_90 (n_262_90 _) rfl ?_
    refine i_lload (u := zL s 272 ((40 * x7) + x2)) r_262_92 (n_262_92 _) rfl ?_
    refine i_lload (u := zL s 272 ((40 * x5) + x2)) r_262_94 (n_262_94 _) rfl ?_
    refine i_lcmp r_262_96 (n_262_96 _) ?_
    refine i_if (t := 115) r_262_97 (n_262_97 _) rfl (T_ne (zcmp_rng _ _) ⟨by omega, by omega⟩) (fun c12 => ?_) (fun c12 => ?_)
    · replace h := h.1 c12
      refine i_lload (u := zL s 272 ((40 * x7) + x2)) r_262_115 (n_262_115 _) rfl ?_
      refine i_lload (u := zL s 272 ((40 * x5) + x2)) r_262_117 (n_262_117 _) rfl ?_
      refine i_lcmp r_262_119 (n_262_119 _) ?_
      refine i_if (t := 127) r_262_120 (n_262_120 _) rfl (T_ge (zcmp_rng _ _) ⟨by omega, by omega⟩) (fun c13 => ?_) (fun c13 => ?_)
      · replace h := h.1 c13
        refine i_iconst r_262_127 (n_262_127 _) ?_
        refine i_iload_n (x := x3) r_262_128 (n_262_128 _) rfl ?_
        obtain ⟨g14, h⟩ := h
        refine i_icmp (t := 136) r_262_129 (n_262_129 _) rfl (T_eq ⟨by omega, by omega⟩ g14) (fun c15 => ?_) (fun c15 => ?_)
        · replace h := h.1 c15
          refine i_iconst r_262_136 (n_262_136 _) ?_
          refine i_iadd r_262_137 (n_262_137 _) ?_
          refine i_istore (l' := [(0, rf 252), (1, iv x1), (2, iv x2), (3, iv x3), (4, iv x4), (5, iv x5), (6, iv (x6 + 0)), (7, iv x7), (8, .long (zL s 272 ((40 * x7) + x2))), (10, .long (zL s 272 ((40 * x5) + x2)))]) r_262_138 (n_262_138 _) (by decide) rfl ?_
          refine i_iinc (x := x7) (l' := [(0, rf 252), (1, iv x1), (2, iv x2), (3, iv x3), (4, iv x4), (5, iv x5), (6, iv (x6 + 0)), (7, iv (x7 + 1)), (8, .long (zL s 272 ((40 * x7) + x2))), (10, .long (zL s 272 ((40 * x5) + x2)))]) r_262_140 (n_262_140 _) (by decide) rfl rfl ?_
          refine i_goto (t := 51) r_262_143 (n_262_143 _) rfl ?_
          exact wp_pr (l' := [(0, rf 252), (1, iv x1), (2, iv x2), (3, iv x3), (4, iv x4), (5, iv x5), (6, iv (x6 + 0)), (7, iv (x7 + 1))]) rfl h
        · replace h := h.2 c15
          refine i_iconst r_262_132 (n_262_132 _) ?_
          refine i_goto (t := 137) r_262_133 (n_262_133 _) rfl ?_
          refine i_iadd r_262_137 (n_262_137 _) ?_
          refine i_istore (l' := [(0, rf 252), (1, iv x1), (2, iv x2), (3, iv x3), (4, iv x4), (5, iv x5), (6, iv (x6 + 1)), (7, iv x7), (8, .long (zL s 272 ((40 * x7) + x2))), (10, .long (zL s 272 ((40 * x5) + x2)))]) r_262_138 (n_262_138 _) (by decide) rfl ?_
          refine i_iinc (x := x7) (l' := [(0, rf 252), (1, iv x1), (2, iv x2), (3, iv x3), (4, iv x4), (5, iv x5), (6, iv (x6 + 1)), (7, iv (x7 + 1)), (8, .long (zL s 272 ((40 * x7) + x2))), (10, .long (zL s 272 ((40 * x5) + x2)))]) r_262_140 (n_262_140 _) (by decide) rfl rfl ?_
          refine i_goto (t := 51) r_262_143 (n_262_143 _) rfl ?_
          exact wp_pr (l' := [(0, rf 252), (1, iv x1), (2, iv x2), (3, iv x3), (4, iv x4), (5, iv x5), (6, iv (x6 + 1)), (7, iv (x7 + 1))]) rfl h
      · replace h := h.2 c13
        refine i_iconst r_262_123 (n_262_123 _) ?_
        refine i_goto (t := 128) r_262_124 (n_262_124 _) rfl ?_
        refine i_iload_n (x := x3) r_262_128 (n_262_128 _) rfl ?_
        obtain ⟨g16, h⟩ := h
        refine i_icmp (t := 136) r_262_129 (n_262_129 _) rfl (T_eq ⟨by omega, by omega⟩ g16) (fun c17 => ?_) (fun c17 => ?_)
        · replace h := h.1 c17
          refine i_iconst r_262_136 (n_262_136 _) ?_
          refine i_iadd r_262_137 (n_262_137 _) ?_
          refine i_istore (l' := [(0, rf 252), (1, iv x1), (2, iv x2), (3, iv x3), (4, iv x4), (5, iv x5), (6, iv (x6 + 0)), (7, iv x7), (8, .long (zL s 272 ((40 * x7) + x2))), (10, .long (zL s 272 ((40 * x5) + x2)))]) r_262_138 (n_262_138 _) (by decide) rfl ?_
          refine i_iinc (x := x7) (l' := [(0, rf 252), (1, iv x1), (2, iv x2), (3, iv x3), (4, iv x4), (5, iv x5), (6, iv (x6 + 0)), (7, iv (x7 + 1)), (8, .long (zL s 272 ((40 * x7) + x2))), (10, .long (zL s 272 ((40 * x5) + x2)))]) r_262_140 (n_262_140 _) (by decide) rfl rfl ?_
          refine i_goto (t := 51) r_262_143 (n_262_143 _) rfl ?_
          exact wp_pr (l' := [(0, rf 252), (1, iv x1), (2, iv x2), (3, iv x3), (4, iv x4), (5, iv x5), (6, iv (x6 + 0)), (7, iv (x7 + 1))]) rfl h
        · replace h := h.2 c17
          refine i_iconst r_262_132 (n_262_132 _) ?_
          refine i_goto (t := 137) r_262_133 (n_262_133 _) rfl ?_
          refine i_iadd r_262_137 (n_262_137 _) ?_
          refine i_istore (l' := [(0, rf 252), (1, iv x1), (2, iv x2), (3, iv x3), (4, iv x4), (5, iv x5), (6, iv (x6 + 1)), (7, iv x7), (8, .long (zL s 272 ((40 * x7) + x2))), (10, .long (zL s 272 ((40 * x5) + x2)))]) r_262_138 (n_262_138 _) (by decide) rfl ?_
          refine i_iinc (x := x7) (l' := [(0, rf 252), (1, iv x1), (2, iv x2), (3, iv x3), (4, iv x4), (5, iv x5), (6, iv (x6 + 1)), (7, iv (x7 + 1)), (8, .long (zL s 272 ((40 * x7) + x2))), (10, .long (zL s 272 ((40 * x5) + x2)))]) r_262_140 (n_262_140 _) (by decide) rfl rfl ?_
          refine i_goto (t := 51) r_262_143 (n_262_143 _) rfl ?_
          exact wp_pr (l' := [(0, rf 252), (1, iv x1), (2, iv x2), (3, iv x3), (4, iv x4), (5, iv x5), (6, iv (x6 + 1)), (7, iv (x7 + 1))]) rfl h
    · replace h := h.2 c12
      refine i_iload (x := x7) r_262_100 (n_262_100 _) rfl ?_
      refine i_iload (x := x5) r_262_102 (n_262_102 _) rfl ?_
      obtain ⟨g18, h⟩ := h
      refine i_icmp (t := 111) r_262_104 (n_262_104 _) rfl (T_ge g4 g18) (fun c19 => ?_) (fun c19 => ?_)
      · replace h := h.1 c19
        refine i_iconst r_262_111 (n_262_111 _) ?_
        refine i_goto (t := 137) r_262_112 (n_262_112 _) rfl ?_
        refine i_iadd r_262_137 (n_262_137 _) ?_
        refine i_istore (l' := [(0, rf 252), (1, iv x1), (2, iv x2), (3, iv x3), (4, iv x4), (5, iv x5), (6, iv (x6 + 0)), (7, iv x7), (8, .long (zL s 272 ((40 * x7) + x2))), (10, .long (zL s 272 ((40 * x5) + x2)))]) r_262_138 (n_262_138 _) (by decide) rfl ?_
        refine i_iinc (x := x7) (l' := [(0, rf 252), (1, iv x1), (2, iv x2), (3, iv x3), (4, iv x4), (5, iv x5), (6, iv (x6 + 0)), (7, iv (x7 + 1)), (8, .long (zL s 272 ((40 * x7) + x2))), (10, .long (zL s 272 ((40 * x5) + x2)))]) r_262_140 (n_262_140 _) (by decide) rfl rfl ?_
        refine i_goto (t := 51) r_262_143 (n_262_143 _) rfl ?_
        exact wp_pr (l' := [(0, rf 252), (1, iv x1), (2, iv x2), (3, iv x3), (4, iv x4), (5, iv x5), (6, iv (x6 + 0)), (7, iv (x7 + 1))]) rfl h
      · replace h := h.2 c19
        refine i_iconst r_262_107 (n_262_107 _) ?_
        refine i_goto (t := 137) r_262_108 (n_262_108 _) rfl ?_
        refine i_iadd r_262_137 (n_262_137 _) ?_
        refine i_istore (l' := [(0, rf 252), (1, iv x1), (2, iv x2), (3, iv x3), (4, iv x4), (5, iv x5), (6, iv (x6 + 1)), (7, iv x7), (8, .long (zL s 272 ((40 * x7) + x2))), (10, .long (zL s 272 ((40 * x5) + x2)))]) r_262_138 (n_262_138 _) (by decide) rfl ?_
        refine i_iinc (x := x7) (l' := [(0, rf 252), (1, iv x1), (2, iv x2), (3, iv x3), (4, iv x4), (5, iv x5), (6, iv (x6 + 1)), (7, iv (x7 + 1)), (8, .long (zL s 272 ((40 * x7) + x2))), (10, .long (zL s 272 ((40 * x5) + x2)))]) r_262_140 (n_262_140 _) (by decide) rfl rfl ?_
        refine i_goto (t := 51) r_262_143 (n_262_143 _) rfl ?_
        exact wp_pr (l' := [(0, rf 252), (1, iv x1), (2, iv x2), (3, iv x3), (4, iv x4), (5, iv x5), (6, iv (x6 + 1)), (7, iv (x7 + 1))]) rfl h
theorem v_Model_sort_181 {S : Option (Nat × (Nat → Int32))} {s : zSt} {Q : Option Value ⊕ Nat → zSt → Prop} {x1 : Int} {x4 : Int} {x5 : Int} 
    (h : (0 ≤ ((157 + (6 * x1)) + 1) ∧ ((157 + (6 * x1)) + 1) < 1199) ∧ (rng x5 ∧ (((zI s 253 ((157 + (6 * x1)) + 1)) ≤ x5 → Q (rI x4) s) ∧ (x5 < (zI s 253 ((157 + (6 * x1)) + 1)) → wp S 262 195 [(0, rf 252), (1, iv x1), (4, iv x4), (5, iv x5), (6, iv 0)] [] s Q)))) :
    wp S 262 181 [(0, rf 252), (1, iv x1), (4, iv x4), (5, iv x5)] [] s Q := by
  refine i_iload (x := x5) r_262_181 rfl rfl ?_
  refine i_aload_n (a := 252) r_262_183 (n_262_183 _) rfl ?_
  refine i_iload_n (x := x1) r_262_184 (n_262_184 _) rfl ?_
  refine i_iconst r_262_185 (n_262_185 _) ?_
  obtain ⟨g1, h⟩ := h
  refine wp_virt (b := 252) (rest := [iv x5]) (Ls := [(0, rf 252), (1, iv x1), (2, iv 1)]) r_262_186 (n_262_186 _) rfl ⟨rfl, rfl, by decide, by decide⟩ rfl rfl lf_252 ⟨rfl, Nat.le_of_ble_eq_true rfl, Nat.le_of_ble_eq_true rfl⟩ rfl (K_Model_of g1) ?_
  rintro _ _ ⟨rfl, rfl⟩
  refine .inl ⟨some (iv (zI s 253 ((157 + (6 * x1)) + 1))), rfl, ?_⟩
  show wp S 262 189 [(0, rf 252), (1, iv x1), (4, iv x4), (5, iv x5)] [iv (zI s 253 ((157 + (6 * x1)) + 1)), iv x5] s Q
  refine wp_rd (a := 253) (j := ((157 + (6 * x1)) + 1)) (fun q3 => ?_)
  obtain ⟨g4, h⟩ := h
  refine i_icmp (t := 250) r_262_189 (n_262_189 _) rfl (T_ge g4 q3) (fun c5 => ?_) (fun c5 => ?_)
  · replace h := h.1 c5
    refine i_iload (x := x4) r_262_250 (n_262_250 _) rfl ?_
    exact i_ireturn r_262_252 (n_262_252 _) rfl h
  · replace h := h.2 c5
    refine i_iconst r_262_192 (n_262_192 _) ?_
    refine i_istore (l' := [(0, rf 252), (1, iv x1), (4, iv x4), (5, iv x5), (6, iv 0)]) r_262_193 (n_262_193 _) (by decide) rfl ?_
    exact wp_pr (l' := [(0, rf 252), (1, iv x1), (4, iv x4), (5, iv x5), (6, iv 0)]) rfl h
theorem v_Model_sort_195 {S : Option (Nat × (Nat → Int32))} {s : zSt} {Q : Option Value ⊕ Nat → zSt → Prop} {x1 : Int} {x4 : Int} {x5 : Int} {x6 : Int} 
    (h : (0 ≤ ((157 + (6 * x1)) + 0) ∧ ((157 + (6 * x1)) + 0) < 1199) ∧ ((0 ≤ (zI s 253 ((157 + (6 * x1)) + 0)) ∧ (zI s 253 ((157 + (6 * x1)) + 0)) < 6) ∧ (rng x6 ∧ (((zI s 256 (zI s 253 ((157 + (6 * x1)) + 0))) ≤ x6 → wp S 262 181 [(0, rf 252), (1, iv x1), (4, iv x4), (5, iv (x5 + 1))] [] s Q) ∧ (x6 < (zI s 256 (zI s 253 ((157 + (6 * x1)) + 0))) → (0 ≤ x5 ∧ x5 < 12) ∧ ((0 ≤ ((40 * x5) + x6) ∧ ((40 * x5) + x6) < 480) ∧ (wp S 252 0 [(0, rf 252), (1, iv x1), (2, iv (zI s 273 x5)), (3, iv x6), (4, .long (zL s 272 ((40 * x5) + x6)))] [] s (fun o11 s11 => zkU (wp S 262 195 [(0, rf 252), (1, iv x1), (4, iv x4), (5, iv x5), (6, iv (x6 + 1))] [] s11 Q) (fun e11 => False) o11)))))))) :
    wp S 262 195 [(0, rf 252), (1, iv x1), (4, iv x4), (5, iv x5), (6, iv x6)] [] s Q := by
  refine i_iload (x := x6) r_262_195 rfl rfl ?_
  refine i_aload_n (a := 252) r_262_197 (n_262_197 _) rfl ?_
  refine i_getR (a := 252) (b := 256) r_262_198 (n_262_198 _) rfl rfl rfl (by omega) lf_252 (by omega) ?_
  refine i_aload_n (a := 252) r_262_201 (n_262_201 _) rfl ?_
  refine i_iload_n (x := x1) r_262_202 (n_262_202 _) rfl ?_
  refine i_iconst r_262_203 (n_262_203 _) ?_
  obtain ⟨g1, h⟩ := h
  refine wp_virt (b := 252) (rest := [rf 256, iv x6]) (Ls := [(0, rf 252), (1, iv x1), (2, iv 0)]) r_262_204 (n_262_204 _) rfl ⟨rfl, rfl, by decide, by decide⟩ rfl rfl lf_252 ⟨rfl, Nat.le_of_ble_eq_true rfl, Nat.le_of_ble_eq_true rfl⟩ rfl (K_Model_of g1) ?_
  rintro _ _ ⟨rfl, rfl⟩
  refine .inl ⟨some (iv (zI s 253 ((157 + (6 * x1)) + 0))), rfl, ?_⟩
  show wp S 262 207 [(0, rf 252), (1, iv x1), (4, iv x4), (5, iv x5), (6, iv x6)] [iv (zI s 253 ((157 + (6 * x1)) + 0)), rf 256, iv x6] s Q
  refine wp_rd (a := 253) (j := ((157 + (6 * x1)) + 0)) (fun q3 => ?_)
  obtain ⟨g4, h⟩ := h
  refine i_iaload (a := 256) (j := zI s 253 ((157 + (6 * x1)) + 0)) r_262_207 (n_262_207 _) lf_256 ⟨by omega, by omega⟩ (by omega) (by omega) (fun q5 => ?_)
  obtain ⟨g6, h⟩ := h
  refine i_icmp (t := 244) r_262_208 (n_262_208 _) rfl (T_ge g6 q5) (fun c7 => ?_) (fun c7 => ?_)
  · replace h := h.1 c7
    refine i_iinc (x := x5) (l' := [(0, rf 252), (1, iv x1), (4, iv x4), (5, iv (x5 + 1)), (6, iv x6)]) r_262_244 (n_262_244 _) (by decide) rfl rfl ?_
    refine i_goto (t := 181) r_262_247 (n_262_247 _) rfl ?_
    exact wp_pr (l' := [(0, rf 252), (1, iv x1), (4, iv x4), (5, iv (x5 + 1))]) rfl h
  · replace h := h.2 c7
    refine i_aload_n (a := 252) r_262_211 (n_262_211 _) rfl ?_
    refine i_iload_n (x := x1) r_262_212 (n_262_212 _) rfl ?_
    refine i_aload_n (a := 252) r_262_213 (n_262_213 _) rfl ?_
    refine i_getR (a := 252) (b := 273) r_262_214 (n_262_214 _) rfl rfl rfl (by omega) lf_252 (by omega) ?_
    refine i_iload (x := x5) r_262_217 (n_262_217 _) rfl ?_
    obtain ⟨g8, h⟩ := h
    refine i_iaload (a := 273) (j := x5) r_262_219 (n_262_219 _) lf_273 ⟨by omega, by omega⟩ (by omega) (by omega) (fun q9 => ?_)
    refine i_iload (x := x6) r_262_220 (n_262_220 _) rfl ?_
    refine i_aload_n (a := 252) r_262_222 (n_262_222 _) rfl ?_
    refine i_getR (a := 252) (b := 272) r_262_223 (n_262_223 _) rfl rfl rfl (by omega) lf_252 (by omega) ?_
    refine i_bipush r_262_226 (n_262_226 _) rfl ?_
    refine i_iload (x := x5) r_262_228 (n_262_228 _) rfl ?_
    refine i_imul r_262_230 (n_262_230 _) ?_
    refine i_iload (x := x6) r_262_231 (n_262_231 _) rfl ?_
    refine i_iadd r_262_233 (n_262_233 _) ?_
    obtain ⟨g10, h⟩ := h
    refine i_laload (a := 272) (j := (40 * x5) + x6) r_262_234 (n_262_234 _) lf_272 ⟨by omega, by omega⟩ (by omega) (by omega) ?_
    refine wp_virt (b := 252) (rest := []) (Ls := [(0, rf 252), (1, iv x1), (2, iv (zI s 273 x5)), (3, iv x6), (4, .long (zL s 272 ((40 * x5) + x6)))]) r_262_235 (n_262_235 _) rfl ⟨rfl, rfl, by decide, by decide⟩ rfl rfl lf_252 ⟨rfl, Nat.le_of_ble_eq_true rfl, Nat.le_of_ble_eq_true rfl⟩ rfl h ?_
    intro o11 s11 h
    rcases h with ⟨rfl, h⟩ | ⟨e11, rfl, h⟩
    · refine .inl ⟨none, rfl, ?_⟩
      refine i_iinc (x := x6) (l' := [(0, rf 252), (1, iv x1), (4, iv x4), (5, iv x5), (6, iv (x6 + 1))]) r_262_238 (n_262_238 _) (by decide) rfl rfl ?_
      refine i_goto (t := 195) r_262_241 (n_262_241 _) rfl ?_
      exact wp_pr (l' := [(0, rf 252), (1, iv x1), (4, iv x4), (5, iv x5), (6, iv (x6 + 1))]) rfl h
    · skip
      exact h.elim
theorem r_263_0 : xfetch 263 0 = some (.aload_n 0, 1) := by decide +kernel
theorem n_263_0 : ∀ l, xpr 263 0 l = l := xpr_no (by decide +kernel)
theorem r_263_1 : xfetch 263 1 = some (.aload_n 0, 1) := by decide +kernel
theorem n_263_1 : ∀ l, xpr 263 1 l = l := xpr_no (by decide +kernel)
theorem r_263_2 : xfetch 263 2 = some (.aload_n 0, 1) := by decide +kernel
theorem n_263_2 : ∀ l, xpr 263 2 l = l := xpr_no (by decide +kernel)
theorem r_263_3 : xfetch 263 3 = some (.iload_n 1, 1) := by decide +kernel
theorem n_263_3 : ∀ l, xpr 263 3 l = l := xpr_no (by decide +kernel)
theorem r_263_4 : xfetch 263 4 = some (.iload_n 2, 1) := by decide +kernel
theorem n_263_4 : ∀ l, xpr 263 4 l = l := xpr_no (by decide +kernel)
theorem r_263_5 : xfetch 263 5 = some (.invokevirtual 254, 3) := by decide +kernel
theorem n_263_5 : ∀ l, xpr 263 5 l = l := xpr_no (by decide +kernel)
theorem r_263_8 : xfetch 263 8 = some (.invokevirtual 175, 3) := by decide +kernel
theorem n_263_8 : ∀ l, xpr 263 8 l = l := xpr_no (by decide +kernel)
theorem r_263_11 : xfetch 263 11 = some (.invokevirtual 84, 3) := by decide +kernel
theorem n_263_11 : ∀ l, xpr 263 11 l = l := xpr_no (by decide +kernel)
theorem r_263_14 : xfetch 263 14 = some (.ifCond .eq 5, 3) := by decide +kernel
theorem n_263_14 : ∀ l, xpr 263 14 l = l := xpr_no (by decide +kernel)
theorem r_263_17 : xfetch 263 17 = some (.iconst 0, 1) := by decide +kernel
theorem n_263_17 : ∀ l, xpr 263 17 l = l := xpr_no (by decide +kernel)
theorem r_263_18 : xfetch 263 18 = some (.ireturn, 1) := by decide +kernel
theorem n_263_18 : ∀ l, xpr 263 18 l = l := xpr_no (by decide +kernel)
theorem r_263_19 : xfetch 263 19 = some (.aload_n 0, 1) := by decide +kernel
theorem n_263_19 : ∀ l, xpr 263 19 l = l := xpr_no (by decide +kernel)
theorem r_263_20 : xfetch 263 20 = some (.invokevirtual 135, 3) := by decide +kernel
theorem n_263_20 : ∀ l, xpr 263 20 l = l := xpr_no (by decide +kernel)
theorem r_263_23 : xfetch 263 23 = some (.iconst 0, 1) := by decide +kernel
theorem n_263_23 : ∀ l, xpr 263 23 l = l := xpr_no (by decide +kernel)
theorem r_263_24 : xfetch 263 24 = some (.istore 7, 2) := by decide +kernel
theorem n_263_24 : ∀ l, xpr 263 24 l = l := xpr_no (by decide +kernel)
theorem r_263_26 : xfetch 263 26 = some (.iload 7, 2) := by decide +kernel
theorem r_263_28 : xfetch 263 28 = some (.aload_n 0, 1) := by decide +kernel
theorem n_263_28 : ∀ l, xpr 263 28 l = l := xpr_no (by decide +kernel)
theorem r_263_29 : xfetch 263 29 = some (.iload_n 1, 1) := by decide +kernel
theorem n_263_29 : ∀ l, xpr 263 29 l = l := xpr_no (by decide +kernel)
theorem r_263_30 : xfetch 263 30 = some (.iconst 1, 1) := by decide +kernel
theorem n_263_30 : ∀ l, xpr 263 30 l = l := xpr_no (by decide +kernel)
theorem r_263_31 : xfetch 263 31 = some (.invokevirtual 228, 3) := by decide +kernel
theorem n_263_31 : ∀ l, xpr 263 31 l = l := xpr_no (by decide +kernel)
theorem r_263_34 : xfetch 263 34 = some (.if_icmp .ge 25, 3) := by decide +kernel
theorem n_263_34 : ∀ l, xpr 263 34 l = l := xpr_no (by decide +kernel)
theorem r_263_37 : xfetch 263 37 = some (.aload_n 0, 1) := by decide +kernel
theorem n_263_37 : ∀ l, xpr 263 37 l = l := xpr_no (by decide +kernel)
theorem r_263_38 : xfetch 263 38 = some (.iload_n 1, 1) := by decide +kernel
theorem n_263_38 : ∀ l, xpr 263 38 l = l := xpr_no (by decide +kernel)
theorem r_263_39 : xfetch 263 39 = some (.iload 7, 2) := by decide +kernel
theorem n_263_39 : ∀ l, xpr 263 39 l = l := xpr_no (by decide +kernel)
theorem r_263_41 : xfetch 263 41 = some (.iload_n 2, 1) := by decide +kernel
theorem n_263_41 : ∀ l, xpr 263 41 l = l := xpr_no (by decide +kernel)
theorem r_263_42 : xfetch 263 42 = some (.lload_n 3, 1) := by decide +kernel
theorem n_263_42 : ∀ l, xpr 263 42 l = l := xpr_no (by decide +kernel)
theorem r_263_43 : xfetch 263 43 = some (.iload 7, 2) := by decide +kernel
theorem n_263_43 : ∀ l, xpr 263 43 l = l := xpr_no (by decide +kernel)
theorem r_263_45 : xfetch 263 45 = some (.i2l, 1) := by decide +kernel
theorem n_263_45 : ∀ l, xpr 263 45 l = l := xpr_no (by decide +kernel)
theorem r_263_46 : xfetch 263 46 = some (.lload 5, 2) := by decide +kernel
theorem n_263_46 : ∀ l, xpr 263 46 l = l := xpr_no (by decide +kernel)
theorem r_263_48 : xfetch 263 48 = some (.lmul, 1) := by decide +kernel
theorem n_263_48 : ∀ l, xpr 263 48 l = l := xpr_no (by decide +kernel)
theorem r_263_49 : xfetch 263 49 = some (.ladd, 1) := by decide +kernel
theorem n_263_49 : ∀ l, xpr 263 49 l = l := xpr_no (by decide +kernel)
theorem r_263_50 : xfetch 263 50 = some (.invokevirtual 281, 3) := by decide +kernel
theorem n_263_50 : ∀ l, xpr 263 50 l = l := xpr_no (by decide +kernel)
theorem r_263_53 : xfetch 263 53 = some (.iinc 7 1, 3) := by decide +kernel
theorem n_263_53 : ∀ l, xpr 263 53 l = l := xpr_no (by decide +kernel)
theorem r_263_56 : xfetch 263 56 = some (.goto (-30), 3) := by decide +kernel
theorem n_263_56 : ∀ l, xpr 263 56 l = l := xpr_no (by decide +kernel)
theorem r_263_59 : xfetch 263 59 = some (.aload_n 0, 1) := by decide +kernel
theorem n_263_59 : ∀ l, xpr 263 59 l = l := xpr_no (by decide +kernel)
theorem r_263_60 : xfetch 263 60 = some (.iload_n 1, 1) := by decide +kernel
theorem n_263_60 : ∀ l, xpr 263 60 l = l := xpr_no (by decide +kernel)
theorem r_263_61 : xfetch 263 61 = some (.iconst 1, 1) := by decide +kernel
theorem n_263_61 : ∀ l, xpr 263 61 l = l := xpr_no (by decide +kernel)
theorem r_263_62 : xfetch 263 62 = some (.invokevirtual 228, 3) := by decide +kernel
theorem n_263_62 : ∀ l, xpr 263 62 l = l := xpr_no (by decide +kernel)
theorem r_263_65 : xfetch 263 65 = some (.ireturn, 1) := by decide +kernel
theorem n_263_65 : ∀ l, xpr 263 65 l = l := xpr_no (by decide +kernel)
theorem v_Model_fill_0 {S : Option (Nat × (Nat → Int32))} {s : zSt} {Q : Option Value ⊕ Nat → zSt → Prop} {x1 : Int} {x2 : Int} {u3 : Int64} {u5 : Int64} 
    (h : wp S 243 0 [(0, rf 252), (1, iv x1), (2, iv x2)] [] s (fun o1 s1 => zkI (fun y1 => (¬ (y1 = 0) → wp S 182 0 [(0, rf 252)] [] (zwI s1 252 3 (bi (y1 = 0))) (fun o6 s6 => zkU (wp S 263 26 [(0, rf 252), (1, iv x1), (2, iv x2), (3, .long u3), (5, .long u5), (7, iv 0)] [] s6 Q) (fun e6 => False) o6)) ∧ (y1 = 0 → Q (rI 0) (zwI s1 252 3 (bi (y1 = 0))))) (fun e1 => False) o1)) :
    wp S 263 0 [(0, rf 252), (1, iv x1), (2, iv x2), (3, .long u3), (5, .long u5)] [] s Q := by
  refine i_aload_n (a := 252) r_263_0 (n_263_0 _) rfl ?_
  refine i_aload_n (a := 252) r_263_1 (n_263_1 _) rfl ?_
  refine i_aload_n (a := 252) r_263_2 (n_263_2 _) rfl ?_
  refine i_iload_n (x := x1) r_263_3 (n_263_3 _) rfl ?_
  refine i_iload_n (x := x2) r_263_4 (n_263_4 _) rfl ?_
  refine wp_virt (b := 252) (rest := [rf 252, rf 252]) (Ls := [(0, rf 252), (1, iv x1), (2, iv x2)]) r_263_5 (n_263_5 _) rfl ⟨rfl, rfl, by decide, by decide⟩ rfl rfl lf_252 ⟨rfl, Nat.le_of_ble_eq_true rfl, Nat.le_of_ble_eq_true rfl⟩ rfl h ?_
  intro o1 s1 h
  rcases h with ⟨y1, q2, rfl, h⟩ | ⟨e1, rfl, h⟩
  · refine .inl ⟨some (iv y1), rfl, ?_⟩
    show wp S 263 8 [(0, rf 252), (1, iv x1), (2, iv x2), (3, .long u3), (5, .long u5)] [iv y1, rf 252, rf 252] s1 Q
    refine wp_virt (b := 252) (rest := [rf 252]) (Ls := [(0, rf 252), (1, iv y1)]) r_263_8 (n_263_8 _) rfl ⟨rfl, rfl, by decide, by decide⟩ rfl rfl lf_252 ⟨rfl, Nat.le_of_ble_eq_true rfl, Nat.le_of_ble_eq_true rfl⟩ rfl (K_Model_need q2) ?_
    rintro _ _ ⟨rfl, rfl⟩
    refine .inl ⟨some (iv (bi (y1 = 0))), rfl, ?_⟩
    show wp S 263 11 [(0, rf 252), (1, iv x1), (2, iv x2), (3, .long u3), (5, .long u5)] [iv (bi (y1 = 0)), rf 252] s1 Q
    refine wp_virt (b := 252) (rest := []) (Ls := [(0, rf 252), (1, iv (bi (y1 = 0)))]) r_263_11 (n_263_11 _) rfl ⟨rfl, rfl, by decide, by decide⟩ rfl rfl lf_252 ⟨rfl, Nat.le_of_ble_eq_true rfl, Nat.le_of_ble_eq_true rfl⟩ rfl K_Model_refusedB ?_
    rintro _ _ ⟨rfl, rfl⟩
    refine .inl ⟨some (iv (bi (y1 = 0))), rfl, ?_⟩
    show wp S 263 14 [(0, rf 252), (1, iv x1), (2, iv x2), (3, .long u3), (5, .long u5)] [iv (bi (y1 = 0))] (zwI s1 252 3 (bi (y1 = 0))) Q
    refine i_if (t := 19) r_263_14 (n_263_14 _) rfl (TB_eq) (fun c5 => ?_) (fun c5 => ?_)
    · replace h := h.1 c5
      refine i_aload_n (a := 252) r_263_19 (n_263_19 _) rfl ?_
      refine wp_virt (b := 252) (rest := []) (Ls := [(0, rf 252)]) r_263_20 (n_263_20 _) rfl ⟨rfl, rfl, by decide, by decide⟩ rfl rfl lf_252 ⟨rfl, Nat.le_of_ble_eq_true rfl, Nat.le_of_ble_eq_true rfl⟩ rfl h ?_
      intro o6 s6 h
      rcases h with ⟨rfl, h⟩ | ⟨e6, rfl, h⟩
      · refine .inl ⟨none, rfl, ?_⟩
        refine i_iconst r_263_23 (n_263_23 _) ?_
        refine i_istore (l' := [(0, rf 252), (1, iv x1), (2, iv x2), (3, .long u3), (5, .long u5), (7, iv 0)]) r_263_24 (n_263_24 _) (by decide) rfl ?_
        exact wp_pr (l' := [(0, rf 252), (1, iv x1), (2, iv x2), (3, .long u3), (5, .long u5), (7, iv 0)]) rfl h
      · skip
        exact h.elim
    · replace h := h.2 c5
      refine i_iconst r_263_17 (n_263_17 _) ?_
      exact i_ireturn r_263_18 (n_263_18 _) rfl h
  · skip
    exact h.elim
theorem v_Model_fill_26 {S : Option (Nat × (Nat → Int32))} {s : zSt} {Q : Option Value ⊕ Nat → zSt → Prop} {x1 : Int} {x2 : Int} {u3 : Int64} {u5 : Int64} {x7 : Int} 
    (h : (0 ≤ ((157 + (6 * x1)) + 1) ∧ ((157 + (6 * x1)) + 1) < 1199) ∧ (rng x7 ∧ (((zI s 253 ((157 + (6 * x1)) + 1)) ≤ x7 → Q (rI (zI s 253 ((157 + (6 * x1)) + 1))) s) ∧ (x7 < (zI s 253 ((157 + (6 * x1)) + 1)) → wp S 252 0 [(0, rf 252), (1, iv x1), (2, iv x7), (3, iv x2), (4, .long (u3 + ((zi2l x7) * u5)))] [] s (fun o8 s8 => zkU (wp S 263 26 [(0, rf 252), (1, iv x1), (2, iv x2), (3, .long u3), (5, .long u5), (7, iv (x7 + 1))] [] s8 Q) (fun e8 => False) o8))))) :
    wp S 263 26 [(0, rf 252), (1, iv x1), (2, iv x2), (3, .long u3), (5, .long u5), (7, iv x7)] [] s Q := by
  refine i_iload (x := x7) r_263_26 rfl rfl ?_
  refine i_aload_n (a := 252) r_263_28 (n_263_28 _) rfl ?_
  refine i_iload_n (x := x1) r_263_29 (n_263_29 _) rfl ?_
  refine i_iconst r_263_30 (n_263_30 _) ?_
  obtain ⟨g1, h⟩ := h
  refine wp_virt (b := 252) (rest := [iv x7]) (Ls := [(0, rf 252), (1, iv x1), (2, iv 1)]) r_263_31 (n_263_31 _) rfl ⟨rfl, rfl, by decide, by decide⟩ rfl rfl lf_252 ⟨rfl, Nat.le_of_ble_eq_true rfl, Nat.le_of_ble_eq_true rfl⟩ rfl (K_Model_of g1) ?_
  rintro _ _ ⟨rfl, rfl⟩
  refine .inl ⟨some (iv (zI s 253 ((157 + (6 * x1)) + 1))), rfl, ?_⟩
  show wp S 263 34 [(0, rf 252), (1, iv x1), (2, iv x2), (3, .long u3), (5, .long u5), (7, iv x7)] [iv (zI s 253 ((157 + (6 * x1)) + 1)), iv x7] s Q
  refine wp_rd (a := 253) (j := ((157 + (6 * x1)) + 1)) (fun q3 => ?_)
  obtain ⟨g4, h⟩ := h
  refine i_icmp (t := 59) r_263_34 (n_263_34 _) rfl (T_ge g4 q3) (fun c5 => ?_) (fun c5 => ?_)
  · replace h := h.1 c5
    refine i_aload_n (a := 252) r_263_59 (n_263_59 _) rfl ?_
    refine i_iload_n (x := x1) r_263_60 (n_263_60 _) rfl ?_
    refine i_iconst r_263_61 (n_263_61 _) ?_
    refine wp_virt (b := 252) (rest := []) (Ls := [(0, rf 252), (1, iv x1), (2, iv 1)]) r_263_62 (n_263_62 _) rfl ⟨rfl, rfl, by decide, by decide⟩ rfl rfl lf_252 ⟨rfl, Nat.le_of_ble_eq_true rfl, Nat.le_of_ble_eq_true rfl⟩ rfl (K_Model_of g1) ?_
    rintro _ _ ⟨rfl, rfl⟩
    refine .inl ⟨some (iv (zI s 253 ((157 + (6 * x1)) + 1))), rfl, ?_⟩
    show wp S 263 65 [(0, rf 252), (1, iv x1), (2, iv x2), (3, .long u3), (5, .long u5), (7, iv x7)] [iv (zI s 253 ((157 + (6 * x1)) + 1))] s Q
    exact i_ireturn r_263_65 (n_263_65 _) rfl h
  · replace h := h.2 c5
    refine i_aload_n (a := 252) r_263_37 (n_263_37 _) rfl ?_
    refine i_iload_n (x := x1) r_263_38 (n_263_38 _) rfl ?_
    refine i_iload (x := x7) r_263_39 (n_263_39 _) rfl ?_
    refine i_iload_n (x := x2) r_263_41 (n_263_41 _) rfl ?_
    refine i_lload_n (u := u3) r_263_42 (n_263_42 _) rfl ?_
    refine i_iload (x := x7) r_263_43 (n_263_43 _) rfl ?_
    refine i_i2l r_263_45 (n_263_45 _) ?_
    refine i_lload (u := u5) r_263_46 (n_263_46 _) rfl ?_
    refine i_lmul r_263_48 (n_263_48 _) ?_
    refine i_ladd r_263_49 (n_263_49 _) ?_
    refine wp_virt (b := 252) (rest := []) (Ls := [(0, rf 252), (1, iv x1), (2, iv x7), (3, iv x2), (4, .long (u3 + ((zi2l x7) * u5)))]) r_263_50 (n_263_50 _) rfl ⟨rfl, rfl, by decide, by decide⟩ rfl rfl lf_252 ⟨rfl, Nat.le_of_ble_eq_true rfl, Nat.le_of_ble_eq_true rfl⟩ rfl h ?_
    intro o8 s8 h
    rcases h with ⟨rfl, h⟩ | ⟨e8, rfl, h⟩
    · refine .inl ⟨none, rfl, ?_⟩
      refine i_iinc (x := x7) (l' := [(0, rf 252), (1, iv x1), (2, iv x2), (3, .long u3), (5, .long u5), (7, iv (x7 + 1))]) r_263_53 (n_263_53 _) (by decide) rfl rfl ?_
      refine i_goto (t := 26) r_263_56 (n_263_56 _) rfl ?_
      exact wp_pr (l' := [(0, rf 252), (1, iv x1), (2, iv x2), (3, .long u3), (5, .long u5), (7, iv (x7 + 1))]) rfl h
    · skip
      exact h.elim
theorem r_264_0 : xfetch 264 0 = some (.aload_n 0, 1) := by decide +kernel
theorem n_264_0 : ∀ l, xpr 264 0 l = l := xpr_no (by decide +kernel)
theorem r_264_1 : xfetch 264 1 = some (.aload_n 0, 1) := by decide +kernel
theorem n_264_1 : ∀ l, xpr 264 1 l = l := xpr_no (by decide +kernel)
theorem r_264_2 : xfetch 264 2 = some (.aload_n 0, 1) := by decide +kernel
theorem n_264_2 : ∀ l, xpr 264 2 l = l := xpr_no (by decide +kernel)
theorem r_264_3 : xfetch 264 3 = some (.iload_n 1, 1) := by decide +kernel
theorem n_264_3 : ∀ l, xpr 264 3 l = l := xpr_no (by decide +kernel)
theorem r_264_4 : xfetch 264 4 = some (.invokevirtual 225, 3) := by decide +kernel
theorem n_264_4 : ∀ l, xpr 264 4 l = l := xpr_no (by decide +kernel)
theorem r_264_7 : xfetch 264 7 = some (.ifCond .eq 25, 3) := by decide +kernel
theorem n_264_7 : ∀ l, xpr 264 7 l = l := xpr_no (by decide +kernel)
theorem r_264_10 : xfetch 264 10 = some (.aload_n 0, 1) := by decide +kernel
theorem n_264_10 : ∀ l, xpr 264 10 l = l := xpr_no (by decide +kernel)
theorem r_264_11 : xfetch 264 11 = some (.iload_n 1, 1) := by decide +kernel
theorem n_264_11 : ∀ l, xpr 264 11 l = l := xpr_no (by decide +kernel)
theorem r_264_12 : xfetch 264 12 = some (.iload_n 2, 1) := by decide +kernel
theorem n_264_12 : ∀ l, xpr 264 12 l = l := xpr_no (by decide +kernel)
theorem r_264_13 : xfetch 264 13 = some (.invokevirtual 257, 3) := by decide +kernel
theorem n_264_13 : ∀ l, xpr 264 13 l = l := xpr_no (by decide +kernel)
theorem r_264_16 : xfetch 264 16 = some (.ifCond .eq 16, 3) := by decide +kernel
theorem n_264_16 : ∀ l, xpr 264 16 l = l := xpr_no (by decide +kernel)
theorem r_264_19 : xfetch 264 19 = some (.aload_n 0, 1) := by decide +kernel
theorem n_264_19 : ∀ l, xpr 264 19 l = l := xpr_no (by decide +kernel)
theorem r_264_20 : xfetch 264 20 = some (.iload_n 1, 1) := by decide +kernel
theorem n_264_20 : ∀ l, xpr 264 20 l = l := xpr_no (by decide +kernel)
theorem r_264_21 : xfetch 264 21 = some (.iload_n 3, 1) := by decide +kernel
theorem n_264_21 : ∀ l, xpr 264 21 l = l := xpr_no (by decide +kernel)
theorem r_264_22 : xfetch 264 22 = some (.invokevirtual 257, 3) := by decide +kernel
theorem n_264_22 : ∀ l, xpr 264 22 l = l := xpr_no (by decide +kernel)
theorem r_264_25 : xfetch 264 25 = some (.ifCond .eq 7, 3) := by decide +kernel
theorem n_264_25 : ∀ l, xpr 264 25 l = l := xpr_no (by decide +kernel)
theorem r_264_28 : xfetch 264 28 = some (.iconst 1, 1) := by decide +kernel
theorem n_264_28 : ∀ l, xpr 264 28 l = l := xpr_no (by decide +kernel)
theorem r_264_29 : xfetch 264 29 = some (.goto 4, 3) := by decide +kernel
theorem n_264_29 : ∀ l, xpr 264 29 l = l := xpr_no (by decide +kernel)
theorem r_264_32 : xfetch 264 32 = some (.iconst 0, 1) := by decide +kernel
theorem n_264_32 : ∀ l, xpr 264 32 l = l := xpr_no (by decide +kernel)
theorem r_264_33 : xfetch 264 33 = some (.invokevirtual 175, 3) := by decide +kernel
theorem n_264_33 : ∀ l, xpr 264 33 l = l := xpr_no (by decide +kernel)
theorem r_264_36 : xfetch 264 36 = some (.invokevirtual 84, 3) := by decide +kernel
theorem n_264_36 : ∀ l, xpr 264 36 l = l := xpr_no (by decide +kernel)
theorem r_264_39 : xfetch 264 39 = some (.ifCond .eq 5, 3) := by decide +kernel
theorem n_264_39 : ∀ l, xpr 264 39 l = l := xpr_no (by decide +kernel)
theorem r_264_42 : xfetch 264 42 = some (.iconst 0, 1) := by decide +kernel
theorem n_264_42 : ∀ l, xpr 264 42 l = l := xpr_no (by decide +kernel)
theorem r_264_43 : xfetch 264 43 = some (.ireturn, 1) := by decide +kernel
theorem n_264_43 : ∀ l, xpr 264 43 l = l := xpr_no (by decide +kernel)
theorem r_264_44 : xfetch 264 44 = some (.aload_n 0, 1) := by decide +kernel
theorem n_264_44 : ∀ l, xpr 264 44 l = l := xpr_no (by decide +kernel)
theorem r_264_45 : xfetch 264 45 = some (.invokevirtual 152, 3) := by decide +kernel
theorem n_264_45 : ∀ l, xpr 264 45 l = l := xpr_no (by decide +kernel)
theorem r_264_48 : xfetch 264 48 = some (.aload_n 0, 1) := by decide +kernel
theorem n_264_48 : ∀ l, xpr 264 48 l = l := xpr_no (by decide +kernel)
theorem r_264_49 : xfetch 264 49 = some (.invokevirtual 135, 3) := by decide +kernel
theorem n_264_49 : ∀ l, xpr 264 49 l = l := xpr_no (by decide +kernel)
theorem r_264_52 : xfetch 264 52 = some (.aload_n 0, 1) := by decide +kernel
theorem n_264_52 : ∀ l, xpr 264 52 l = l := xpr_no (by decide +kernel)
theorem r_264_53 : xfetch 264 53 = some (.iload_n 1, 1) := by decide +kernel
theorem n_264_53 : ∀ l, xpr 264 53 l = l := xpr_no (by decide +kernel)
theorem r_264_54 : xfetch 264 54 = some (.invokevirtual 284, 3) := by decide +kernel
theorem n_264_54 : ∀ l, xpr 264 54 l = l := xpr_no (by decide +kernel)
theorem r_264_57 : xfetch 264 57 = some (.iconst 0, 1) := by decide +kernel
theorem n_264_57 : ∀ l, xpr 264 57 l = l := xpr_no (by decide +kernel)
theorem r_264_58 : xfetch 264 58 = some (.istore 4, 2) := by decide +kernel
theorem n_264_58 : ∀ l, xpr 264 58 l = l := xpr_no (by decide +kernel)
theorem r_264_60 : xfetch 264 60 = some (.iconst 0, 1) := by decide +kernel
theorem n_264_60 : ∀ l, xpr 264 60 l = l := xpr_no (by decide +kernel)
theorem r_264_61 : xfetch 264 61 = some (.istore 5, 2) := by decide +kernel
theorem n_264_61 : ∀ l, xpr 264 61 l = l := xpr_no (by decide +kernel)
theorem r_264_63 : xfetch 264 63 = some (.iload 5, 2) := by decide +kernel
theorem r_264_65 : xfetch 264 65 = some (.aload_n 0, 1) := by decide +kernel
theorem n_264_65 : ∀ l, xpr 264 65 l = l := xpr_no (by decide +kernel)
theorem r_264_66 : xfetch 264 66 = some (.getfield 19, 3) := by decide +kernel
theorem n_264_66 : ∀ l, xpr 264 66 l = l := xpr_no (by decide +kernel)
theorem r_264_69 : xfetch 264 69 = some (.aload_n 0, 1) := by decide +kernel
theorem n_264_69 : ∀ l, xpr 264 69 l = l := xpr_no (by decide +kernel)
theorem r_264_70 : xfetch 264 70 = some (.iload_n 1, 1) := by decide +kernel
theorem n_264_70 : ∀ l, xpr 264 70 l = l := xpr_no (by decide +kernel)
theorem r_264_71 : xfetch 264 71 = some (.iconst 0, 1) := by decide +kernel
theorem n_264_71 : ∀ l, xpr 264 71 l = l := xpr_no (by decide +kernel)
theorem r_264_72 : xfetch 264 72 = some (.invokevirtual 228, 3) := by decide +kernel
theorem n_264_72 : ∀ l, xpr 264 72 l = l := xpr_no (by decide +kernel)
theorem r_264_75 : xfetch 264 75 = some (.iaload, 1) := by decide +kernel
theorem n_264_75 : ∀ l, xpr 264 75 l = l := xpr_no (by decide +kernel)
theorem r_264_76 : xfetch 264 76 = some (.if_icmp .ge 67, 3) := by decide +kernel
theorem n_264_76 : ∀ l, xpr 264 76 l = l := xpr_no (by decide +kernel)
theorem r_264_79 : xfetch 264 79 = some (.aload_n 0, 1) := by decide +kernel
theorem n_264_79 : ∀ l, xpr 264 79 l = l := xpr_no (by decide +kernel)
theorem r_264_80 : xfetch 264 80 = some (.iload_n 1, 1) := by decide +kernel
theorem n_264_80 : ∀ l, xpr 264 80 l = l := xpr_no (by decide +kernel)
theorem r_264_81 : xfetch 264 81 = some (.iload_n 3, 1) := by decide +kernel
theorem n_264_81 : ∀ l, xpr 264 81 l = l := xpr_no (by decide +kernel)
theorem r_264_82 : xfetch 264 82 = some (.iload 5, 2) := by decide +kernel
theorem n_264_82 : ∀ l, xpr 264 82 l = l := xpr_no (by decide +kernel)
theorem r_264_84 : xfetch 264 84 = some (.aload_n 0, 1) := by decide +kernel
theorem n_264_84 : ∀ l, xpr 264 84 l = l := xpr_no (by decide +kernel)
theorem r_264_85 : xfetch 264 85 = some (.getfield 67, 3) := by decide +kernel
theorem n_264_85 : ∀ l, xpr 264 85 l = l := xpr_no (by decide +kernel)
theorem r_264_88 : xfetch 264 88 = some (.bipush 40, 2) := by decide +kernel
theorem n_264_88 : ∀ l, xpr 264 88 l = l := xpr_no (by decide +kernel)
theorem r_264_90 : xfetch 264 90 = some (.iload_n 2, 1) := by decide +kernel
theorem n_264_90 : ∀ l, xpr 264 90 l = l := xpr_no (by decide +kernel)
theorem r_264_91 : xfetch 264 91 = some (.imul, 1) := by decide +kernel
theorem n_264_91 : ∀ l, xpr 264 91 l = l := xpr_no (by decide +kernel)
theorem r_264_92 : xfetch 264 92 = some (.iload 5, 2) := by decide +kernel
theorem n_264_92 : ∀ l, xpr 264 92 l = l := xpr_no (by decide +kernel)
theorem r_264_94 : xfetch 264 94 = some (.iadd, 1) := by decide +kernel
theorem n_264_94 : ∀ l, xpr 264 94 l = l := xpr_no (by decide +kernel)
theorem r_264_95 : xfetch 264 95 = some (.laload, 1) := by decide +kernel
theorem n_264_95 : ∀ l, xpr 264 95 l = l := xpr_no (by decide +kernel)
theorem r_264_96 : xfetch 264 96 = some (.invokevirtual 281, 3) := by decide +kernel
theorem n_264_96 : ∀ l, xpr 264 96 l = l := xpr_no (by decide +kernel)
theorem r_264_99 : xfetch 264 99 = some (.iload 4, 2) := by decide +kernel
theorem n_264_99 : ∀ l, xpr 264 99 l = l := xpr_no (by decide +kernel)
theorem r_264_101 : xfetch 264 101 = some (.aload_n 0, 1) := by decide +kernel
theorem n_264_101 : ∀ l, xpr 264 101 l = l := xpr_no (by decide +kernel)
theorem r_264_102 : xfetch 264 102 = some (.getfield 67, 3) := by decide +kernel
theorem n_264_102 : ∀ l, xpr 264 102 l = l := xpr_no (by decide +kernel)
theorem r_264_105 : xfetch 264 105 = some (.bipush 40, 2) := by decide +kernel
theorem n_264_105 : ∀ l, xpr 264 105 l = l := xpr_no (by decide +kernel)
theorem r_264_107 : xfetch 264 107 = some (.iload_n 2, 1) := by decide +kernel
theorem n_264_107 : ∀ l, xpr 264 107 l = l := xpr_no (by decide +kernel)
theorem r_264_108 : xfetch 264 108 = some (.imul, 1) := by decide +kernel
theorem n_264_108 : ∀ l, xpr 264 108 l = l := xpr_no (by decide +kernel)
theorem r_264_109 : xfetch 264 109 = some (.iload 5, 2) := by decide +kernel
theorem n_264_109 : ∀ l, xpr 264 109 l = l := xpr_no (by decide +kernel)
theorem r_264_111 : xfetch 264 111 = some (.iadd, 1) := by decide +kernel
theorem n_264_111 : ∀ l, xpr 264 111 l = l := xpr_no (by decide +kernel)
theorem r_264_112 : xfetch 264 112 = some (.laload, 1) := by decide +kernel
theorem n_264_112 : ∀ l, xpr 264 112 l = l := xpr_no (by decide +kernel)
theorem r_264_113 : xfetch 264 113 = some (.aload_n 0, 1) := by decide +kernel
theorem n_264_113 : ∀ l, xpr 264 113 l = l := xpr_no (by decide +kernel)
theorem r_264_114 : xfetch 264 114 = some (.getfield 67, 3) := by decide +kernel
theorem n_264_114 : ∀ l, xpr 264 114 l = l := xpr_no (by decide +kernel)
theorem r_264_117 : xfetch 264 117 = some (.bipush 40, 2) := by decide +kernel
theorem n_264_117 : ∀ l, xpr 264 117 l = l := xpr_no (by decide +kernel)
theorem r_264_119 : xfetch 264 119 = some (.iload_n 3, 1) := by decide +kernel
theorem n_264_119 : ∀ l, xpr 264 119 l = l := xpr_no (by decide +kernel)
theorem r_264_120 : xfetch 264 120 = some (.imul, 1) := by decide +kernel
theorem n_264_120 : ∀ l, xpr 264 120 l = l := xpr_no (by decide +kernel)
theorem r_264_121 : xfetch 264 121 = some (.iload 5, 2) := by decide +kernel
theorem n_264_121 : ∀ l, xpr 264 121 l = l := xpr_no (by decide +kernel)
theorem r_264_123 : xfetch 264 123 = some (.iadd, 1) := by decide +kernel
theorem n_264_123 : ∀ l, xpr 264 123 l = l := xpr_no (by decide +kernel)
theorem r_264_124 : xfetch 264 124 = some (.laload, 1) := by decide +kernel
theorem n_264_124 : ∀ l, xpr 264 124 l = l := xpr_no (by decide +kernel)
theorem r_264_125 : xfetch 264 125 = some (.lcmp, 1) := by decide +kernel
theorem n_264_125 : ∀ l, xpr 264 125 l = l := xpr_no (by decide +kernel)
theorem r_264_126 : xfetch 264 126 = some (.ifCond .ne 7, 3) := by decide +kernel
theorem n_264_126 : ∀ l, xpr 264 126 l = l := xpr_no (by decide +kernel)
theorem r_264_129 : xfetch 264 129 = some (.iconst 0, 1) := by decide +kernel
theorem n_264_129 : ∀ l, xpr 264 129 l = l := xpr_no (by decide +kernel)
theorem r_264_130 : xfetch 264 130 = some (.goto 4, 3) := by decide +kernel
theorem n_264_130 : ∀ l, xpr 264 130 l = l := xpr_no (by decide +kernel)
theorem r_264_133 : xfetch 264 133 = some (.iconst 1, 1) := by decide +kernel
theorem n_264_133 : ∀ l, xpr 264 133 l = l := xpr_no (by decide +kernel)
theorem r_264_134 : xfetch 264 134 = some (.iadd, 1) := by decide +kernel
theorem n_264_134 : ∀ l, xpr 264 134 l = l := xpr_no (by decide +kernel)
theorem r_264_135 : xfetch 264 135 = some (.istore 4, 2) := by decide +kernel
theorem n_264_135 : ∀ l, xpr 264 135 l = l := xpr_no (by decide +kernel)
theorem r_264_137 : xfetch 264 137 = some (.iinc 5 1, 3) := by decide +kernel
theorem n_264_137 : ∀ l, xpr 264 137 l = l := xpr_no (by decide +kernel)
theorem r_264_140 : xfetch 264 140 = some (.goto (-77), 3) := by decide +kernel
theorem n_264_140 : ∀ l, xpr 264 140 l = l := xpr_no (by decide +kernel)
theorem r_264_143 : xfetch 264 143 = some (.iload 4, 2) := by decide +kernel
theorem n_264_143 : ∀ l, xpr 264 143 l = l := xpr_no (by decide +kernel)
theorem r_264_145 : xfetch 264 145 = some (.ireturn, 1) := by decide +kernel
theorem n_264_145 : ∀ l, xpr 264 145 l = l := xpr_no (by decide +kernel)
theorem v_Model_copyRow_0 {S : Option (Nat × (Nat → Int32))} {s : zSt} {Q : Option Value ⊕ Nat → zSt → Prop} {x1 : Int} {x2 : Int} {x3 : Int} 
    (h : rng x1 ∧ ((¬ (0 ≤ x1 ∧ x1 ≤ 2 ∧ zI s 253 (157 + 6 * x1) ≠ -1) → Q (rI 0) (zwI s 252 3 1)) ∧ (0 ≤ x1 ∧ x1 ≤ 2 ∧ zI s 253 (157 + 6 * x1) ≠ -1 → (0 ≤ ((157 + (6 * x1)) + 1) ∧ ((157 + (6 * x1)) + 1) < 1199) ∧ (rng x2 ∧ (rng ((zI s 253 ((157 + (6 * x1)) + 1)) - 1) ∧ ((¬ (0 ≤ x2 ∧ x2 ≤ ((zI s 253 ((157 + (6 * x1)) + 1)) - 1)) → Q (rI 0) (zwI s 252 3 1)) ∧ (0 ≤ x2 ∧ x2 ≤ ((zI s 253 ((157 + (6 * x1)) + 1)) - 1) → rng x3 ∧ ((¬ (0 ≤ x3 ∧ x3 ≤ ((zI s 253 ((157 + (6 * x1)) + 1)) - 1)) → Q (rI 0) (zwI s 252 3 1)) ∧ (0 ≤ x3 ∧ x3 ≤ ((zI s 253 ((157 + (6 * x1)) + 1)) - 1) → wp S 193 0 [(0, rf 252)] [] (zwI s 252 3 0) (fun o20 s20 => zkU (wp S 182 0 [(0, rf 252)] [] s20 (fun o22 s22 => zkU (wp S 258 0 [(0, rf 252), (1, iv x1)] [] s22 (fun o24 s24 => zkU (wp S 264 63 [(0, rf 252), (1, iv x1), (2, iv x2), (3, iv x3), (4, iv 0), (5, iv 0)] [] s24 Q) (fun e24 => False) o24)) (fun e22 => False) o22)) (fun e20 => False) o20)))))))))) :
    wp S 264 0 [(0, rf 252), (1, iv x1), (2, iv x2), (3, iv x3)] [] s Q := by
  refine i_aload_n (a := 252) r_264_0 (n_264_0 _) rfl ?_
  refine i_aload_n (a := 252) r_264_1 (n_264_1 _) rfl ?_
  refine i_aload_n (a := 252) r_264_2 (n_264_2 _) rfl ?_
  refine i_iload_n (x := x1) r_264_3 (n_264_3 _) rfl ?_
  obtain ⟨g1, h⟩ := h
  refine wp_virt (b := 252) (rest := [rf 252, rf 252]) (Ls := [(0, rf 252), (1, iv x1)]) r_264_4 (n_264_4 _) rfl ⟨rfl, rfl, by decide, by decide⟩ rfl rfl lf_252 ⟨rfl, Nat.le_of_ble_eq_true rfl, Nat.le_of_ble_eq_true rfl⟩ rfl (K_Model_isTable g1) ?_
  rintro _ _ ⟨rfl, rfl⟩
  refine .inl ⟨some (iv (bi (0 ≤ x1 ∧ x1 ≤ 2 ∧ zI s 253 (157 + 6 * x1) ≠ -1))), rfl, ?_⟩
  show wp S 264 7 [(0, rf 252), (1, iv x1), (2, iv x2), (3, iv x3)] [iv (bi (0 ≤ x1 ∧ x1 ≤ 2 ∧ zI s 253 (157 + 6 * x1) ≠ -1)), rf 252, rf 252] s Q
  refine i_if (t := 32) r_264_7 (n_264_7 _) rfl (TB_eq) (fun c3 => ?_) (fun c3 => ?_)
  · replace h := h.1 c3
    refine i_iconst r_264_32 (n_264_32 _) ?_
    refine wp_virt (b := 252) (rest := [rf 252]) (Ls := [(0, rf 252), (1, iv 0)]) r_264_33 (n_264_33 _) rfl ⟨rfl, rfl, by decide, by decide⟩ rfl rfl lf_252 ⟨rfl, Nat.le_of_ble_eq_true rfl, Nat.le_of_ble_eq_true rfl⟩ rfl K_Model_need0 ?_
    rintro _ _ ⟨rfl, rfl⟩
    refine .inl ⟨some (iv 1), rfl, ?_⟩
    show wp S 264 36 [(0, rf 252), (1, iv x1), (2, iv x2), (3, iv x3)] [iv 1, rf 252] s Q
    refine wp_virt (b := 252) (rest := []) (Ls := [(0, rf 252), (1, iv 1)]) r_264_36 (n_264_36 _) rfl ⟨rfl, rfl, by decide, by decide⟩ rfl rfl lf_252 ⟨rfl, Nat.le_of_ble_eq_true rfl, Nat.le_of_ble_eq_true rfl⟩ rfl (K_Model_refused1 ⟨by omega, by omega⟩ (by omega)) ?_
    rintro _ _ ⟨rfl, rfl⟩
    refine .inl ⟨some (iv 1), rfl, ?_⟩
    show wp S 264 39 [(0, rf 252), (1, iv x1), (2, iv x2), (3, iv x3)] [iv 1] (zwI s 252 3 1) Q
    refine i_if (t := 44) r_264_39 (n_264_39 _) rfl (T_eq ⟨by omega, by omega⟩ ⟨by omega, by omega⟩) (fun z => absurd z (by omega)) (fun _ => ?_)
    refine i_iconst r_264_42 (n_264_42 _) ?_
    exact i_ireturn r_264_43 (n_264_43 _) rfl h
  · replace h := h.2 c3
    refine i_aload_n (a := 252) r_264_10 (n_264_10 _) rfl ?_
    refine i_iload_n (x := x1) r_264_11 (n_264_11 _) rfl ?_
    refine i_iload_n (x := x2) r_264_12 (n_264_12 _) rfl ?_
    obtain ⟨g6, h⟩ := h
    obtain ⟨g7, h⟩ := h
    obtain ⟨g8, h⟩ := h
    refine wp_virt (b := 252) (rest := [rf 252, rf 252]) (Ls := [(0, rf 252), (1, iv x1), (2, iv x2)]) r_264_13 (n_264_13 _) rfl ⟨rfl, rfl, by decide, by decide⟩ rfl rfl lf_252 ⟨rfl, Nat.le_of_ble_eq_true rfl, Nat.le_of_ble_eq_true rfl⟩ rfl (K_Model_isRow g6 g7 g8) ?_
    rintro _ _ ⟨rfl, rfl⟩
    refine .inl ⟨some (iv (bi (0 ≤ x2 ∧ x2 ≤ ((zI s 253 ((157 + (6 * x1)) + 1)) - 1)))), rfl, ?_⟩
    show wp S 264 16 [(0, rf 252), (1, iv x1), (2, iv x2), (3, iv x3)] [iv (bi (0 ≤ x2 ∧ x2 ≤ ((zI s 253 ((157 + (6 * x1)) + 1)) - 1))), rf 252, rf 252] s Q
    refine i_if (t := 32) r_264_16 (n_264_16 _) rfl (TB_eq) (fun c10 => ?_) (fun c10 => ?_)
    · replace h := h.1 c10
      refine i_iconst r_264_32 (n_264_32 _) ?_
      refine wp_virt (b := 252) (rest := [rf 252]) (Ls := [(0, rf 252), (1, iv 0)]) r_264_33 (n_264_33 _) rfl ⟨rfl, rfl, by decide, by decide⟩ rfl rfl lf_252 ⟨rfl, Nat.le_of_ble_eq_true rfl, Nat.le_of_ble_eq_true rfl⟩ rfl K_Model_need0 ?_
      rintro _ _ ⟨rfl, rfl⟩
      refine .inl ⟨some (iv 1), rfl, ?_⟩
      show wp S 264 36 [(0, rf 252), (1, iv x1), (2, iv x2), (3, iv x3)] [iv 1, rf 252] s Q
      refine wp_virt (b := 252) (rest := []) (Ls := [(0, rf 252), (1, iv 1)]) r_264_36 (n_264_36 _) rfl ⟨rfl, rfl, by decide, by decide⟩ rfl rfl lf_252 ⟨rfl, Nat.le_of_ble_eq_true rfl, Nat.le_of_ble_eq_true rfl⟩ rfl (K_Model_refused1 ⟨by omega, by omega⟩ (by omega)) ?_
      rintro _ _ ⟨rfl, rfl⟩
      refine .inl ⟨some (iv 1), rfl, ?_⟩
      show wp S 264 39 [(0, rf 252), (1, iv x1), (2, iv x2), (3, iv x3)] [iv 1] (zwI s 252 3 1) Q
      refine i_if (t := 44) r_264_39 (n_264_39 _) rfl (T_eq ⟨by omega, by omega⟩ ⟨by omega, by omega⟩) (fun z => absurd z (by omega)) (fun _ => ?_)
      refine i_iconst r_264_42 (n_264_42 _) ?_
      exact i_ireturn r_264_43 (n_264_43 _) rfl h
    · replace h := h.2 c10
      refine i_aload_n (a := 252) r_264_19 (n_264_19 _) rfl ?_
      refine i_iload_n (x := x1) r_264_20 (n_264_20 _) rfl ?_
      refine i_iload_n (x := x3) r_264_21 (n_264_21 _) rfl ?_
      obtain ⟨g13, h⟩ := h
      refine wp_virt (b := 252) (rest := [rf 252, rf 252]) (Ls := [(0, rf 252), (1, iv x1), (2, iv x3)]) r_264_22 (n_264_22 _) rfl ⟨rfl, rfl, by decide, by decide⟩ rfl rfl lf_252 ⟨rfl, Nat.le_of_ble_eq_true rfl, Nat.le_of_ble_eq_true rfl⟩ rfl (K_Model_isRow g6 g13 g8) ?_
      rintro _ _ ⟨rfl, rfl⟩
      refine .inl ⟨some (iv (bi (0 ≤ x3 ∧ x3 ≤ ((zI s 253 ((157 + (6 * x1)) + 1)) - 1)))), rfl, ?_⟩
      show wp S 264 25 [(0, rf 252), (1, iv x1), (2, iv x2), (3, iv x3)] [iv (bi (0 ≤ x3 ∧ x3 ≤ ((zI s 253 ((157 + (6 * x1)) + 1)) - 1))), rf 252, rf 252] s Q
      refine i_if (t := 32) r_264_25 (n_264_25 _) rfl (TB_eq) (fun c15 => ?_) (fun c15 => ?_)
      · replace h := h.1 c15
        refine i_iconst r_264_32 (n_264_32 _) ?_
        refine wp_virt (b := 252) (rest := [rf 252]) (Ls := [(0, rf 252), (1, iv 0)]) r_264_33 (n_264_33 _) rfl ⟨rfl, rfl, by decide, by decide⟩ rfl rfl lf_252 ⟨rfl, Nat.le_of_ble_eq_true rfl, Nat.le_of_ble_eq_true rfl⟩ rfl K_Model_need0 ?_
        rintro _ _ ⟨rfl, rfl⟩
        refine .inl ⟨some (iv 1), rfl, ?_⟩
        show wp S 264 36 [(0, rf 252), (1, iv x1), (2, iv x2), (3, iv x3)] [iv 1, rf 252] s Q
        refine wp_virt (b := 252) (rest := []) (Ls := [(0, rf 252), (1, iv 1)]) r_264_36 (n_264_36 _) rfl ⟨rfl, rfl, by decide, by decide⟩ rfl rfl lf_252 ⟨rfl, Nat.le_of_ble_eq_true rfl, Nat.le_of_ble_eq_true rfl⟩ rfl (K_Model_refused1 ⟨by omega, by omega⟩ (by omega)) ?_
        rintro _ _ ⟨rfl, rfl⟩
        refine .inl ⟨some (iv 1), rfl, ?_⟩
        show wp S 264 39 [(0, rf 252), (1, iv x1), (2, iv x2), (3, iv x3)] [iv 1] (zwI s 252 3 1) Q
        refine i_if (t := 44) r_264_39 (n_264_39 _) rfl (T_eq ⟨by omega, by omega⟩ ⟨by omega, by omega⟩) (fun z => absurd z (by omega)) (fun _ => ?_)
        refine i_iconst r_264_42 (n_264_42 _) ?_
        exact i_ireturn r_264_43 (n_264_43 _) rfl h
      · replace h := h.2 c15
        refine i_iconst r_264_28 (n_264_28 _) ?_
        refine i_goto (t := 33) r_264_29 (n_264_29 _) rfl ?_
        refine wp_virt (b := 252) (rest := [rf 252]) (Ls := [(0, rf 252), (1, iv 1)]) r_264_33 (n_264_33 _) rfl ⟨rfl, rfl, by decide, by decide⟩ rfl rfl lf_252 ⟨rfl, Nat.le_of_ble_eq_true rfl, Nat.le_of_ble_eq_true rfl⟩ rfl (K_Model_need1 ⟨by omega, by omega⟩ (by omega)) ?_
        rintro _ _ ⟨rfl, rfl⟩
        refine .inl ⟨some (iv 0), rfl, ?_⟩
        show wp S 264 36 [(0, rf 252), (1, iv x1), (2, iv x2), (3, iv x3)] [iv 0, rf 252] s Q
        refine wp_virt (b := 252) (rest := []) (Ls := [(0, rf 252), (1, iv 0)]) r_264_36 (n_264_36 _) rfl ⟨rfl, rfl, by decide, by decide⟩ rfl rfl lf_252 ⟨rfl, Nat.le_of_ble_eq_true rfl, Nat.le_of_ble_eq_true rfl⟩ rfl K_Model_refused0 ?_
        rintro _ _ ⟨rfl, rfl⟩
        refine .inl ⟨some (iv 0), rfl, ?_⟩
        show wp S 264 39 [(0, rf 252), (1, iv x1), (2, iv x2), (3, iv x3)] [iv 0] (zwI s 252 3 0) Q
        refine i_if (t := 44) r_264_39 (n_264_39 _) rfl (T_eq ⟨by omega, by omega⟩ ⟨by omega, by omega⟩) (fun _ => ?_) (fun z => absurd z (by omega))
        refine i_aload_n (a := 252) r_264_44 (n_264_44 _) rfl ?_
        refine wp_virt (b := 252) (rest := []) (Ls := [(0, rf 252)]) r_264_45 (n_264_45 _) rfl ⟨rfl, rfl, by decide, by decide⟩ rfl rfl lf_252 ⟨rfl, Nat.le_of_ble_eq_true rfl, Nat.le_of_ble_eq_true rfl⟩ rfl h ?_
        intro o20 s20 h
        rcases h with ⟨rfl, h⟩ | ⟨e20, rfl, h⟩
        · refine .inl ⟨none, rfl, ?_⟩
          refine i_aload_n (a := 252) r_264_48 (n_264_48 _) rfl ?_
          refine wp_virt (b := 252) (rest := []) (Ls := [(0, rf 252)]) r_264_49 (n_264_49 _) rfl ⟨rfl, rfl, by decide, by decide⟩ rfl rfl lf_252 ⟨rfl, Nat.le_of_ble_eq_true rfl, Nat.le_of_ble_eq_true rfl⟩ rfl h ?_
          intro o22 s22 h
          rcases h with ⟨rfl, h⟩ | ⟨e22, rfl, h⟩
          · refine .inl ⟨none, rfl, ?_⟩
            refine i_aload_n (a := 252) r_264_52 (n_264_52 _) rfl ?_
            refine i_iload_n (x := x1) r_264_53 (n_264_53 _) rfl ?_
            refine wp_virt (b := 252) (rest := []) (Ls := [(0, rf 252), (1, iv x1)]) r_264_54 (n_264_54 _) rfl ⟨rfl, rfl, by decide, by decide⟩ rfl rfl lf_252 ⟨rfl, Nat.le_of_ble_eq_true rfl, Nat.le_of_ble_eq_true rfl⟩ rfl h ?_
            intro o24 s24 h
            rcases h with ⟨rfl, h⟩ | ⟨e24, rfl, h⟩
            · refine .inl ⟨none, rfl, ?_⟩
              refine i_iconst r_264_57 (n_264_57 _) ?_
              refine i_istore (l' := [(0, rf 252), (1, iv x1), (2, iv x2), (3, iv x3), (4, iv 0)]) r_264_58 (n_264_58 _) (by decide) rfl ?_
              refine i_iconst r_264_60 (n_264_60 _) ?_
              refine i_istore (l' := [(0, rf 252), (1, iv x1), (2, iv x2), (3, iv x3), (4, iv 0), (5, iv 0)]) r_264_61 (n_264_61 _) (by decide) rfl ?_
              exact wp_pr (l' := [(0, rf 252), (1, iv x1), (2, iv x2), (3, iv x3), (4, iv 0), (5, iv 0)]) rfl h
            · skip
              exact h.elim
          · skip
            exact h.elim
        · skip
          exact h.elim
theorem v_Model_copyRow_63 {S : Option (Nat × (Nat → Int32))} {s : zSt} {Q : Option Value ⊕ Nat → zSt → Prop} {x1 : Int} {x2 : Int} {x3 : Int} {x4 : Int} {x5 : Int} 
    (h : (0 ≤ ((157 + (6 * x1)) + 0) ∧ ((157 + (6 * x1)) + 0) < 1199) ∧ ((0 ≤ (zI s 253 ((157 + (6 * x1)) + 0)) ∧ (zI s 253 ((157 + (6 * x1)) + 0)) < 6) ∧ (rng x5 ∧ (((zI s 256 (zI s 253 ((157 + (6 * x1)) + 0))) ≤ x5 → Q (rI x4) s) ∧ (x5 < (zI s 256 (zI s 253 ((157 + (6 * x1)) + 0))) → (0 ≤ ((40 * x2) + x5) ∧ ((40 * x2) + x5) < 480) ∧ (wp S 252 0 [(0, rf 252), (1, iv x1), (2, iv x3), (3, iv x5), (4, .long (zL s 272 ((40 * x2) + x5)))] [] s (fun o9 s9 => zkU ((0 ≤ ((40 * x3) + x5) ∧ ((40 * x3) + x5) < 480) ∧ (((zcmp (zL s9 272 ((40 * x2) + x5)) (zL s9 272 ((40 * x3) + x5))) ≠ 0 → wp S 264 63 [(0, rf 252), (1, iv x1), (2, iv x2), (3, iv x3), (4, iv (x4 + 1)), (5, iv (x5 + 1))] [] s9 Q) ∧ ((zcmp (zL s9 272 ((40 * x2) + x5)) (zL s9 272 ((40 * x3) + x5))) = 0 → wp S 264 63 [(0, rf 252), (1, iv x1), (2, iv x2), (3, iv x3), (4, iv (x4 + 0)), (5, iv (x5 + 1))] [] s9 Q))) (fun e9 => False) o9))))))) :
    wp S 264 63 [(0, rf 252), (1, iv x1), (2, iv x2), (3, iv x3), (4, iv x4), (5, iv x5)] [] s Q := by
  refine i_iload (x := x5) r_264_63 rfl rfl ?_
  refine i_aload_n (a := 252) r_264_65 (n_264_65 _) rfl ?_
  refine i_getR (a := 252) (b := 256) r_264_66 (n_264_66 _) rfl rfl rfl (by omega) lf_252 (by omega) ?_
  refine i_aload_n (a := 252) r_264_69 (n_264_69 _) rfl ?_
  refine i_iload_n (x := x1) r_264_70 (n_264_70 _) rfl ?_
  refine i_iconst r_264_71 (n_264_71 _) ?_
  obtain ⟨g1, h⟩ := h
  refine wp_virt (b := 252) (rest := [rf 256, iv x5]) (Ls := [(0, rf 252), (1, iv x1), (2, iv 0)]) r_264_72 (n_264_72 _) rfl ⟨rfl, rfl, by decide, by decide⟩ rfl rfl lf_252 ⟨rfl, Nat.le_of_ble_eq_true rfl, Nat.le_of_ble_eq_true rfl⟩ rfl (K_Model_of g1) ?_
  rintro _ _ ⟨rfl, rfl⟩
  refine .inl ⟨some (iv (zI s 253 ((157 + (6 * x1)) + 0))), rfl, ?_⟩
  show wp S 264 75 [(0, rf 252), (1, iv x1), (2, iv x2), (3, iv x3), (4, iv x4), (5, iv x5)] [iv (zI s 253 ((157 + (6 * x1)) + 0)), rf 256, iv x5] s Q
  refine wp_rd (a := 253) (j := ((157 + (6 * x1)) + 0)) (fun q3 => ?_)
  obtain ⟨g4, h⟩ := h
  refine i_iaload (a := 256) (j := zI s 253 ((157 + (6 * x1)) + 0)) r_264_75 (n_264_75 _) lf_256 ⟨by omega, by omega⟩ (by omega) (by omega) (fun q5 => ?_)
  obtain ⟨g6, h⟩ := h
  refine i_icmp (t := 143) r_264_76 (n_264_76 _) rfl (T_ge g6 q5) (fun c7 => ?_) (fun c7 => ?_)
  · replace h := h.1 c7
    refine i_iload (x := x4) r_264_143 (n_264_143 _) rfl ?_
    exact i_ireturn r_264_145 (n_264_145 _) rfl h
  · replace h := h.2 c7
    refine i_aload_n (a := 252) r_264_79 (n_264_79 _) rfl ?_
    refine i_iload_n (x := x1) r_264_80 (n_264_80 _) rfl ?_
    refine i_iload_n (x := x3) r_264_81 (n_264_81 _) rfl ?_
    refine i_iload (x := x5) r_264_82 (n_264_82 _) rfl ?_
    refine i_aload_n (a := 252) r_264_84 (n_264_84 _) rfl ?_
    refine i_getR (a := 252) (b := 272) r_264_85 (n_264_85 _) rfl rfl rfl (by omega) lf_252 (by omega) ?_
    refine i_bipush r_264_88 (n_264_88 _) rfl ?_
    refine i_iload_n (x := x2) r_264_90 (n_264_90 _) rfl ?_
    refine i_imul r_264_91 (n_264_91 _) ?_
    refine i_iload (x := x5) r_264_92 (n_264_92 _) rfl ?_
    refine i_iadd r_264_94 (n_264_94 _) ?_
    obtain ⟨g8, h⟩ := h
    refine i_laload (a := 272) (j := (40 * x2) + x5) r_264_95 (n_264_95 _) lf_272 ⟨by omega, by omega⟩ (by omega) (by omega) ?_
    refine wp_virt (b := 252) (rest := []) (Ls := [(0, rf 252), (1, iv x1), (2, iv x3), (3, iv x5), (4, .long (zL s 272 ((40 * x2) + x5)))]) r_264_96 (n_264_96 _) rfl ⟨rfl, rfl, by decide, by decide⟩ rfl rfl lf_252 ⟨rfl, Nat.le_of_ble_eq_true rfl, Nat.le_of_ble_eq_true rfl⟩ rfl h ?_
    intro o9 s9 h
    rcases h with ⟨rfl, h⟩ | ⟨e9, rfl, h⟩
    · refine .inl ⟨none, rfl, ?_⟩
      refine i_iload (x := x4) r_264_99 (n_264_99 _) rfl ?_
      refine i_aload_n (a := 252) r_264_101 (n_264_101 _) rfl ?_
      refine i_getR (a := 252) (b := 272) r_264_102 (n_264_102 _) rfl rfl rfl (by omega) lf_252 (by omega) ?_
      refine i_bipush r_264_105 (n_264_105 _) rfl ?_
      refine i_iload_n (x := x2) r_264_107 (n_264_107 _) rfl ?_
      refine i_imul r_264_108 (n_264_108 _) ?_
      refine i_iload (x := x5) r_264_109 (n_264_109 _) rfl ?_
      refine i_iadd r_264_111 (n_264_111 _) ?_
      refine i_laload (a := 272) (j := (40 * x2) + x5) r_264_112 (n_264_112 _) lf_272 ⟨by omega, by omega⟩ (by omega) (by omega) ?_
      refine i_aload_n (a := 252) r_264_113 (n_264_113 _) rfl ?_
      refine i_getR (a := 252) (b := 272) r_264_114 (n_264_114 _) rfl rfl rfl (by omega) lf_252 (by omega) ?_
      refine i_bipush r_264_117 (n_264_117 _) rfl ?_
      refine i_iload_n (x := x3) r_264_119 (n_264_119 _) rfl ?_
      refine i_imul r_264_120 (n_264_120 _) ?_
      refine i_iload (x := x5) r_264_121 (n_264_121 _) rfl ?_
      refine i_iadd r_264_123 (n_264_123 _) ?_
      obtain ⟨g11, h⟩ := h
      refine i_laload (a := 272) (j := (40 * x3) + x5) r_264_124 (n_264_124 _) lf_272 ⟨by omega, by omega⟩ (by omega) (by omega) ?_
      refine i_lcmp r_264_125 (n_264_125 _) ?_
      refine i_if (t := 133) r_264_126 (n_264_126 _) rfl (T_ne (zcmp_rng _ _) ⟨by omega, by omega⟩) (fun c12 => ?_) (fun c12 => ?_)
      · replace h := h.1 c12
        refine i_iconst r_264_133 (n_264_133 _) ?_
        refine i_iadd r_264_134 (n_264_134 _) ?_
        refine i_istore (l' := [(0, rf 252), (1, iv x1), (2, iv x2), (3, iv x3), (4, iv (x4 + 1)), (5, iv x5)]) r_264_135 (n_264_135 _) (by decide) rfl ?_
        refine i_iinc (x := x5) (l' := [(0, rf 252), (1, iv x1), (2, iv x2), (3, iv x3), (4, iv (x4 + 1)), (5, iv (x5 + 1))]) r_264_137 (n_264_137 _) (by decide) rfl rfl ?_
        refine i_goto (t := 63) r_264_140 (n_264_140 _) rfl ?_
        exact wp_pr (l' := [(0, rf 252), (1, iv x1), (2, iv x2), (3, iv x3), (4, iv (x4 + 1)), (5, iv (x5 + 1))]) rfl h
      · replace h := h.2 c12
        refine i_iconst r_264_129 (n_264_129 _) ?_
        refine i_goto (t := 134) r_264_130 (n_264_130 _) rfl ?_
        refine i_iadd r_264_134 (n_264_134 _) ?_
        refine i_istore (l' := [(0, rf 252), (1, iv x1), (2, iv x2), (3, iv x3), (4, iv (x4 + 0)), (5, iv x5)]) r_264_135 (n_264_135 _) (by decide) rfl ?_
        refine i_iinc (x := x5) (l' := [(0, rf 252), (1, iv x1), (2, iv x2), (3, iv x3), (4, iv (x4 + 0)), (5, iv (x5 + 1))]) r_264_137 (n_264_137 _) (by decide) rfl rfl ?_
        refine i_goto (t := 63) r_264_140 (n_264_140 _) rfl ?_
        exact wp_pr (l' := [(0, rf 252), (1, iv x1), (2, iv x2), (3, iv x3), (4, iv (x4 + 0)), (5, iv (x5 + 1))]) rfl h
    · skip
      exact h.elim
theorem r_265_0 : xfetch 265 0 = some (.aload_n 0, 1) := by decide +kernel
theorem n_265_0 : ∀ l, xpr 265 0 l = l := xpr_no (by decide +kernel)
theorem r_265_1 : xfetch 265 1 = some (.aload_n 0, 1) := by decide +kernel
theorem n_265_1 : ∀ l, xpr 265 1 l = l := xpr_no (by decide +kernel)
theorem r_265_2 : xfetch 265 2 = some (.iload_n 1, 1) := by decide +kernel
theorem n_265_2 : ∀ l, xpr 265 2 l = l := xpr_no (by decide +kernel)
theorem r_265_3 : xfetch 265 3 = some (.iload_n 2, 1) := by decide +kernel
theorem n_265_3 : ∀ l, xpr 265 3 l = l := xpr_no (by decide +kernel)
theorem r_265_4 : xfetch 265 4 = some (.invokevirtual 254, 3) := by decide +kernel
theorem n_265_4 : ∀ l, xpr 265 4 l = l := xpr_no (by decide +kernel)
theorem r_265_7 : xfetch 265 7 = some (.ifCond .ne 7, 3) := by decide +kernel
theorem n_265_7 : ∀ l, xpr 265 7 l = l := xpr_no (by decide +kernel)
theorem r_265_10 : xfetch 265 10 = some (.iconst 1, 1) := by decide +kernel
theorem n_265_10 : ∀ l, xpr 265 10 l = l := xpr_no (by decide +kernel)
theorem r_265_11 : xfetch 265 11 = some (.goto 17, 3) := by decide +kernel
theorem n_265_11 : ∀ l, xpr 265 11 l = l := xpr_no (by decide +kernel)
theorem r_265_14 : xfetch 265 14 = some (.iload_n 3, 1) := by decide +kernel
theorem n_265_14 : ∀ l, xpr 265 14 l = l := xpr_no (by decide +kernel)
theorem r_265_15 : xfetch 265 15 = some (.iconst 0, 1) := by decide +kernel
theorem n_265_15 : ∀ l, xpr 265 15 l = l := xpr_no (by decide +kernel)
theorem r_265_16 : xfetch 265 16 = some (.iconst 2, 1) := by decide +kernel
theorem n_265_16 : ∀ l, xpr 265 16 l = l := xpr_no (by decide +kernel)
theorem r_265_17 : xfetch 265 17 = some (.invokestatic 88, 3) := by decide +kernel
theorem n_265_17 : ∀ l, xpr 265 17 l = l := xpr_no (by decide +kernel)
theorem r_265_20 : xfetch 265 20 = some (.ifCond .ne 7, 3) := by decide +kernel
theorem n_265_20 : ∀ l, xpr 265 20 l = l := xpr_no (by decide +kernel)
theorem r_265_23 : xfetch 265 23 = some (.iconst 2, 1) := by decide +kernel
theorem n_265_23 : ∀ l, xpr 265 23 l = l := xpr_no (by decide +kernel)
theorem r_265_24 : xfetch 265 24 = some (.goto 4, 3) := by decide +kernel
theorem n_265_24 : ∀ l, xpr 265 24 l = l := xpr_no (by decide +kernel)
theorem r_265_27 : xfetch 265 27 = some (.iconst 0, 1) := by decide +kernel
theorem n_265_27 : ∀ l, xpr 265 27 l = l := xpr_no (by decide +kernel)
theorem r_265_28 : xfetch 265 28 = some (.invokevirtual 84, 3) := by decide +kernel
theorem n_265_28 : ∀ l, xpr 265 28 l = l := xpr_no (by decide +kernel)
theorem r_265_31 : xfetch 265 31 = some (.ifCond .eq 5, 3) := by decide +kernel
theorem n_265_31 : ∀ l, xpr 265 31 l = l := xpr_no (by decide +kernel)
theorem r_265_34 : xfetch 265 34 = some (.iconst 0, 1) := by decide +kernel
theorem n_265_34 : ∀ l, xpr 265 34 l = l := xpr_no (by decide +kernel)
theorem r_265_35 : xfetch 265 35 = some (.ireturn, 1) := by decide +kernel
theorem n_265_35 : ∀ l, xpr 265 35 l = l := xpr_no (by decide +kernel)
theorem r_265_36 : xfetch 265 36 = some (.iconst 0, 1) := by decide +kernel
theorem n_265_36 : ∀ l, xpr 265 36 l = l := xpr_no (by decide +kernel)
theorem r_265_37 : xfetch 265 37 = some (.istore 6, 2) := by decide +kernel
theorem n_265_37 : ∀ l, xpr 265 37 l = l := xpr_no (by decide +kernel)
theorem r_265_39 : xfetch 265 39 = some (.iconst 0, 1) := by decide +kernel
theorem n_265_39 : ∀ l, xpr 265 39 l = l := xpr_no (by decide +kernel)
theorem r_265_40 : xfetch 265 40 = some (.istore 7, 2) := by decide +kernel
theorem n_265_40 : ∀ l, xpr 265 40 l = l := xpr_no (by decide +kernel)
theorem r_265_42 : xfetch 265 42 = some (.iload 7, 2) := by decide +kernel
theorem r_265_44 : xfetch 265 44 = some (.aload_n 0, 1) := by decide +kernel
theorem n_265_44 : ∀ l, xpr 265 44 l = l := xpr_no (by decide +kernel)
theorem r_265_45 : xfetch 265 45 = some (.iload_n 1, 1) := by decide +kernel
theorem n_265_45 : ∀ l, xpr 265 45 l = l := xpr_no (by decide +kernel)
theorem r_265_46 : xfetch 265 46 = some (.iconst 1, 1) := by decide +kernel
theorem n_265_46 : ∀ l, xpr 265 46 l = l := xpr_no (by decide +kernel)
theorem r_265_47 : xfetch 265 47 = some (.invokevirtual 228, 3) := by decide +kernel
theorem n_265_47 : ∀ l, xpr 265 47 l = l := xpr_no (by decide +kernel)
theorem r_265_50 : xfetch 265 50 = some (.if_icmp .ge 68, 3) := by decide +kernel
theorem n_265_50 : ∀ l, xpr 265 50 l = l := xpr_no (by decide +kernel)
theorem r_265_53 : xfetch 265 53 = some (.aload_n 0, 1) := by decide +kernel
theorem n_265_53 : ∀ l, xpr 265 53 l = l := xpr_no (by decide +kernel)
theorem r_265_54 : xfetch 265 54 = some (.iload_n 1, 1) := by decide +kernel
theorem n_265_54 : ∀ l, xpr 265 54 l = l := xpr_no (by decide +kernel)
theorem r_265_55 : xfetch 265 55 = some (.iload 7, 2) := by decide +kernel
theorem n_265_55 : ∀ l, xpr 265 55 l = l := xpr_no (by decide +kernel)
theorem r_265_57 : xfetch 265 57 = some (.iload_n 2, 1) := by decide +kernel
theorem n_265_57 : ∀ l, xpr 265 57 l = l := xpr_no (by decide +kernel)
theorem r_265_58 : xfetch 265 58 = some (.invokevirtual 278, 3) := by decide +kernel
theorem n_265_58 : ∀ l, xpr 265 58 l = l := xpr_no (by decide +kernel)
theorem r_265_61 : xfetch 265 61 = some (.lstore 8, 2) := by decide +kernel
theorem n_265_61 : ∀ l, xpr 265 61 l = l := xpr_no (by decide +kernel)
theorem r_265_63 : xfetch 265 63 = some (.iload 6, 2) := by decide +kernel
theorem n_265_63 : ∀ l, xpr 265 63 l = l := xpr_no (by decide +kernel)
theorem r_265_65 : xfetch 265 65 = some (.iload_n 3, 1) := by decide +kernel
theorem n_265_65 : ∀ l, xpr 265 65 l = l := xpr_no (by decide +kernel)
theorem r_265_66 : xfetch 265 66 = some (.ifCond .ne 14, 3) := by decide +kernel
theorem n_265_66 : ∀ l, xpr 265 66 l = l := xpr_no (by decide +kernel)
theorem r_265_69 : xfetch 265 69 = some (.lload 8, 2) := by decide +kernel
theorem n_265_69 : ∀ l, xpr 265 69 l = l := xpr_no (by decide +kernel)
theorem r_265_71 : xfetch 265 71 = some (.lload 4, 2) := by decide +kernel
theorem n_265_71 : ∀ l, xpr 265 71 l = l := xpr_no (by decide +kernel)
theorem r_265_73 : xfetch 265 73 = some (.lcmp, 1) := by decide +kernel
theorem n_265_73 : ∀ l, xpr 265 73 l = l := xpr_no (by decide +kernel)
theorem r_265_74 : xfetch 265 74 = some (.ifCond .ge 34, 3) := by decide +kernel
theorem n_265_74 : ∀ l, xpr 265 74 l = l := xpr_no (by decide +kernel)
theorem r_265_77 : xfetch 265 77 = some (.goto 27, 3) := by decide +kernel
theorem n_265_77 : ∀ l, xpr 265 77 l = l := xpr_no (by decide +kernel)
theorem r_265_80 : xfetch 265 80 = some (.iload_n 3, 1) := by decide +kernel
theorem n_265_80 : ∀ l, xpr 265 80 l = l := xpr_no (by decide +kernel)
theorem r_265_81 : xfetch 265 81 = some (.iconst 1, 1) := by decide +kernel
theorem n_265_81 : ∀ l, xpr 265 81 l = l := xpr_no (by decide +kernel)
theorem r_265_82 : xfetch 265 82 = some (.if_icmp .ne 14, 3) := by decide +kernel
theorem n_265_82 : ∀ l, xpr 265 82 l = l := xpr_no (by decide +kernel)
theorem r_265_85 : xfetch 265 85 = some (.lload 8, 2) := by decide +kernel
theorem n_265_85 : ∀ l, xpr 265 85 l = l := xpr_no (by decide +kernel)
theorem r_265_87 : xfetch 265 87 = some (.lload 4, 2) := by decide +kernel
theorem n_265_87 : ∀ l, xpr 265 87 l = l := xpr_no (by decide +kernel)
theorem r_265_89 : xfetch 265 89 = some (.lcmp, 1) := by decide +kernel
theorem n_265_89 : ∀ l, xpr 265 89 l = l := xpr_no (by decide +kernel)
theorem r_265_90 : xfetch 265 90 = some (.ifCond .ne 18, 3) := by decide +kernel
theorem n_265_90 : ∀ l, xpr 265 90 l = l := xpr_no (by decide +kernel)
theorem r_265_93 : xfetch 265 93 = some (.goto 11, 3) := by decide +kernel
theorem n_265_93 : ∀ l, xpr 265 93 l = l := xpr_no (by decide +kernel)
theorem r_265_96 : xfetch 265 96 = some (.lload 8, 2) := by decide +kernel
theorem n_265_96 : ∀ l, xpr 265 96 l = l := xpr_no (by decide +kernel)
theorem r_265_98 : xfetch 265 98 = some (.lload 4, 2) := by decide +kernel
theorem n_265_98 : ∀ l, xpr 265 98 l = l := xpr_no (by decide +kernel)
theorem r_265_100 : xfetch 265 100 = some (.lcmp, 1) := by decide +kernel
theorem n_265_100 : ∀ l, xpr 265 100 l = l := xpr_no (by decide +kernel)
theorem r_265_101 : xfetch 265 101 = some (.ifCond .le 7, 3) := by decide +kernel
theorem n_265_101 : ∀ l, xpr 265 101 l = l := xpr_no (by decide +kernel)
theorem r_265_104 : xfetch 265 104 = some (.iconst 1, 1) := by decide +kernel
theorem n_265_104 : ∀ l, xpr 265 104 l = l := xpr_no (by decide +kernel)
theorem r_265_105 : xfetch 265 105 = some (.goto 4, 3) := by decide +kernel
theorem n_265_105 : ∀ l, xpr 265 105 l = l := xpr_no (by decide +kernel)
theorem r_265_108 : xfetch 265 108 = some (.iconst 0, 1) := by decide +kernel
theorem n_265_108 : ∀ l, xpr 265 108 l = l := xpr_no (by decide +kernel)
theorem r_265_109 : xfetch 265 109 = some (.iadd, 1) := by decide +kernel
theorem n_265_109 : ∀ l, xpr 265 109 l = l := xpr_no (by decide +kernel)
theorem r_265_110 : xfetch 265 110 = some (.istore 6, 2) := by decide +kernel
theorem n_265_110 : ∀ l, xpr 265 110 l = l := xpr_no (by decide +kernel)
theorem r_265_112 : xfetch 265 112 = some (.iinc 7 1, 3) := by decide +kernel
theorem n_265_112 : ∀ l, xpr 265 112 l = l := xpr_no (by decide +kernel)
theorem r_265_115 : xfetch 265 115 = some (.goto (-73), 3) := by decide +kernel
theorem n_265_115 : ∀ l, xpr 265 115 l = l := xpr_no (by decide +kernel)
theorem r_265_118 : xfetch 265 118 = some (.iload 6, 2) := by decide +kernel
theorem n_265_118 : ∀ l, xpr 265 118 l = l := xpr_no (by decide +kernel)
theorem r_265_120 : xfetch 265 120 = some (.ireturn, 1) := by decide +kernel
theorem n_265_120 : ∀ l, xpr 265 120 l = l := xpr_no (by decide +kernel)
theorem v_Model_count_0 {S : Option (Nat × (Nat → Int32))} {s : zSt} {Q : Option Value ⊕ Nat → zSt → Prop} {x1 : Int} {x2 : Int} {x3 : Int} {u4 : Int64} 
    (h : wp S 243 0 [(0, rf 252), (1, iv x1), (2, iv x2)] [] s (fun o1 s1 => zkI (fun y1 => (y1 ≠ 0 → rng x3 ∧ ((0 ≤ x3 ∧ x3 ≤ 2 → wp S 265 42 [(0, rf 252), (1, iv x1), (2, iv x2), (3, iv x3), (4, .long u4), (6, iv 0), (7, iv 0)] [] (zwI s1 252 3 0) Q) ∧ (¬ (0 ≤ x3 ∧ x3 ≤ 2) → Q (rI 0) (zwI s1 252 3 2)))) ∧ (y1 = 0 → Q (rI 0) (zwI s1 252 3 1))) (fun e1 => False) o1)) :
    wp S 265 0 [(0, rf 252), (1, iv x1), (2, iv x2), (3, iv x3), (4, .long u4)] [] s Q := by
  refine i_aload_n (a := 252) r_265_0 (n_265_0 _) rfl ?_
  refine i_aload_n (a := 252) r_265_1 (n_265_1 _) rfl ?_
  refine i_iload_n (x := x1) r_265_2 (n_265_2 _) rfl ?_
  refine i_iload_n (x := x2) r_265_3 (n_265_3 _) rfl ?_
  refine wp_virt (b := 252) (rest := [rf 252]) (Ls := [(0, rf 252), (1, iv x1), (2, iv x2)]) r_265_4 (n_265_4 _) rfl ⟨rfl, rfl, by decide, by decide⟩ rfl rfl lf_252 ⟨rfl, Nat.le_of_ble_eq_true rfl, Nat.le_of_ble_eq_true rfl⟩ rfl h ?_
  intro o1 s1 h
  rcases h with ⟨y1, q2, rfl, h⟩ | ⟨e1, rfl, h⟩
  · refine .inl ⟨some (iv y1), rfl, ?_⟩
    show wp S 265 7 [(0, rf 252), (1, iv x1), (2, iv x2), (3, iv x3), (4, .long u4)] [iv y1, rf 252] s1 Q
    refine i_if (t := 14) r_265_7 (n_265_7 _) rfl (T_ne q2 ⟨by omega, by omega⟩) (fun c3 => ?_) (fun c3 => ?_)
    · replace h := h.1 c3
      refine i_iload_n (x := x3) r_265_14 (n_265_14 _) rfl ?_
      refine i_iconst r_265_15 (n_265_15 _) ?_
      refine i_iconst r_265_16 (n_265_16 _) ?_
      obtain ⟨g4, h⟩ := h
      refine wp_stat (rest := [rf 252]) (Ls := [(0, iv x3), (1, iv 0), (2, iv 2)]) r_265_17 (n_265_17 _) rfl ⟨rfl, by decide, by decide, by decide⟩ rfl rfl ⟨rfl, Nat.le_of_ble_eq_true rfl, Nat.le_of_ble_eq_true rfl⟩ rfl (K_Model_within g4 ⟨by omega, by omega⟩ ⟨by omega, by omega⟩) ?_
      rintro _ _ ⟨rfl, rfl⟩
      refine .inl ⟨some (iv (bi (0 ≤ x3 ∧ x3 ≤ 2))), rfl, ?_⟩
      show wp S 265 20 [(0, rf 252), (1, iv x1), (2, iv x2), (3, iv x3), (4, .long u4)] [iv (bi (0 ≤ x3 ∧ x3 ≤ 2)), rf 252] s1 Q
      refine i_if (t := 27) r_265_20 (n_265_20 _) rfl (TB_ne) (fun c6 => ?_) (fun c6 => ?_)
      · replace h := h.1 c6
        refine i_iconst r_265_27 (n_265_27 _) ?_
        refine wp_virt (b := 252) (rest := []) (Ls := [(0, rf 252), (1, iv 0)]) r_265_28 (n_265_28 _) rfl ⟨rfl, rfl, by decide, by decide⟩ rfl rfl lf_252 ⟨rfl, Nat.le_of_ble_eq_true rfl, Nat.le_of_ble_eq_true rfl⟩ rfl K_Model_refused0 ?_
        rintro _ _ ⟨rfl, rfl⟩
        refine .inl ⟨some (iv 0), rfl, ?_⟩
        show wp S 265 31 [(0, rf 252), (1, iv x1), (2, iv x2), (3, iv x3), (4, .long u4)] [iv 0] (zwI s1 252 3 0) Q
        refine i_if (t := 36) r_265_31 (n_265_31 _) rfl (T_eq ⟨by omega, by omega⟩ ⟨by omega, by omega⟩) (fun _ => ?_) (fun z => absurd z (by omega))
        refine i_iconst r_265_36 (n_265_36 _) ?_
        refine i_istore (l' := [(0, rf 252), (1, iv x1), (2, iv x2), (3, iv x3), (4, .long u4), (6, iv 0)]) r_265_37 (n_265_37 _) (by decide) rfl ?_
        refine i_iconst r_265_39 (n_265_39 _) ?_
        refine i_istore (l' := [(0, rf 252), (1, iv x1), (2, iv x2), (3, iv x3), (4, .long u4), (6, iv 0), (7, iv 0)]) r_265_40 (n_265_40 _) (by decide) rfl ?_
        exact wp_pr (l' := [(0, rf 252), (1, iv x1), (2, iv x2), (3, iv x3), (4, .long u4), (6, iv 0), (7, iv 0)]) rfl h
      · replace h := h.2 c6
        refine i_iconst r_265_23 (n_265_23 _) ?_
        refine i_goto (t := 28) r_265_24 (n_265_24 _) rfl ?_
        refine wp_virt (b := 252) (rest := []) (Ls := [(0, rf 252), (1, iv 2)]) r_265_28 (n_265_28 _) rfl ⟨rfl, rfl, by decide, by decide⟩ rfl rfl lf_252 ⟨rfl, Nat.le_of_ble_eq_true rfl, Nat.le_of_ble_eq_true rfl⟩ rfl (K_Model_refused1 ⟨by omega, by omega⟩ (by omega)) ?_
        rintro _ _ ⟨rfl, rfl⟩
        refine .inl ⟨some (iv 1), rfl, ?_⟩
        show wp S 265 31 [(0, rf 252), (1, iv x1), (2, iv x2), (3, iv x3), (4, .long u4)] [iv 1] (zwI s1 252 3 2) Q
        refine i_if (t := 36) r_265_31 (n_265_31 _) rfl (T_eq ⟨by omega, by omega⟩ ⟨by omega, by omega⟩) (fun z => absurd z (by omega)) (fun _ => ?_)
        refine i_iconst r_265_34 (n_265_34 _) ?_
        exact i_ireturn r_265_35 (n_265_35 _) rfl h
    · replace h := h.2 c3
      refine i_iconst r_265_10 (n_265_10 _) ?_
      refine i_goto (t := 28) r_265_11 (n_265_11 _) rfl ?_
      refine wp_virt (b := 252) (rest := []) (Ls := [(0, rf 252), (1, iv 1)]) r_265_28 (n_265_28 _) rfl ⟨rfl, rfl, by decide, by decide⟩ rfl rfl lf_252 ⟨rfl, Nat.le_of_ble_eq_true rfl, Nat.le_of_ble_eq_true rfl⟩ rfl (K_Model_refused1 ⟨by omega, by omega⟩ (by omega)) ?_
      rintro _ _ ⟨rfl, rfl⟩
      refine .inl ⟨some (iv 1), rfl, ?_⟩
      show wp S 265 31 [(0, rf 252), (1, iv x1), (2, iv x2), (3, iv x3), (4, .long u4)] [iv 1] (zwI s1 252 3 1) Q
      refine i_if (t := 36) r_265_31 (n_265_31 _) rfl (T_eq ⟨by omega, by omega⟩ ⟨by omega, by omega⟩) (fun z => absurd z (by omega)) (fun _ => ?_)
      refine i_iconst r_265_34 (n_265_34 _) ?_
      exact i_ireturn r_265_35 (n_265_35 _) rfl h
  · skip
    exact h.elim
theorem v_Model_count_42 {S : Option (Nat × (Nat → Int32))} {s : zSt} {Q : Option Value ⊕ Nat → zSt → Prop} {x1 : Int} {x2 : Int} {x3 : Int} {u4 : Int64} {x6 : Int} {x7 : Int} 
    (h : (0 ≤ ((157 + (6 * x1)) + 1) ∧ ((157 + (6 * x1)) + 1) < 1199) ∧ (rng x7 ∧ (((zI s 253 ((157 + (6 * x1)) + 1)) ≤ x7 → Q (rI x6) s) ∧ (x7 < (zI s 253 ((157 + (6 * x1)) + 1)) → wp S 248 0 [(0, rf 252), (1, iv x1), (2, iv x7), (3, iv x2)] [] s (fun o6 s6 => zkL (fun y6 => rng x3 ∧ ((x3 ≠ 0 → (x3 ≠ 1 → ((zcmp y6 u4) ≤ 0 → wp S 265 42 [(0, rf 252), (1, iv x1), (2, iv x2), (3, iv x3), (4, .long u4), (6, iv (x6 + 0)), (7, iv (x7 + 1))] [] s6 Q) ∧ (0 < (zcmp y6 u4) → wp S 265 42 [(0, rf 252), (1, iv x1), (2, iv x2), (3, iv x3), (4, .long u4), (6, iv (x6 + 1)), (7, iv (x7 + 1))] [] s6 Q)) ∧ (x3 = 1 → ((zcmp y6 u4) ≠ 0 → wp S 265 42 [(0, rf 252), (1, iv x1), (2, iv x2), (3, iv x3), (4, .long u4), (6, iv (x6 + 0)), (7, iv (x7 + 1))] [] s6 Q) ∧ ((zcmp y6 u4) = 0 → wp S 265 42 [(0, rf 252), (1, iv x1), (2, iv x2), (3, iv x3), (4, .long u4), (6, iv (x6 + 1)), (7, iv (x7 + 1))] [] s6 Q))) ∧ (x3 = 0 → (0 ≤ (zcmp y6 u4) → wp S 265 42 [(0, rf 252), (1, iv x1), (2, iv x2), (3, iv x3), (4, .long u4), (6, iv (x6 + 0)), (7, iv (x7 + 1))] [] s6 Q) ∧ ((zcmp y6 u4) < 0 → wp S 265 42 [(0, rf 252), (1, iv x1), (2, iv x2), (3, iv x3), (4, .long u4), (6, iv (x6 + 1)), (7, iv (x7 + 1))] [] s6 Q)))) (fun e6 => False) o6))))) :
    wp S 265 42 [(0, rf 252), (1, iv x1), (2, iv x2), (3, iv x3), (4, .long u4), (6, iv x6), (7, iv x7)] [] s Q := by
  refine i_iload (x := x7) r_265_42 rfl rfl ?_
  refine i_aload_n (a := 252) r_265_44 (n_265_44 _) rfl ?_
  refine i_iload_n (x := x1) r_265_45 (n_265_45 _) rfl ?_
  refine i_iconst r_265_46 (n_265_46 _) ?_
  obtain ⟨g1, h⟩ := h
  refine wp_virt (b := 252) (rest := [iv x7]) (Ls := [(0, rf 252), (1, iv x1), (2, iv 1)]) r_265_47 (n_265_47 _) rfl ⟨rfl, rfl, by decide, by decide⟩ rfl rfl lf_252 ⟨rfl, Nat.le_of_ble_eq_true rfl, Nat.le_of_ble_eq_true rfl⟩ rfl (K_Model_of g1) ?_
  rintro _ _ ⟨rfl, rfl⟩
  refine .inl ⟨some (iv (zI s 253 ((157 + (6 * x1)) + 1))), rfl, ?_⟩
  show wp S 265 50 [(0, rf 252), (1, iv x1), (2, iv x2), (3, iv x3), (4, .long u4), (6, iv x6), (7, iv x7)] [iv (zI s 253 ((157 + (6 * x1)) + 1)), iv x7] s Q
  refine wp_rd (a := 253) (j := ((157 + (6 * x1)) + 1)) (fun q3 => ?_)
  obtain ⟨g4, h⟩ := h
  refine i_icmp (t := 118) r_265_50 (n_265_50 _) rfl (T_ge g4 q3) (fun c5 => ?_) (fun c5 => ?_)
  · replace h := h.1 c5
    refine i_iload (x := x6) r_265_118 (n_265_118 _) rfl ?_
    exact i_ireturn r_265_120 (n_265_120 _) rfl h
  · replace h := h.2 c5
    refine i_aload_n (a := 252) r_265_53 (n_265_53 _) rfl ?_
    refine i_iload_n (x := x1) r_265_54 (n_265_54 _) rfl ?_
    refine i_iload (x := x7) r_265_55 (n_265_55 _) rfl ?_
    refine i_iload_n (x := x2) r_265_57 (n_265_57 _) rfl ?_
    refine wp_virt (b := 252) (rest := []) (Ls := [(0, rf 252), (1, iv x1), (2, iv x7), (3, iv x2)]) r_265_58 (n_265_58 _) rfl ⟨rfl, rfl, by decide, by decide⟩ rfl rfl lf_252 ⟨rfl, Nat.le_of_ble_eq_true rfl, Nat.le_of_ble_eq_true rfl⟩ rfl h ?_
    intro o6 s6 h
    rcases h with ⟨y6, rfl, h⟩ | ⟨e6, rfl, h⟩
    · refine .inl ⟨some (.long y6), rfl, ?_⟩
      show wp S 265 61 [(0, rf 252), (1, iv x1), (2, iv x2), (3, iv x3), (4, .long u4), (6, iv x6), (7, iv x7)] [.long y6] s6 Q
      refine i_lstore (l' := [(0, rf 252), (1, iv x1), (2, iv x2), (3, iv x3), (4, .long u4), (6, iv x6), (7, iv x7), (8, .long y6)]) r_265_61 (n_265_61 _) (by decide) rfl ?_
      refine i_iload (x := x6) r_265_63 (n_265_63 _) rfl ?_
      refine i_iload_n (x := x3) r_265_65 (n_265_65 _) rfl ?_
      obtain ⟨g8, h⟩ := h
      refine i_if (t := 80) r_265_66 (n_265_66 _) rfl (T_ne g8 ⟨by omega, by omega⟩) (fun c9 => ?_) (fun c9 => ?_)
      · replace h := h.1 c9
        refine i_iload_n (x := x3) r_265_80 (n_265_80 _) rfl ?_
        refine i_iconst r_265_81 (n_265_81 _) ?_
        refine i_icmp (t := 96) r_265_82 (n_265_82 _) rfl (T_ne g8 ⟨by omega, by omega⟩) (fun c10 => ?_) (fun c10 => ?_)
        · replace h := h.1 c10
          refine i_lload (u := y6) r_265_96 (n_265_96 _) rfl ?_
          refine i_lload (u := u4) r_265_98 (n_265_98 _) rfl ?_
          refine i_lcmp r_265_100 (n_265_100 _) ?_
          refine i_if (t := 108) r_265_101 (n_265_101 _) rfl (T_le (zcmp_rng _ _) ⟨by omega, by omega⟩) (fun c11 => ?_) (fun c11 => ?_)
          · replace h := h.1 c11
            refine i_iconst r_265_108 (n_265_108 _) ?_
            refine i_iadd r_265_109 (n_265_109 _) ?_
            refine i_istore (l' := [(0, rf 252), (1, iv x1), (2, iv x2), (3, iv x3), (4, .long u4), (6, iv (x6 + 0)), (7, iv x7), (8, .long y6)]) r_265_110 (n_265_110 _) (by decide) rfl ?_
            refine i_iinc (x := x7) (l' := [(0, rf 252), (1, iv x1), (2, iv x2), (3, iv x3), (4, .long u4), (6, iv (x6 + 0)), (7, iv (x7 + 1)), (8, .long y6)]) r_265_112 (n_265_112 _) (by decide) rfl rfl ?_
            refine i_goto (t := 42) r_265_115 (n_265_115 _) rfl ?_
            exact wp_pr (l' := [(0, rf 252), (1, iv x1), (2, iv x2), (3, iv x3), (4, .long u4), (6, iv (x6 + 0)), (7, iv (x7 + 1))]) rfl h
          · replace h := h.2 c11
            refine i_iconst r_265_104 (n_265_104 _) ?_
            refine i_goto (t := 109) r_265_105 (n_265_105 _) rfl ?_
            refine i_iadd r_265_109 (n_265_109 _) ?_
            refine i_istore (l' := [(0, rf 252), (1, iv x1), (2, iv x2), (3, iv x3), (4, .long u4), (6, iv (x6 + 1)), (7, iv x7), (8, .long y6)]) r_265_110 (n_265_110 _) (by decide) rfl ?_
            refine i_iinc (x := x7) (l' := [(0, rf 252), (1, iv x1), (2, iv x2), (3, iv x3), (4, .long u4), (6, iv (x6 + 1)), (7, iv (x7 + 1)), (8, .long y6)]) r_265_112 (n_265_112 _) (by decide) rfl rfl ?_
            refine i_goto (t := 42) r_265_115 (n_265_115 _) rfl ?_
            exact wp_pr (l' := [(0, rf 252), (1, iv x1), (2, iv x2), (3, iv x3), (4, .long u4), (6, iv (x6 + 1)), (7, iv (x7 + 1))]) rfl h
        · replace h := h.2 c10
          refine i_lload (u := y6) r_265_85 (n_265_85 _) rfl ?_
          refine i_lload (u := u4) r_265_87 (n_265_87 _) rfl ?_
          refine i_lcmp r_265_89 (n_265_89 _) ?_
          refine i_if (t := 108) r_265_90 (n_265_90 _) rfl (T_ne (zcmp_rng _ _) ⟨by omega, by omega⟩) (fun c12 => ?_) (fun c12 => ?_)
          · replace h := h.1 c12
            refine i_iconst r_265_108 (n_265_108 _) ?_
            refine i_iadd r_265_109 (n_265_109 _) ?_
            refine i_istore (l' := [(0, rf 252), (1, iv x1), (2, iv x2), (3, iv x3), (4, .long u4), (6, iv (x6 + 0)), (7, iv x7), (8, .long y6)]) r_265_110 (n_265_110 _) (by decide) rfl ?_
            refine i_iinc (x := x7) (l' := [(0, rf 252), (1, iv x1), (2, iv x2), (3, iv x3), (4, .long u4), (6, iv (x6 + 0)), (7, iv (x7 + 1)), (8, .long y6)]) r_265_112 (n_265_112 _) (by decide) rfl rfl ?_
            refine i_goto (t := 42) r_265_115 (n_265_115 _) rfl ?_
            exact wp_pr (l' := [(0, rf 252), (1, iv x1), (2, iv x2), (3, iv x3), (4, .long u4), (6, iv (x6 + 0)), (7, iv (x7 + 1))]) rfl h
          · replace h := h.2 c12
            refine i_goto (t := 104) r_265_93 (n_265_93 _) rfl ?_
            refine i_iconst r_265_104 (n_265_104 _) ?_
            refine i_goto (t := 109) r_265_105 (n_265_105 _) rfl ?_
            refine i_iadd r_265_109 (n_265_109 _) ?_
            refine i_istore (l' := [(0, rf 252), (1, iv x1), (2, iv x2), (3, iv x3), (4, .long u4), (6, iv (x6 + 1)), (7, iv x7), (8, .long y6)]) r_265_110 (n_265_110 _) (by decide) rfl ?_
            refine i_iinc (x := x7) (l' := [(0, rf 252), (1, iv x1), (2, iv x2), (3, iv x3), (4, .long u4), (6, iv (x6 + 1)), (7, iv (x7 + 1)), (8, .long y6)]) r_265_112 (n_265_112 _) (by decide) rfl rfl ?_
            refine i_goto (t := 42) r_265_115 (n_265_115 _) rfl ?_
            exact wp_pr (l' := [(0, rf 252), (1, iv x1), (2, iv x2), (3, iv x3), (4, .long u4), (6, iv (x6 + 1)), (7, iv (x7 + 1))]) rfl h
      · replace h := h.2 c9
        refine i_lload (u := y6) r_265_69 (n_265_69 _) rfl ?_
        refine i_lload (u := u4) r_265_71 (n_265_71 _) rfl ?_
        refine i_lcmp r_265_73 (n_265_73 _) ?_
        refine i_if (t := 108) r_265_74 (n_265_74 _) rfl (T_ge (zcmp_rng _ _) ⟨by omega, by omega⟩) (fun c13 => ?_) (fun c13 => ?_)
        · replace h := h.1 c13
          refine i_iconst r_265_108 (n_265_108 _) ?_
          refine i_iadd r_265_109 (n_265_109 _) ?_
          refine i_istore (l' := [(0, rf 252), (1, iv x1), (2, iv x2), (3, iv x3), (4, .long u4), (6, iv (x6 + 0)), (7, iv x7), (8, .long y6)]) r_265_110 (n_265_110 _) (by decide) rfl ?_
          refine i_iinc (x := x7) (l' := [(0, rf 252), (1, iv x1), (2, iv x2), (3, iv x3), (4, .long u4), (6, iv (x6 + 0)), (7, iv (x7 + 1)), (8, .long y6)]) r_265_112 (n_265_112 _) (by decide) rfl rfl ?_
          refine i_goto (t := 42) r_265_115 (n_265_115 _) rfl ?_
          exact wp_pr (l' := [(0, rf 252), (1, iv x1), (2, iv x2), (3, iv x3), (4, .long u4), (6, iv (x6 + 0)), (7, iv (x7 + 1))]) rfl h
        · replace h := h.2 c13
          refine i_goto (t := 104) r_265_77 (n_265_77 _) rfl ?_
          refine i_iconst r_265_104 (n_265_104 _) ?_
          refine i_goto (t := 109) r_265_105 (n_265_105 _) rfl ?_
          refine i_iadd r_265_109 (n_265_109 _) ?_
          refine i_istore (l' := [(0, rf 252), (1, iv x1), (2, iv x2), (3, iv x3), (4, .long u4), (6, iv (x6 + 1)), (7, iv x7), (8, .long y6)]) r_265_110 (n_265_110 _) (by decide) rfl ?_
          refine i_iinc (x := x7) (l' := [(0, rf 252), (1, iv x1), (2, iv x2), (3, iv x3), (4, .long u4), (6, iv (x6 + 1)), (7, iv (x7 + 1)), (8, .long y6)]) r_265_112 (n_265_112 _) (by decide) rfl rfl ?_
          refine i_goto (t := 42) r_265_115 (n_265_115 _) rfl ?_
          exact wp_pr (l' := [(0, rf 252), (1, iv x1), (2, iv x2), (3, iv x3), (4, .long u4), (6, iv (x6 + 1)), (7, iv (x7 + 1))]) rfl h
    · skip
      exact h.elim
theorem r_266_0 : xfetch 266 0 = some (.aload_n 0, 1) := by decide +kernel
theorem n_266_0 : ∀ l, xpr 266 0 l = l := xpr_no (by decide +kernel)
theorem r_266_1 : xfetch 266 1 = some (.aload_n 0, 1) := by decide +kernel
theorem n_266_1 : ∀ l, xpr 266 1 l = l := xpr_no (by decide +kernel)
theorem r_266_2 : xfetch 266 2 = some (.aload_n 0, 1) := by decide +kernel
theorem n_266_2 : ∀ l, xpr 266 2 l = l := xpr_no (by decide +kernel)
theorem r_266_3 : xfetch 266 3 = some (.iload_n 1, 1) := by decide +kernel
theorem n_266_3 : ∀ l, xpr 266 3 l = l := xpr_no (by decide +kernel)
theorem r_266_4 : xfetch 266 4 = some (.iload_n 2, 1) := by decide +kernel
theorem n_266_4 : ∀ l, xpr 266 4 l = l := xpr_no (by decide +kernel)
theorem r_266_5 : xfetch 266 5 = some (.invokevirtual 254, 3) := by decide +kernel
theorem n_266_5 : ∀ l, xpr 266 5 l = l := xpr_no (by decide +kernel)
theorem r_266_8 : xfetch 266 8 = some (.ifCond .eq 17, 3) := by decide +kernel
theorem n_266_8 : ∀ l, xpr 266 8 l = l := xpr_no (by decide +kernel)
theorem r_266_11 : xfetch 266 11 = some (.aload_n 0, 1) := by decide +kernel
theorem n_266_11 : ∀ l, xpr 266 11 l = l := xpr_no (by decide +kernel)
theorem r_266_12 : xfetch 266 12 = some (.iload_n 1, 1) := by decide +kernel
theorem n_266_12 : ∀ l, xpr 266 12 l = l := xpr_no (by decide +kernel)
theorem r_266_13 : xfetch 266 13 = some (.iload 5, 2) := by decide +kernel
theorem n_266_13 : ∀ l, xpr 266 13 l = l := xpr_no (by decide +kernel)
theorem r_266_15 : xfetch 266 15 = some (.invokevirtual 257, 3) := by decide +kernel
theorem n_266_15 : ∀ l, xpr 266 15 l = l := xpr_no (by decide +kernel)
theorem r_266_18 : xfetch 266 18 = some (.ifCond .eq 7, 3) := by decide +kernel
theorem n_266_18 : ∀ l, xpr 266 18 l = l := xpr_no (by decide +kernel)
theorem r_266_21 : xfetch 266 21 = some (.iconst 1, 1) := by decide +kernel
theorem n_266_21 : ∀ l, xpr 266 21 l = l := xpr_no (by decide +kernel)
theorem r_266_22 : xfetch 266 22 = some (.goto 4, 3) := by decide +kernel
theorem n_266_22 : ∀ l, xpr 266 22 l = l := xpr_no (by decide +kernel)
theorem r_266_25 : xfetch 266 25 = some (.iconst 0, 1) := by decide +kernel
theorem n_266_25 : ∀ l, xpr 266 25 l = l := xpr_no (by decide +kernel)
theorem r_266_26 : xfetch 266 26 = some (.invokevirtual 175, 3) := by decide +kernel
theorem n_266_26 : ∀ l, xpr 266 26 l = l := xpr_no (by decide +kernel)
theorem r_266_29 : xfetch 266 29 = some (.invokevirtual 84, 3) := by decide +kernel
theorem n_266_29 : ∀ l, xpr 266 29 l = l := xpr_no (by decide +kernel)
theorem r_266_32 : xfetch 266 32 = some (.ifCond .eq 5, 3) := by decide +kernel
theorem n_266_32 : ∀ l, xpr 266 32 l = l := xpr_no (by decide +kernel)
theorem r_266_35 : xfetch 266 35 = some (.iconst 0, 1) := by decide +kernel
theorem n_266_35 : ∀ l, xpr 266 35 l = l := xpr_no (by decide +kernel)
theorem r_266_36 : xfetch 266 36 = some (.ireturn, 1) := by decide +kernel
theorem n_266_36 : ∀ l, xpr 266 36 l = l := xpr_no (by decide +kernel)
theorem r_266_37 : xfetch 266 37 = some (.iload 5, 2) := by decide +kernel
theorem n_266_37 : ∀ l, xpr 266 37 l = l := xpr_no (by decide +kernel)
theorem r_266_39 : xfetch 266 39 = some (.istore 6, 2) := by decide +kernel
theorem n_266_39 : ∀ l, xpr 266 39 l = l := xpr_no (by decide +kernel)
theorem r_266_41 : xfetch 266 41 = some (.iload 6, 2) := by decide +kernel
theorem r_266_43 : xfetch 266 43 = some (.aload_n 0, 1) := by decide +kernel
theorem n_266_43 : ∀ l, xpr 266 43 l = l := xpr_no (by decide +kernel)
theorem r_266_44 : xfetch 266 44 = some (.iload_n 1, 1) := by decide +kernel
theorem n_266_44 : ∀ l, xpr 266 44 l = l := xpr_no (by decide +kernel)
theorem r_266_45 : xfetch 266 45 = some (.iconst 1, 1) := by decide +kernel
theorem n_266_45 : ∀ l, xpr 266 45 l = l := xpr_no (by decide +kernel)
theorem r_266_46 : xfetch 266 46 = some (.invokevirtual 228, 3) := by decide +kernel
theorem n_266_46 : ∀ l, xpr 266 46 l = l := xpr_no (by decide +kernel)
theorem r_266_49 : xfetch 266 49 = some (.if_icmp .ge 25, 3) := by decide +kernel
theorem n_266_49 : ∀ l, xpr 266 49 l = l := xpr_no (by decide +kernel)
theorem r_266_52 : xfetch 266 52 = some (.aload_n 0, 1) := by decide +kernel
theorem n_266_52 : ∀ l, xpr 266 52 l = l := xpr_no (by decide +kernel)
theorem r_266_53 : xfetch 266 53 = some (.iload_n 1, 1) := by decide +kernel
theorem n_266_53 : ∀ l, xpr 266 53 l = l := xpr_no (by decide +kernel)
theorem r_266_54 : xfetch 266 54 = some (.iload 6, 2) := by decide +kernel
theorem n_266_54 : ∀ l, xpr 266 54 l = l := xpr_no (by decide +kernel)
theorem r_266_56 : xfetch 266 56 = some (.iload_n 2, 1) := by decide +kernel
theorem n_266_56 : ∀ l, xpr 266 56 l = l := xpr_no (by decide +kernel)
theorem r_266_57 : xfetch 266 57 = some (.invokevirtual 278, 3) := by decide +kernel
theorem n_266_57 : ∀ l, xpr 266 57 l = l := xpr_no (by decide +kernel)
theorem r_266_60 : xfetch 266 60 = some (.lload_n 3, 1) := by decide +kernel
theorem n_266_60 : ∀ l, xpr 266 60 l = l := xpr_no (by decide +kernel)
theorem r_266_61 : xfetch 266 61 = some (.lcmp, 1) := by decide +kernel
theorem n_266_61 : ∀ l, xpr 266 61 l = l := xpr_no (by decide +kernel)
theorem r_266_62 : xfetch 266 62 = some (.ifCond .ne 6, 3) := by decide +kernel
theorem n_266_62 : ∀ l, xpr 266 62 l = l := xpr_no (by decide +kernel)
theorem r_266_65 : xfetch 266 65 = some (.iload 6, 2) := by decide +kernel
theorem n_266_65 : ∀ l, xpr 266 65 l = l := xpr_no (by decide +kernel)
theorem r_266_67 : xfetch 266 67 = some (.ireturn, 1) := by decide +kernel
theorem n_266_67 : ∀ l, xpr 266 67 l = l := xpr_no (by decide +kernel)
theorem r_266_68 : xfetch 266 68 = some (.iinc 6 1, 3) := by decide +kernel
theorem n_266_68 : ∀ l, xpr 266 68 l = l := xpr_no (by decide +kernel)
theorem r_266_71 : xfetch 266 71 = some (.goto (-30), 3) := by decide +kernel
theorem n_266_71 : ∀ l, xpr 266 71 l = l := xpr_no (by decide +kernel)
theorem r_266_74 : xfetch 266 74 = some (.iconst (-1), 1) := by decide +kernel
theorem n_266_74 : ∀ l, xpr 266 74 l = l := xpr_no (by decide +kernel)
theorem r_266_75 : xfetch 266 75 = some (.ireturn, 1) := by decide +kernel
theorem n_266_75 : ∀ l, xpr 266 75 l = l := xpr_no (by decide +kernel)
theorem v_Model_findRow_0 {S : Option (Nat × (Nat → Int32))} {s : zSt} {Q : Option Value ⊕ Nat → zSt → Prop} {x1 : Int} {x2 : Int} {u3 : Int64} {x5 : Int} 
    (h : wp S 243 0 [(0, rf 252), (1, iv x1), (2, iv x2)] [] s (fun o1 s1 => zkI (fun y1 => (y1 = 0 → Q (rI 0) (zwI s1 252 3 1)) ∧ (y1 ≠ 0 → (0 ≤ ((157 + (6 * x1)) + 1) ∧ ((157 + (6 * x1)) + 1) < 1199) ∧ (rng x5 ∧ (rng ((zI s1 253 ((157 + (6 * x1)) + 1)) - 1) ∧ ((¬ (0 ≤ x5 ∧ x5 ≤ ((zI s1 253 ((157 + (6 * x1)) + 1)) - 1)) → Q (rI 0) (zwI s1 252 3 1)) ∧ (0 ≤ x5 ∧ x5 ≤ ((zI s1 253 ((157 + (6 * x1)) + 1)) - 1) → wp S 266 41 [(0, rf 252), (1, iv x1), (2, iv x2), (3, .long u3), (6, iv x5)] [] (zwI s1 252 3 0) Q)))))) (fun e1 => False) o1)) :
    wp S 266 0 [(0, rf 252), (1, iv x1), (2, iv x2), (3, .long u3), (5, iv x5)] [] s Q := by
  refine i_aload_n (a := 252) r_266_0 (n_266_0 _) rfl ?_
  refine i_aload_n (a := 252) r_266_1 (n_266_1 _) rfl ?_
  refine i_aload_n (a := 252) r_266_2 (n_266_2 _) rfl ?_
  refine i_iload_n (x := x1) r_266_3 (n_266_3 _) rfl ?_
  refine i_iload_n (x := x2) r_266_4 (n_266_4 _) rfl ?_
  refine wp_virt (b := 252) (rest := [rf 252, rf 252]) (Ls := [(0, rf 252), (1, iv x1), (2, iv x2)]) r_266_5 (n_266_5 _) rfl ⟨rfl, rfl, by decide, by decide⟩ rfl rfl lf_252 ⟨rfl, Nat.le_of_ble_eq_true rfl, Nat.le_of_ble_eq_true rfl⟩ rfl h ?_
  intro o1 s1 h
  rcases h with ⟨y1, q2, rfl, h⟩ | ⟨e1, rfl, h⟩
  · refine .inl ⟨some (iv y1), rfl, ?_⟩
    show wp S 266 8 [(0, rf 252), (1, iv x1), (2, iv x2), (3, .long u3), (5, iv x5)] [iv y1, rf 252, rf 252] s1 Q
    refine i_if (t := 25) r_266_8 (n_266_8 _) rfl (T_eq q2 ⟨by omega, by omega⟩) (fun c3 => ?_) (fun c3 => ?_)
    · replace h := h.1 c3
      refine i_iconst r_266_25 (n_266_25 _) ?_
      refine wp_virt (b := 252) (rest := [rf 252]) (Ls := [(0, rf 252), (1, iv 0)]) r_266_26 (n_266_26 _) rfl ⟨rfl, rfl, by decide, by decide⟩ rfl rfl lf_252 ⟨rfl, Nat.le_of_ble_eq_true rfl, Nat.le_of_ble_eq_true rfl⟩ rfl K_Model_need0 ?_
      rintro _ _ ⟨rfl, rfl⟩
      refine .inl ⟨some (iv 1), rfl, ?_⟩
      show wp S 266 29 [(0, rf 252), (1, iv x1), (2, iv x2), (3, .long u3), (5, iv x5)] [iv 1, rf 252] s1 Q
      refine wp_virt (b := 252) (rest := []) (Ls := [(0, rf 252), (1, iv 1)]) r_266_29 (n_266_29 _) rfl ⟨rfl, rfl, by decide, by decide⟩ rfl rfl lf_252 ⟨rfl, Nat.le_of_ble_eq_true rfl, Nat.le_of_ble_eq_true rfl⟩ rfl (K_Model_refused1 ⟨by omega, by omega⟩ (by omega)) ?_
      rintro _ _ ⟨rfl, rfl⟩
      refine .inl ⟨some (iv 1), rfl, ?_⟩
      show wp S 266 32 [(0, rf 252), (1, iv x1), (2, iv x2), (3, .long u3), (5, iv x5)] [iv 1] (zwI s1 252 3 1) Q
      refine i_if (t := 37) r_266_32 (n_266_32 _) rfl (T_eq ⟨by omega, by omega⟩ ⟨by omega, by omega⟩) (fun z => absurd z (by omega)) (fun _ => ?_)
      refine i_iconst r_266_35 (n_266_35 _) ?_
      exact i_ireturn r_266_36 (n_266_36 _) rfl h
    · replace h := h.2 c3
      refine i_aload_n (a := 252) r_266_11 (n_266_11 _) rfl ?_
      refine i_iload_n (x := x1) r_266_12 (n_266_12 _) rfl ?_
      refine i_iload (x := x5) r_266_13 (n_266_13 _) rfl ?_
      obtain ⟨g6, h⟩ := h
      obtain ⟨g7, h⟩ := h
      obtain ⟨g8, h⟩ := h
      refine wp_virt (b := 252) (rest := [rf 252, rf 252]) (Ls := [(0, rf 252), (1, iv x1), (2, iv x5)]) r_266_15 (n_266_15 _) rfl ⟨rfl, rfl, by decide, by decide⟩ rfl rfl lf_252 ⟨rfl, Nat.le_of_ble_eq_true rfl, Nat.le_of_ble_eq_true rfl⟩ rfl (K_Model_isRow g6 g7 g8) ?_
      rintro _ _ ⟨rfl, rfl⟩
      refine .inl ⟨some (iv (bi (0 ≤ x5 ∧ x5 ≤ ((zI s1 253 ((157 + (6 * x1)) + 1)) - 1)))), rfl, ?_⟩
      show wp S 266 18 [(0, rf 252), (1, iv x1), (2, iv x2), (3, .long u3), (5, iv x5)] [iv (bi (0 ≤ x5 ∧ x5 ≤ ((zI s1 253 ((157 + (6 * x1)) + 1)) - 1))), rf 252, rf 252] s1 Q
      refine i_if (t := 25) r_266_18 (n_266_18 _) rfl (TB_eq) (fun c10 => ?_) (fun c10 => ?_)
      · replace h := h.1 c10
        refine i_iconst r_266_25 (n_266_25 _) ?_
        refine wp_virt (b := 252) (rest := [rf 252]) (Ls := [(0, rf 252), (1, iv 0)]) r_266_26 (n_266_26 _) rfl ⟨rfl, rfl, by decide, by decide⟩ rfl rfl lf_252 ⟨rfl, Nat.le_of_ble_eq_true rfl, Nat.le_of_ble_eq_true rfl⟩ rfl K_Model_need0 ?_
        rintro _ _ ⟨rfl, rfl⟩
        refine .inl ⟨some (iv 1), rfl, ?_⟩
        show wp S 266 29 [(0, rf 252), (1, iv x1), (2, iv x2), (3, .long u3), (5, iv x5)] [iv 1, rf 252] s1 Q
        refine wp_virt (b := 252) (rest := []) (Ls := [(0, rf 252), (1, iv 1)]) r_266_29 (n_266_29 _) rfl ⟨rfl, rfl, by decide, by decide⟩ rfl rfl lf_252 ⟨rfl, Nat.le_of_ble_eq_true rfl, Nat.le_of_ble_eq_true rfl⟩ rfl (K_Model_refused1 ⟨by omega, by omega⟩ (by omega)) ?_
        rintro _ _ ⟨rfl, rfl⟩
        refine .inl ⟨some (iv 1), rfl, ?_⟩
        show wp S 266 32 [(0, rf 252), (1, iv x1), (2, iv x2), (3, .long u3), (5, iv x5)] [iv 1] (zwI s1 252 3 1) Q
        refine i_if (t := 37) r_266_32 (n_266_32 _) rfl (T_eq ⟨by omega, by omega⟩ ⟨by omega, by omega⟩) (fun z => absurd z (by omega)) (fun _ => ?_)
        refine i_iconst r_266_35 (n_266_35 _) ?_
        exact i_ireturn r_266_36 (n_266_36 _) rfl h
      · replace h := h.2 c10
        refine i_iconst r_266_21 (n_266_21 _) ?_
        refine i_goto (t := 26) r_266_22 (n_266_22 _) rfl ?_
        refine wp_virt (b := 252) (rest := [rf 252]) (Ls := [(0, rf 252), (1, iv 1)]) r_266_26 (n_266_26 _) rfl ⟨rfl, rfl, by decide, by decide⟩ rfl rfl lf_252 ⟨rfl, Nat.le_of_ble_eq_true rfl, Nat.le_of_ble_eq_true rfl⟩ rfl (K_Model_need1 ⟨by omega, by omega⟩ (by omega)) ?_
        rintro _ _ ⟨rfl, rfl⟩
        refine .inl ⟨some (iv 0), rfl, ?_⟩
        show wp S 266 29 [(0, rf 252), (1, iv x1), (2, iv x2), (3, .long u3), (5, iv x5)] [iv 0, rf 252] s1 Q
        refine wp_virt (b := 252) (rest := []) (Ls := [(0, rf 252), (1, iv 0)]) r_266_29 (n_266_29 _) rfl ⟨rfl, rfl, by decide, by decide⟩ rfl rfl lf_252 ⟨rfl, Nat.le_of_ble_eq_true rfl, Nat.le_of_ble_eq_true rfl⟩ rfl K_Model_refused0 ?_
        rintro _ _ ⟨rfl, rfl⟩
        refine .inl ⟨some (iv 0), rfl, ?_⟩
        show wp S 266 32 [(0, rf 252), (1, iv x1), (2, iv x2), (3, .long u3), (5, iv x5)] [iv 0] (zwI s1 252 3 0) Q
        refine i_if (t := 37) r_266_32 (n_266_32 _) rfl (T_eq ⟨by omega, by omega⟩ ⟨by omega, by omega⟩) (fun _ => ?_) (fun z => absurd z (by omega))
        refine i_iload (x := x5) r_266_37 (n_266_37 _) rfl ?_
        refine i_istore (l' := [(0, rf 252), (1, iv x1), (2, iv x2), (3, .long u3), (5, iv x5), (6, iv x5)]) r_266_39 (n_266_39 _) (by decide) rfl ?_
        exact wp_pr (l' := [(0, rf 252), (1, iv x1), (2, iv x2), (3, .long u3), (6, iv x5)]) rfl h
  · skip
    exact h.elim
theorem v_Model_findRow_41 {S : Option (Nat × (Nat → Int32))} {s : zSt} {Q : Option Value ⊕ Nat → zSt → Prop} {x1 : Int} {x2 : Int} {u3 : Int64} {x6 : Int} 
    (h : (0 ≤ ((157 + (6 * x1)) + 1) ∧ ((157 + (6 * x1)) + 1) < 1199) ∧ (rng x6 ∧ (((zI s 253 ((157 + (6 * x1)) + 1)) ≤ x6 → Q (rI (-1)) s) ∧ (x6 < (zI s 253 ((157 + (6 * x1)) + 1)) → wp S 248 0 [(0, rf 252), (1, iv x1), (2, iv x6), (3, iv x2)] [] s (fun o6 s6 => zkL (fun y6 => ((zcmp y6 u3) ≠ 0 → wp S 266 41 [(0, rf 252), (1, iv x1), (2, iv x2), (3, .long u3), (6, iv (x6 + 1))] [] s6 Q) ∧ ((zcmp y6 u3) = 0 → Q (rI x6) s6)) (fun e6 => False) o6))))) :
    wp S 266 41 [(0, rf 252), (1, iv x1), (2, iv x2), (3, .long u3), (6, iv x6)] [] s Q := by
  refine i_iload (x := x6) r_266_41 rfl rfl ?_
  refine i_aload_n (a := 252) r_266_43 (n_266_43 _) rfl ?_
  refine i_iload_n (x := x1) r_266_44 (n_266_44 _) rfl ?_
  refine i_iconst r_266_45 (n_266_45 _) ?_
  obtain ⟨g1, h⟩ := h
  refine wp_virt (b := 252) (rest := [iv x6]) (Ls := [(0, rf 252), (1, iv x1), (2, iv 1)]) r_266_46 (n_266_46 _) rfl ⟨rfl, rfl, by decide, by decide⟩ rfl rfl lf_252 ⟨rfl, Nat.le_of_ble_eq_true rfl, Nat.le_of_ble_eq_true rfl⟩ rfl (K_Model_of g1) ?_
  rintro _ _ ⟨rfl, rfl⟩
  refine .inl ⟨some (iv (zI s 253 ((157 + (6 * x1)) + 1))), rfl, ?_⟩
  show wp S 266 49 [(0, rf 252), (1, iv x1), (2, iv x2), (3, .long u3), (6, iv x6)] [iv (zI s 253 ((157 + (6 * x1)) + 1)), iv x6] s Q
  refine wp_rd (a := 253) (j := ((157 + (6 * x1)) + 1)) (fun q3 => ?_)
  obtain ⟨g4, h⟩ := h
  refine i_icmp (t := 74) r_266_49 (n_266_49 _) rfl (T_ge g4 q3) (fun c5 => ?_) (fun c5 => ?_)
  · replace h := h.1 c5
    refine i_iconst r_266_74 (n_266_74 _) ?_
    exact i_ireturn r_266_75 (n_266_75 _) rfl h
  · replace h := h.2 c5
    refine i_aload_n (a := 252) r_266_52 (n_266_52 _) rfl ?_
    refine i_iload_n (x := x1) r_266_53 (n_266_53 _) rfl ?_
    refine i_iload (x := x6) r_266_54 (n_266_54 _) rfl ?_
    refine i_iload_n (x := x2) r_266_56 (n_266_56 _) rfl ?_
    refine wp_virt (b := 252) (rest := []) (Ls := [(0, rf 252), (1, iv x1), (2, iv x6), (3, iv x2)]) r_266_57 (n_266_57 _) rfl ⟨rfl, rfl, by decide, by decide⟩ rfl rfl lf_252 ⟨rfl, Nat.le_of_ble_eq_true rfl, Nat.le_of_ble_eq_true rfl⟩ rfl h ?_
    intro o6 s6 h
    rcases h with ⟨y6, rfl, h⟩ | ⟨e6, rfl, h⟩
    · refine .inl ⟨some (.long y6), rfl, ?_⟩
      show wp S 266 60 [(0, rf 252), (1, iv x1), (2, iv x2), (3, .long u3), (6, iv x6)] [.long y6] s6 Q
      refine i_lload_n (u := u3) r_266_60 (n_266_60 _) rfl ?_
      refine i_lcmp r_266_61 (n_266_61 _) ?_
      refine i_if (t := 68) r_266_62 (n_266_62 _) rfl (T_ne (zcmp_rng _ _) ⟨by omega, by omega⟩) (fun c8 => ?_) (fun c8 => ?_)
      · replace h := h.1 c8
        refine i_iinc (x := x6) (l' := [(0, rf 252), (1, iv x1), (2, iv x2), (3, .long u3), (6, iv (x6 + 1))]) r_266_68 (n_266_68 _) (by decide) rfl rfl ?_
        refine i_goto (t := 41) r_266_71 (n_266_71 _) rfl ?_
        exact wp_pr (l' := [(0, rf 252), (1, iv x1), (2, iv x2), (3, .long u3), (6, iv (x6 + 1))]) rfl h
      · replace h := h.2 c8
        refine i_iload (x := x6) r_266_65 (n_266_65 _) rfl ?_
        exact i_ireturn r_266_67 (n_266_67 _) rfl h
    · skip
      exact h.elim
theorem r_267_0 : xfetch 267 0 = some (.aload_n 0, 1) := by decide +kernel
theorem n_267_0 : ∀ l, xpr 267 0 l = l := xpr_no (by decide +kernel)
theorem r_267_1 : xfetch 267 1 = some (.aload_n 0, 1) := by decide +kernel
theorem n_267_1 : ∀ l, xpr 267 1 l = l := xpr_no (by decide +kernel)
theorem r_267_2 : xfetch 267 2 = some (.aload_n 0, 1) := by decide +kernel
theorem n_267_2 : ∀ l, xpr 267 2 l = l := xpr_no (by decide +kernel)
theorem r_267_3 : xfetch 267 3 = some (.iload_n 1, 1) := by decide +kernel
theorem n_267_3 : ∀ l, xpr 267 3 l = l := xpr_no (by decide +kernel)
theorem r_267_4 : xfetch 267 4 = some (.iload_n 2, 1) := by decide +kernel
theorem n_267_4 : ∀ l, xpr 267 4 l = l := xpr_no (by decide +kernel)
theorem r_267_5 : xfetch 267 5 = some (.invokevirtual 254, 3) := by decide +kernel
theorem n_267_5 : ∀ l, xpr 267 5 l = l := xpr_no (by decide +kernel)
theorem r_267_8 : xfetch 267 8 = some (.invokevirtual 175, 3) := by decide +kernel
theorem n_267_8 : ∀ l, xpr 267 8 l = l := xpr_no (by decide +kernel)
theorem r_267_11 : xfetch 267 11 = some (.invokevirtual 84, 3) := by decide +kernel
theorem n_267_11 : ∀ l, xpr 267 11 l = l := xpr_no (by decide +kernel)
theorem r_267_14 : xfetch 267 14 = some (.ifCond .eq 5, 3) := by decide +kernel
theorem n_267_14 : ∀ l, xpr 267 14 l = l := xpr_no (by decide +kernel)
theorem r_267_17 : xfetch 267 17 = some (.lconst 0, 1) := by decide +kernel
theorem n_267_17 : ∀ l, xpr 267 17 l = l := xpr_no (by decide +kernel)
theorem r_267_18 : xfetch 267 18 = some (.lreturn, 1) := by decide +kernel
theorem n_267_18 : ∀ l, xpr 267 18 l = l := xpr_no (by decide +kernel)
theorem r_267_19 : xfetch 267 19 = some (.lconst 0, 1) := by decide +kernel
theorem n_267_19 : ∀ l, xpr 267 19 l = l := xpr_no (by decide +kernel)
theorem r_267_20 : xfetch 267 20 = some (.lstore_n 3, 1) := by decide +kernel
theorem n_267_20 : ∀ l, xpr 267 20 l = l := xpr_no (by decide +kernel)
theorem r_267_21 : xfetch 267 21 = some (.iconst 0, 1) := by decide +kernel
theorem n_267_21 : ∀ l, xpr 267 21 l = l := xpr_no (by decide +kernel)
theorem r_267_22 : xfetch 267 22 = some (.istore 5, 2) := by decide +kernel
theorem n_267_22 : ∀ l, xpr 267 22 l = l := xpr_no (by decide +kernel)
theorem r_267_24 : xfetch 267 24 = some (.iload 5, 2) := by decide +kernel
theorem r_267_26 : xfetch 267 26 = some (.aload_n 0, 1) := by decide +kernel
theorem n_267_26 : ∀ l, xpr 267 26 l = l := xpr_no (by decide +kernel)
theorem r_267_27 : xfetch 267 27 = some (.iload_n 1, 1) := by decide +kernel
theorem n_267_27 : ∀ l, xpr 267 27 l = l := xpr_no (by decide +kernel)
theorem r_267_28 : xfetch 267 28 = some (.iconst 1, 1) := by decide +kernel
theorem n_267_28 : ∀ l, xpr 267 28 l = l := xpr_no (by decide +kernel)
theorem r_267_29 : xfetch 267 29 = some (.invokevirtual 228, 3) := by decide +kernel
theorem n_267_29 : ∀ l, xpr 267 29 l = l := xpr_no (by decide +kernel)
theorem r_267_32 : xfetch 267 32 = some (.if_icmp .ge 20, 3) := by decide +kernel
theorem n_267_32 : ∀ l, xpr 267 32 l = l := xpr_no (by decide +kernel)
theorem r_267_35 : xfetch 267 35 = some (.lload_n 3, 1) := by decide +kernel
theorem n_267_35 : ∀ l, xpr 267 35 l = l := xpr_no (by decide +kernel)
theorem r_267_36 : xfetch 267 36 = some (.aload_n 0, 1) := by decide +kernel
theorem n_267_36 : ∀ l, xpr 267 36 l = l := xpr_no (by decide +kernel)
theorem r_267_37 : xfetch 267 37 = some (.iload_n 1, 1) := by decide +kernel
theorem n_267_37 : ∀ l, xpr 267 37 l = l := xpr_no (by decide +kernel)
theorem r_267_38 : xfetch 267 38 = some (.iload 5, 2) := by decide +kernel
theorem n_267_38 : ∀ l, xpr 267 38 l = l := xpr_no (by decide +kernel)
theorem r_267_40 : xfetch 267 40 = some (.iload_n 2, 1) := by decide +kernel
theorem n_267_40 : ∀ l, xpr 267 40 l = l := xpr_no (by decide +kernel)
theorem r_267_41 : xfetch 267 41 = some (.invokevirtual 278, 3) := by decide +kernel
theorem n_267_41 : ∀ l, xpr 267 41 l = l := xpr_no (by decide +kernel)
theorem r_267_44 : xfetch 267 44 = some (.ladd, 1) := by decide +kernel
theorem n_267_44 : ∀ l, xpr 267 44 l = l := xpr_no (by decide +kernel)
theorem r_267_45 : xfetch 267 45 = some (.lstore_n 3, 1) := by decide +kernel
theorem n_267_45 : ∀ l, xpr 267 45 l = l := xpr_no (by decide +kernel)
theorem r_267_46 : xfetch 267 46 = some (.iinc 5 1, 3) := by decide +kernel
theorem n_267_46 : ∀ l, xpr 267 46 l = l := xpr_no (by decide +kernel)
theorem r_267_49 : xfetch 267 49 = some (.goto (-25), 3) := by decide +kernel
theorem n_267_49 : ∀ l, xpr 267 49 l = l := xpr_no (by decide +kernel)
theorem r_267_52 : xfetch 267 52 = some (.lload_n 3, 1) := by decide +kernel
theorem n_267_52 : ∀ l, xpr 267 52 l = l := xpr_no (by decide +kernel)
theorem r_267_53 : xfetch 267 53 = some (.lreturn, 1) := by decide +kernel
theorem n_267_53 : ∀ l, xpr 267 53 l = l := xpr_no (by decide +kernel)
theorem v_Model_sum_0 {S : Option (Nat × (Nat → Int32))} {s : zSt} {Q : Option Value ⊕ Nat → zSt → Prop} {x1 : Int} {x2 : Int} 
    (h : wp S 243 0 [(0, rf 252), (1, iv x1), (2, iv x2)] [] s (fun o1 s1 => zkI (fun y1 => (¬ (y1 = 0) → wp S 267 24 [(0, rf 252), (1, iv x1), (2, iv x2), (3, .long 0), (5, iv 0)] [] (zwI s1 252 3 (bi (y1 = 0))) Q) ∧ (y1 = 0 → Q (rL 0) (zwI s1 252 3 (bi (y1 = 0))))) (fun e1 => False) o1)) :
    wp S 267 0 [(0, rf 252), (1, iv x1), (2, iv x2)] [] s Q := by
  refine i_aload_n (a := 252) r_267_0 (n_267_0 _) rfl ?_
  refine i_aload_n (a := 252) r_267_1 (n_267_1 _) rfl ?_
  refine i_aload_n (a := 252) r_267_2 (n_267_2 _) rfl ?_
  refine i_iload_n (x := x1) r_267_3 (n_267_3 _) rfl ?_
  refine i_iload_n (x := x2) r_267_4 (n_267_4 _) rfl ?_
  refine wp_virt (b := 252) (rest := [rf 252, rf 252]) (Ls := [(0, rf 252), (1, iv x1), (2, iv x2)]) r_267_5 (n_267_5 _) rfl ⟨rfl, rfl, by decide, by decide⟩ rfl rfl lf_252 ⟨rfl, Nat.le_of_ble_eq_true rfl, Nat.le_of_ble_eq_true rfl⟩ rfl h ?_
  intro o1 s1 h
  rcases h with ⟨y1, q2, rfl, h⟩ | ⟨e1, rfl, h⟩
  · refine .inl ⟨some (iv y1), rfl, ?_⟩
    show wp S 267 8 [(0, rf 252), (1, iv x1), (2, iv x2)] [iv y1, rf 252, rf 252] s1 Q
    refine wp_virt (b := 252) (rest := [rf 252]) (Ls := [(0, rf 252), (1, iv y1)]) r_267_8 (n_267_8 _) rfl ⟨rfl, rfl, by decide, by decide⟩ rfl rfl lf_252 ⟨rfl, Nat.le_of_ble_eq_true rfl, Nat.le_of_ble_eq_true rfl⟩ rfl (K_Model_need q2) ?_
    rintro _ _ ⟨rfl, rfl⟩
    refine .inl ⟨some (iv (bi (y1 = 0))), rfl, ?_⟩
    show wp S 267 11 [(0, rf 252), (1, iv x1), (2, iv x2)] [iv (bi (y1 = 0)), rf 252] s1 Q
    refine wp_virt (b := 252) (rest := []) (Ls := [(0, rf 252), (1, iv (bi (y1 = 0)))]) r_267_11 (n_267_11 _) rfl ⟨rfl, rfl, by decide, by decide⟩ rfl rfl lf_252 ⟨rfl, Nat.le_of_ble_eq_true rfl, Nat.le_of_ble_eq_true rfl⟩ rfl K_Model_refusedB ?_
    rintro _ _ ⟨rfl, rfl⟩
    refine .inl ⟨some (iv (bi (y1 = 0))), rfl, ?_⟩
    show wp S 267 14 [(0, rf 252), (1, iv x1), (2, iv x2)] [iv (bi (y1 = 0))] (zwI s1 252 3 (bi (y1 = 0))) Q
    refine i_if (t := 19) r_267_14 (n_267_14 _) rfl (TB_eq) (fun c5 => ?_) (fun c5 => ?_)
    · replace h := h.1 c5
      refine i_lconst r_267_19 (n_267_19 _) ?_
      refine i_lstore_n (l' := [(0, rf 252), (1, iv x1), (2, iv x2), (3, .long 0)]) r_267_20 (n_267_20 _) (by decide) rfl ?_
      refine i_iconst r_267_21 (n_267_21 _) ?_
      refine i_istore (l' := [(0, rf 252), (1, iv x1), (2, iv x2), (3, .long 0), (5, iv 0)]) r_267_22 (n_267_22 _) (by decide) rfl ?_
      exact wp_pr (l' := [(0, rf 252), (1, iv x1), (2, iv x2), (3, .long 0), (5, iv 0)]) rfl h
    · replace h := h.2 c5
      refine i_lconst r_267_17 (n_267_17 _) ?_
      exact i_lreturn r_267_18 (n_267_18 _) rfl h
  · skip
    exact h.elim
theorem v_Model_sum_24 {S : Option (Nat × (Nat → Int32))} {s : zSt} {Q : Option Value ⊕ Nat → zSt → Prop} {x1 : Int} {x2 : Int} {u3 : Int64} {x5 : Int} 
    (h : (0 ≤ ((157 + (6 * x1)) + 1) ∧ ((157 + (6 * x1)) + 1) < 1199) ∧ (rng x5 ∧ (((zI s 253 ((157 + (6 * x1)) + 1)) ≤ x5 → Q (rL u3) s) ∧ (x5 < (zI s 253 ((157 + (6 * x1)) + 1)) → wp S 248 0 [(0, rf 252), (1, iv x1), (2, iv x5), (3, iv x2)] [] s (fun o6 s6 => zkL (fun y6 => wp S 267 24 [(0, rf 252), (1, iv x1), (2, iv x2), (3, .long (u3 + y6)), (5, iv (x5 + 1))] [] s6 Q) (fun e6 => False) o6))))) :
    wp S 267 24 [(0, rf 252), (1, iv x1), (2, iv x2), (3, .long u3), (5, iv x5)] [] s Q := by
  refine i_iload (x := x5) r_267_24 rfl rfl ?_
  refine i_aload_n (a := 252) r_267_26 (n_267_26 _) rfl ?_
  refine i_iload_n (x := x1) r_267_27 (n_267_27 _) rfl ?_
  refine i_iconst r_267_28 (n_267_28 _) ?_
  obtain ⟨g1, h⟩ := h
  refine wp_virt (b := 252) (rest := [iv x5]) (Ls := [(0, rf 252), (1, iv x1), (2, iv 1)]) r_267_29 (n_267_29 _) rfl ⟨rfl, rfl, by decide, by decide⟩ rfl rfl lf_252 ⟨rfl, Nat.le_of_ble_eq_true rfl, Nat.le_of_ble_eq_true rfl⟩ rfl (K_Model_of g1) ?_
  rintro _ _ ⟨rfl, rfl⟩
  refine .inl ⟨some (iv (zI s 253 ((157 + (6 * x1)) + 1))), rfl, ?_⟩
  show wp S 267 32 [(0, rf 252), (1, iv x1), (2, iv x2), (3, .long u3), (5, iv x5)] [iv (zI s 253 ((157 + (6 * x1)) + 1)), iv x5] s Q
  refine wp_rd (a := 253) (j := ((157 + (6 * x1)) + 1)) (fun q3 => ?_)
  obtain ⟨g4, h⟩ := h
  refine i_icmp (t := 52) r_267_32 (n_267_32 _) rfl (T_ge g4 q3) (fun c5 => ?_) (fun c5 => ?_)
  · replace h := h.1 c5
    refine i_lload_n (u := u3) r_267_52 (n_267_52 _) rfl ?_
    exact i_lreturn r_267_53 (n_267_53 _) rfl h
  · replace h := h.2 c5
    refine i_lload_n (u := u3) r_267_35 (n_267_35 _) rfl ?_
    refine i_aload_n (a := 252) r_267_36 (n_267_36 _) rfl ?_
    refine i_iload_n (x := x1) r_267_37 (n_267_37 _) rfl ?_
    refine i_iload (x := x5) r_267_38 (n_267_38 _) rfl ?_
    refine i_iload_n (x := x2) r_267_40 (n_267_40 _) rfl ?_
    refine wp_virt (b := 252) (rest := [.long u3]) (Ls := [(0, rf 252), (1, iv x1), (2, iv x5), (3, iv x2)]) r_267_41 (n_267_41 _) rfl ⟨rfl, rfl, by decide, by decide⟩ rfl rfl lf_252 ⟨rfl, Nat.le_of_ble_eq_true rfl, Nat.le_of_ble_eq_true rfl⟩ rfl h ?_
    intro o6 s6 h
    rcases h with ⟨y6, rfl, h⟩ | ⟨e6, rfl, h⟩
    · refine .inl ⟨some (.long y6), rfl, ?_⟩
      show wp S 267 44 [(0, rf 252), (1, iv x1), (2, iv x2), (3, .long u3), (5, iv x5)] [.long y6, .long u3] s6 Q
      refine i_ladd r_267_44 (n_267_44 _) ?_
      refine i_lstore_n (l' := [(0, rf 252), (1, iv x1), (2, iv x2), (3, .long (u3 + y6)), (5, iv x5)]) r_267_45 (n_267_45 _) (by decide) rfl ?_
      refine i_iinc (x := x5) (l' := [(0, rf 252), (1, iv x1), (2, iv x2), (3, .long (u3 + y6)), (5, iv (x5 + 1))]) r_267_46 (n_267_46 _) (by decide) rfl rfl ?_
      refine i_goto (t := 24) r_267_49 (n_267_49 _) rfl ?_
      exact wp_pr (l' := [(0, rf 252), (1, iv x1), (2, iv x2), (3, .long (u3 + y6)), (5, iv (x5 + 1))]) rfl h
    · skip
      exact h.elim
theorem r_268_0 : xfetch 268 0 = some (.aload_n 0, 1) := by decide +kernel
theorem n_268_0 : ∀ l, xpr 268 0 l = l := xpr_no (by decide +kernel)
theorem r_268_1 : xfetch 268 1 = some (.iload_n 1, 1) := by decide +kernel
theorem n_268_1 : ∀ l, xpr 268 1 l = l := xpr_no (by decide +kernel)
theorem r_268_2 : xfetch 268 2 = some (.invokevirtual 225, 3) := by decide +kernel
theorem n_268_2 : ∀ l, xpr 268 2 l = l := xpr_no (by decide +kernel)
theorem r_268_5 : xfetch 268 5 = some (.ifCond .eq 27, 3) := by decide +kernel
theorem n_268_5 : ∀ l, xpr 268 5 l = l := xpr_no (by decide +kernel)
theorem r_268_8 : xfetch 268 8 = some (.aload_n 0, 1) := by decide +kernel
theorem n_268_8 : ∀ l, xpr 268 8 l = l := xpr_no (by decide +kernel)
theorem r_268_9 : xfetch 268 9 = some (.iload_n 1, 1) := by decide +kernel
theorem n_268_9 : ∀ l, xpr 268 9 l = l := xpr_no (by decide +kernel)
theorem r_268_10 : xfetch 268 10 = some (.iload 4, 2) := by decide +kernel
theorem n_268_10 : ∀ l, xpr 268 10 l = l := xpr_no (by decide +kernel)
theorem r_268_12 : xfetch 268 12 = some (.invokevirtual 257, 3) := by decide +kernel
theorem n_268_12 : ∀ l, xpr 268 12 l = l := xpr_no (by decide +kernel)
theorem r_268_15 : xfetch 268 15 = some (.ifCond .eq 17, 3) := by decide +kernel
theorem n_268_15 : ∀ l, xpr 268 15 l = l := xpr_no (by decide +kernel)
theorem r_268_18 : xfetch 268 18 = some (.aload_n 0, 1) := by decide +kernel
theorem n_268_18 : ∀ l, xpr 268 18 l = l := xpr_no (by decide +kernel)
theorem r_268_19 : xfetch 268 19 = some (.iload_n 1, 1) := by decide +kernel
theorem n_268_19 : ∀ l, xpr 268 19 l = l := xpr_no (by decide +kernel)
theorem r_268_20 : xfetch 268 20 = some (.iload 5, 2) := by decide +kernel
theorem n_268_20 : ∀ l, xpr 268 20 l = l := xpr_no (by decide +kernel)
theorem r_268_22 : xfetch 268 22 = some (.invokevirtual 257, 3) := by decide +kernel
theorem n_268_22 : ∀ l, xpr 268 22 l = l := xpr_no (by decide +kernel)
theorem r_268_25 : xfetch 268 25 = some (.ifCond .eq 7, 3) := by decide +kernel
theorem n_268_25 : ∀ l, xpr 268 25 l = l := xpr_no (by decide +kernel)
theorem r_268_28 : xfetch 268 28 = some (.iconst 1, 1) := by decide +kernel
theorem n_268_28 : ∀ l, xpr 268 28 l = l := xpr_no (by decide +kernel)
theorem r_268_29 : xfetch 268 29 = some (.goto 4, 3) := by decide +kernel
theorem n_268_29 : ∀ l, xpr 268 29 l = l := xpr_no (by decide +kernel)
theorem r_268_32 : xfetch 268 32 = some (.iconst 0, 1) := by decide +kernel
theorem n_268_32 : ∀ l, xpr 268 32 l = l := xpr_no (by decide +kernel)
theorem r_268_33 : xfetch 268 33 = some (.istore 7, 2) := by decide +kernel
theorem r_268_35 : xfetch 268 35 = some (.aload_n 0, 1) := by decide +kernel
theorem n_268_35 : ∀ l, xpr 268 35 l = l := xpr_no (by decide +kernel)
theorem r_268_36 : xfetch 268 36 = some (.iload 7, 2) := by decide +kernel
theorem n_268_36 : ∀ l, xpr 268 36 l = l := xpr_no (by decide +kernel)
theorem r_268_38 : xfetch 268 38 = some (.ifCond .ne 7, 3) := by decide +kernel
theorem n_268_38 : ∀ l, xpr 268 38 l = l := xpr_no (by decide +kernel)
theorem r_268_41 : xfetch 268 41 = some (.iconst 1, 1) := by decide +kernel
theorem n_268_41 : ∀ l, xpr 268 41 l = l := xpr_no (by decide +kernel)
theorem r_268_42 : xfetch 268 42 = some (.goto 23, 3) := by decide +kernel
theorem n_268_42 : ∀ l, xpr 268 42 l = l := xpr_no (by decide +kernel)
theorem r_268_45 : xfetch 268 45 = some (.iload 4, 2) := by decide +kernel
theorem n_268_45 : ∀ l, xpr 268 45 l = l := xpr_no (by decide +kernel)
theorem r_268_47 : xfetch 268 47 = some (.iload 5, 2) := by decide +kernel
theorem n_268_47 : ∀ l, xpr 268 47 l = l := xpr_no (by decide +kernel)
theorem r_268_49 : xfetch 268 49 = some (.if_icmp .gt 11, 3) := by decide +kernel
theorem n_268_49 : ∀ l, xpr 268 49 l = l := xpr_no (by decide +kernel)
theorem r_268_52 : xfetch 268 52 = some (.iload 6, 2) := by decide +kernel
theorem n_268_52 : ∀ l, xpr 268 52 l = l := xpr_no (by decide +kernel)
theorem r_268_54 : xfetch 268 54 = some (.invokestatic 290, 3) := by decide +kernel
theorem n_268_54 : ∀ l, xpr 268 54 l = l := xpr_no (by decide +kernel)
theorem r_268_57 : xfetch 268 57 = some (.ifCond .ne 7, 3) := by decide +kernel
theorem n_268_57 : ∀ l, xpr 268 57 l = l := xpr_no (by decide +kernel)
theorem r_268_60 : xfetch 268 60 = some (.iconst 2, 1) := by decide +kernel
theorem n_268_60 : ∀ l, xpr 268 60 l = l := xpr_no (by decide +kernel)
theorem r_268_61 : xfetch 268 61 = some (.goto 4, 3) := by decide +kernel
theorem n_268_61 : ∀ l, xpr 268 61 l = l := xpr_no (by decide +kernel)
theorem r_268_64 : xfetch 268 64 = some (.iconst 0, 1) := by decide +kernel
theorem n_268_64 : ∀ l, xpr 268 64 l = l := xpr_no (by decide +kernel)
theorem r_268_65 : xfetch 268 65 = some (.invokevirtual 84, 3) := by decide +kernel
theorem n_268_65 : ∀ l, xpr 268 65 l = l := xpr_no (by decide +kernel)
theorem r_268_68 : xfetch 268 68 = some (.ifCond .eq 5, 3) := by decide +kernel
theorem n_268_68 : ∀ l, xpr 268 68 l = l := xpr_no (by decide +kernel)
theorem r_268_71 : xfetch 268 71 = some (.iconst 0, 1) := by decide +kernel
theorem n_268_71 : ∀ l, xpr 268 71 l = l := xpr_no (by decide +kernel)
theorem r_268_72 : xfetch 268 72 = some (.ireturn, 1) := by decide +kernel
theorem n_268_72 : ∀ l, xpr 268 72 l = l := xpr_no (by decide +kernel)
theorem r_268_73 : xfetch 268 73 = some (.aload_n 0, 1) := by decide +kernel
theorem n_268_73 : ∀ l, xpr 268 73 l = l := xpr_no (by decide +kernel)
theorem r_268_74 : xfetch 268 74 = some (.invokevirtual 152, 3) := by decide +kernel
theorem n_268_74 : ∀ l, xpr 268 74 l = l := xpr_no (by decide +kernel)
theorem r_268_77 : xfetch 268 77 = some (.aload_n 0, 1) := by decide +kernel
theorem n_268_77 : ∀ l, xpr 268 77 l = l := xpr_no (by decide +kernel)
theorem r_268_78 : xfetch 268 78 = some (.aload_n 0, 1) := by decide +kernel
theorem n_268_78 : ∀ l, xpr 268 78 l = l := xpr_no (by decide +kernel)
theorem r_268_79 : xfetch 268 79 = some (.iload_n 1, 1) := by decide +kernel
theorem n_268_79 : ∀ l, xpr 268 79 l = l := xpr_no (by decide +kernel)
theorem r_268_80 : xfetch 268 80 = some (.iconst 0, 1) := by decide +kernel
theorem n_268_80 : ∀ l, xpr 268 80 l = l := xpr_no (by decide +kernel)
theorem r_268_81 : xfetch 268 81 = some (.invokevirtual 228, 3) := by decide +kernel
theorem n_268_81 : ∀ l, xpr 268 81 l = l := xpr_no (by decide +kernel)
theorem r_268_84 : xfetch 268 84 = some (.aload_n 0, 1) := by decide +kernel
theorem n_268_84 : ∀ l, xpr 268 84 l = l := xpr_no (by decide +kernel)
theorem r_268_85 : xfetch 268 85 = some (.iload_n 1, 1) := by decide +kernel
theorem n_268_85 : ∀ l, xpr 268 85 l = l := xpr_no (by decide +kernel)
theorem r_268_86 : xfetch 268 86 = some (.iconst 1, 1) := by decide +kernel
theorem n_268_86 : ∀ l, xpr 268 86 l = l := xpr_no (by decide +kernel)
theorem r_268_87 : xfetch 268 87 = some (.invokevirtual 228, 3) := by decide +kernel
theorem n_268_87 : ∀ l, xpr 268 87 l = l := xpr_no (by decide +kernel)
theorem r_268_90 : xfetch 268 90 = some (.aload_n 0, 1) := by decide +kernel
theorem n_268_90 : ∀ l, xpr 268 90 l = l := xpr_no (by decide +kernel)
theorem r_268_91 : xfetch 268 91 = some (.iload_n 1, 1) := by decide +kernel
theorem n_268_91 : ∀ l, xpr 268 91 l = l := xpr_no (by decide +kernel)
theorem r_268_92 : xfetch 268 92 = some (.iconst 2, 1) := by decide +kernel
theorem n_268_92 : ∀ l, xpr 268 92 l = l := xpr_no (by decide +kernel)
theorem r_268_93 : xfetch 268 93 = some (.invokevirtual 228, 3) := by decide +kernel
theorem n_268_93 : ∀ l, xpr 268 93 l = l := xpr_no (by decide +kernel)
theorem r_268_96 : xfetch 268 96 = some (.aload_n 0, 1) := by decide +kernel
theorem n_268_96 : ∀ l, xpr 268 96 l = l := xpr_no (by decide +kernel)
theorem r_268_97 : xfetch 268 97 = some (.iload_n 1, 1) := by decide +kernel
theorem n_268_97 : ∀ l, xpr 268 97 l = l := xpr_no (by decide +kernel)
theorem r_268_98 : xfetch 268 98 = some (.iconst 4, 1) := by decide +kernel
theorem n_268_98 : ∀ l, xpr 268 98 l = l := xpr_no (by decide +kernel)
theorem r_268_99 : xfetch 268 99 = some (.invokevirtual 228, 3) := by decide +kernel
theorem n_268_99 : ∀ l, xpr 268 99 l = l := xpr_no (by decide +kernel)
theorem r_268_102 : xfetch 268 102 = some (.lload_n 2, 1) := by decide +kernel
theorem n_268_102 : ∀ l, xpr 268 102 l = l := xpr_no (by decide +kernel)
theorem r_268_103 : xfetch 268 103 = some (.iload 4, 2) := by decide +kernel
theorem n_268_103 : ∀ l, xpr 268 103 l = l := xpr_no (by decide +kernel)
theorem r_268_105 : xfetch 268 105 = some (.iload 5, 2) := by decide +kernel
theorem n_268_105 : ∀ l, xpr 268 105 l = l := xpr_no (by decide +kernel)
theorem r_268_107 : xfetch 268 107 = some (.invokevirtual 293, 3) := by decide +kernel
theorem n_268_107 : ∀ l, xpr 268 107 l = l := xpr_no (by decide +kernel)
theorem r_268_110 : xfetch 268 110 = some (.pop, 1) := by decide +kernel
theorem n_268_110 : ∀ l, xpr 268 110 l = l := xpr_no (by decide +kernel)
theorem r_268_111 : xfetch 268 111 = some (.aload_n 0, 1) := by decide +kernel
theorem n_268_111 : ∀ l, xpr 268 111 l = l := xpr_no (by decide +kernel)
theorem r_268_112 : xfetch 268 112 = some (.iload 6, 2) := by decide +kernel
theorem n_268_112 : ∀ l, xpr 268 112 l = l := xpr_no (by decide +kernel)
theorem r_268_114 : xfetch 268 114 = some (.invokevirtual 297, 3) := by decide +kernel
theorem n_268_114 : ∀ l, xpr 268 114 l = l := xpr_no (by decide +kernel)
theorem r_268_117 : xfetch 268 117 = some (.ireturn, 1) := by decide +kernel
theorem n_268_117 : ∀ l, xpr 268 117 l = l := xpr_no (by decide +kernel)
theorem v_Model_lines_0 {S : Option (Nat × (Nat → Int32))} {s : zSt} {Q : Option Value ⊕ Nat → zSt → Prop} {x1 : Int} {u2 : Int64} {x4 : Int} {x5 : Int} {x6 : Int} 
    (h : rng x1 ∧ ((¬ (0 ≤ x1 ∧ x1 ≤ 2 ∧ zI s 253 (157 + 6 * x1) ≠ -1) → wp S 268 33 [(0, rf 252), (1, iv x1), (2, .long u2), (4, iv x4), (5, iv x5), (6, iv x6)] [iv 0] s Q) ∧ (0 ≤ x1 ∧ x1 ≤ 2 ∧ zI s 253 (157 + 6 * x1) ≠ -1 → (0 ≤ ((157 + (6 * x1)) + 1) ∧ ((157 + (6 * x1)) + 1) < 1199) ∧ (rng x4 ∧ (rng ((zI s 253 ((157 + (6 * x1)) + 1)) - 1) ∧ ((¬ (0 ≤ x4 ∧ x4 ≤ ((zI s 253 ((157 + (6 * x1)) + 1)) - 1)) → wp S 268 33 [(0, rf 252), (1, iv x1), (2, .long u2), (4, iv x4), (5, iv x5), (6, iv x6)] [iv 0] s Q) ∧ (0 ≤ x4 ∧ x4 ≤ ((zI s 253 ((157 + (6 * x1)) + 1)) - 1) → rng x5 ∧ ((¬ (0 ≤ x5 ∧ x5 ≤ ((zI s 253 ((157 + (6 * x1)) + 1)) - 1)) → wp S 268 33 [(0, rf 252), (1, iv x1), (2, .long u2), (4, iv x4), (5, iv x5), (6, iv x6)] [iv 0] s Q) ∧ (0 ≤ x5 ∧ x5 ≤ ((zI s 253 ((157 + (6 * x1)) + 1)) - 1) → wp S 268 33 [(0, rf 252), (1, iv x1), (2, .long u2), (4, iv x4), (5, iv x5), (6, iv x6)] [iv 1] s Q))))))))) :
    wp S 268 0 [(0, rf 252), (1, iv x1), (2, .long u2), (4, iv x4), (5, iv x5), (6, iv x6)] [] s Q := by
  refine i_aload_n (a := 252) r_268_0 (n_268_0 _) rfl ?_
  refine i_iload_n (x := x1) r_268_1 (n_268_1 _) rfl ?_
  obtain ⟨g1, h⟩ := h
  refine wp_virt (b := 252) (rest := []) (Ls := [(0, rf 252), (1, iv x1)]) r_268_2 (n_268_2 _) rfl ⟨rfl, rfl, by decide, by decide⟩ rfl rfl lf_252 ⟨rfl, Nat.le_of_ble_eq_true rfl, Nat.le_of_ble_eq_true rfl⟩ rfl (K_Model_isTable g1) ?_
  rintro _ _ ⟨rfl, rfl⟩
  refine .inl ⟨some (iv (bi (0 ≤ x1 ∧ x1 ≤ 2 ∧ zI s 253 (157 + 6 * x1) ≠ -1))), rfl, ?_⟩
  show wp S 268 5 [(0, rf 252), (1, iv x1), (2, .long u2), (4, iv x4), (5, iv x5), (6, iv x6)] [iv (bi (0 ≤ x1 ∧ x1 ≤ 2 ∧ zI s 253 (157 + 6 * x1) ≠ -1))] s Q
  refine i_if (t := 32) r_268_5 (n_268_5 _) rfl (TB_eq) (fun c3 => ?_) (fun c3 => ?_)
  · replace h := h.1 c3
    refine i_iconst r_268_32 (n_268_32 _) ?_
    exact wp_pr (l' := [(0, rf 252), (1, iv x1), (2, .long u2), (4, iv x4), (5, iv x5), (6, iv x6)]) rfl h
  · replace h := h.2 c3
    refine i_aload_n (a := 252) r_268_8 (n_268_8 _) rfl ?_
    refine i_iload_n (x := x1) r_268_9 (n_268_9 _) rfl ?_
    refine i_iload (x := x4) r_268_10 (n_268_10 _) rfl ?_
    obtain ⟨g4, h⟩ := h
    obtain ⟨g5, h⟩ := h
    obtain ⟨g6, h⟩ := h
    refine wp_virt (b := 252) (rest := []) (Ls := [(0, rf 252), (1, iv x1), (2, iv x4)]) r_268_12 (n_268_12 _) rfl ⟨rfl, rfl, by decide, by decide⟩ rfl rfl lf_252 ⟨rfl, Nat.le_of_ble_eq_true rfl, Nat.le_of_ble_eq_true rfl⟩ rfl (K_Model_isRow g4 g5 g6) ?_
    rintro _ _ ⟨rfl, rfl⟩
    refine .inl ⟨some (iv (bi (0 ≤ x4 ∧ x4 ≤ ((zI s 253 ((157 + (6 * x1)) + 1)) - 1)))), rfl, ?_⟩
    show wp S 268 15 [(0, rf 252), (1, iv x1), (2, .long u2), (4, iv x4), (5, iv x5), (6, iv x6)] [iv (bi (0 ≤ x4 ∧ x4 ≤ ((zI s 253 ((157 + (6 * x1)) + 1)) - 1)))] s Q
    refine i_if (t := 32) r_268_15 (n_268_15 _) rfl (TB_eq) (fun c8 => ?_) (fun c8 => ?_)
    · replace h := h.1 c8
      refine i_iconst r_268_32 (n_268_32 _) ?_
      exact wp_pr (l' := [(0, rf 252), (1, iv x1), (2, .long u2), (4, iv x4), (5, iv x5), (6, iv x6)]) rfl h
    · replace h := h.2 c8
      refine i_aload_n (a := 252) r_268_18 (n_268_18 _) rfl ?_
      refine i_iload_n (x := x1) r_268_19 (n_268_19 _) rfl ?_
      refine i_iload (x := x5) r_268_20 (n_268_20 _) rfl ?_
      obtain ⟨g9, h⟩ := h
      refine wp_virt (b := 252) (rest := []) (Ls := [(0, rf 252), (1, iv x1), (2, iv x5)]) r_268_22 (n_268_22 _) rfl ⟨rfl, rfl, by decide, by decide⟩ rfl rfl lf_252 ⟨rfl, Nat.le_of_ble_eq_true rfl, Nat.le_of_ble_eq_true rfl⟩ rfl (K_Model_isRow g4 g9 g6) ?_
      rintro _ _ ⟨rfl, rfl⟩
      refine .inl ⟨some (iv (bi (0 ≤ x5 ∧ x5 ≤ ((zI s 253 ((157 + (6 * x1)) + 1)) - 1)))), rfl, ?_⟩
      show wp S 268 25 [(0, rf 252), (1, iv x1), (2, .long u2), (4, iv x4), (5, iv x5), (6, iv x6)] [iv (bi (0 ≤ x5 ∧ x5 ≤ ((zI s 253 ((157 + (6 * x1)) + 1)) - 1)))] s Q
      refine i_if (t := 32) r_268_25 (n_268_25 _) rfl (TB_eq) (fun c11 => ?_) (fun c11 => ?_)
      · replace h := h.1 c11
        refine i_iconst r_268_32 (n_268_32 _) ?_
        exact wp_pr (l' := [(0, rf 252), (1, iv x1), (2, .long u2), (4, iv x4), (5, iv x5), (6, iv x6)]) rfl h
      · replace h := h.2 c11
        refine i_iconst r_268_28 (n_268_28 _) ?_
        refine i_goto (t := 33) r_268_29 (n_268_29 _) rfl ?_
        exact wp_pr (l' := [(0, rf 252), (1, iv x1), (2, .long u2), (4, iv x4), (5, iv x5), (6, iv x6)]) rfl h
theorem v_Model_lines_33 {S : Option (Nat × (Nat → Int32))} {s : zSt} {Q : Option Value ⊕ Nat → zSt → Prop} {x1 : Int} {u2 : Int64} {x4 : Int} {x5 : Int} {x6 : Int} {x90 : Int} 
    (h : rng x90 ∧ ((x90 ≠ 0 → rng x4 ∧ (rng x5 ∧ ((x5 < x4 → Q (rI 0) (zwI s 252 3 2)) ∧ (x4 ≤ x5 → rng x6 ∧ ((x6 = 16 ∨ x6 = 32 ∨ x6 = 64 → wp S 193 0 [(0, rf 252)] [] (zwI s 252 3 0) (fun o11 s11 => zkU ((0 ≤ ((157 + (6 * x1)) + 0) ∧ ((157 + (6 * x1)) + 0) < 1199) ∧ ((0 ≤ ((157 + (6 * x1)) + 1) ∧ ((157 + (6 * x1)) + 1) < 1199) ∧ ((0 ≤ ((157 + (6 * x1)) + 2) ∧ ((157 + (6 * x1)) + 2) < 1199) ∧ ((0 ≤ ((157 + (6 * x1)) + 4) ∧ ((157 + (6 * x1)) + 4) < 1199) ∧ (wp S 270 0 [(0, rf 252), (1, iv (zI s11 253 ((157 + (6 * x1)) + 0))), (2, iv (zI s11 253 ((157 + (6 * x1)) + 1))), (3, iv (zI s11 253 ((157 + (6 * x1)) + 2))), (4, iv (zI s11 253 ((157 + (6 * x1)) + 4))), (5, .long u2), (7, iv x4), (8, iv x5)] [] s11 (fun o25 s25 => zkI (fun y25 => wp S 271 0 [(0, rf 252), (1, iv x6)] [] s25 (fun o27 s27 => zkI (fun y27 => Q (rI y27) s27) (fun e27 => False) o27)) (fun e25 => False) o25)))))) (fun e11 => False) o11)) ∧ (¬ (x6 = 16 ∨ x6 = 32 ∨ x6 = 64) → Q (rI 0) (zwI s 252 3 2))))))) ∧ (x90 = 0 → Q (rI 0) (zwI s 252 3 1)))) :
    wp S 268 33 [(0, rf 252), (1, iv x1), (2, .long u2), (4, iv x4), (5, iv x5), (6, iv x6)] [iv x90] s Q := by
  refine i_istore (l' := [(0, rf 252), (1, iv x1), (2, .long u2), (4, iv x4), (5, iv x5), (6, iv x6), (7, iv x90)]) r_268_33 rfl (by decide) rfl ?_
  refine i_aload_n (a := 252) r_268_35 (n_268_35 _) rfl ?_
  refine i_iload (x := x90) r_268_36 (n_268_36 _) rfl ?_
  obtain ⟨g1, h⟩ := h
  refine i_if (t := 45) r_268_38 (n_268_38 _) rfl (T_ne g1 ⟨by omega, by omega⟩) (fun c2 => ?_) (fun c2 => ?_)
  · replace h := h.1 c2
    refine i_iload (x := x4) r_268_45 (n_268_45 _) rfl ?_
    refine i_iload (x := x5) r_268_47 (n_268_47 _) rfl ?_
    obtain ⟨g3, h⟩ := h
    obtain ⟨g4, h⟩ := h
    refine i_icmp (t := 60) r_268_49 (n_268_49 _) rfl (T_gt g3 g4) (fun c5 => ?_) (fun c5 => ?_)
    · replace h := h.1 c5
      refine i_iconst r_268_60 (n_268_60 _) ?_
      refine i_goto (t := 65) r_268_61 (n_268_61 _) rfl ?_
      refine wp_virt (b := 252) (rest := []) (Ls := [(0, rf 252), (1, iv 2)]) r_268_65 (n_268_65 _) rfl ⟨rfl, rfl, by decide, by decide⟩ rfl rfl lf_252 ⟨rfl, Nat.le_of_ble_eq_true rfl, Nat.le_of_ble_eq_true rfl⟩ rfl (K_Model_refused1 ⟨by omega, by omega⟩ (by omega)) ?_
      rintro _ _ ⟨rfl, rfl⟩
      refine .inl ⟨some (iv 1), rfl, ?_⟩
      show wp S 268 68 [(0, rf 252), (1, iv x1), (2, .long u2), (4, iv x4), (5, iv x5), (6, iv x6), (7, iv x90)] [iv 1] (zwI s 252 3 2) Q
      refine i_if (t := 73) r_268_68 (n_268_68 _) rfl (T_eq ⟨by omega, by omega⟩ ⟨by omega, by omega⟩) (fun z => absurd z (by omega)) (fun _ => ?_)
      refine i_iconst r_268_71 (n_268_71 _) ?_
      exact i_ireturn r_268_72 (n_268_72 _) rfl h
    · replace h := h.2 c5
      refine i_iload (x := x6) r_268_52 (n_268_52 _) rfl ?_
      obtain ⟨g7, h⟩ := h
      refine wp_stat (rest := [rf 252]) (Ls := [(0, iv x6)]) r_268_54 (n_268_54 _) rfl ⟨rfl, by decide, by decide, by decide⟩ rfl rfl ⟨rfl, Nat.le_of_ble_eq_true rfl, Nat.le_of_ble_eq_true rfl⟩ rfl (K_Model_isLine g7) ?_
      rintro _ _ ⟨rfl, rfl⟩
      refine .inl ⟨some (iv (bi (x6 = 16 ∨ x6 = 32 ∨ x6 = 64))), rfl, ?_⟩
      show wp S 268 57 [(0, rf 252), (1, iv x1), (2, .long u2), (4, iv x4), (5, iv x5), (6, iv x6), (7, iv x90)] [iv (bi (x6 = 16 ∨ x6 = 32 ∨ x6 = 64)), rf 252] s Q
      refine i_if (t := 64) r_268_57 (n_268_57 _) rfl (TB_ne) (fun c9 => ?_) (fun c9 => ?_)
      · replace h := h.1 c9
        refine i_iconst r_268_64 (n_268_64 _) ?_
        refine wp_virt (b := 252) (rest := []) (Ls := [(0, rf 252), (1, iv 0)]) r_268_65 (n_268_65 _) rfl ⟨rfl, rfl, by decide, by decide⟩ rfl rfl lf_252 ⟨rfl, Nat.le_of_ble_eq_true rfl, Nat.le_of_ble_eq_true rfl⟩ rfl K_Model_refused0 ?_
        rintro _ _ ⟨rfl, rfl⟩
        refine .inl ⟨some (iv 0), rfl, ?_⟩
        show wp S 268 68 [(0, rf 252), (1, iv x1), (2, .long u2), (4, iv x4), (5, iv x5), (6, iv x6), (7, iv x90)] [iv 0] (zwI s 252 3 0) Q
        refine i_if (t := 73) r_268_68 (n_268_68 _) rfl (T_eq ⟨by omega, by omega⟩ ⟨by omega, by omega⟩) (fun _ => ?_) (fun z => absurd z (by omega))
        refine i_aload_n (a := 252) r_268_73 (n_268_73 _) rfl ?_
        refine wp_virt (b := 252) (rest := []) (Ls := [(0, rf 252)]) r_268_74 (n_268_74 _) rfl ⟨rfl, rfl, by decide, by decide⟩ rfl rfl lf_252 ⟨rfl, Nat.le_of_ble_eq_true rfl, Nat.le_of_ble_eq_true rfl⟩ rfl h ?_
        intro o11 s11 h
        rcases h with ⟨rfl, h⟩ | ⟨e11, rfl, h⟩
        · refine .inl ⟨none, rfl, ?_⟩
          refine i_aload_n (a := 252) r_268_77 (n_268_77 _) rfl ?_
          refine i_aload_n (a := 252) r_268_78 (n_268_78 _) rfl ?_
          refine i_iload_n (x := x1) r_268_79 (n_268_79 _) rfl ?_
          refine i_iconst r_268_80 (n_268_80 _) ?_
          obtain ⟨g13, h⟩ := h
          refine wp_virt (b := 252) (rest := [rf 252]) (Ls := [(0, rf 252), (1, iv x1), (2, iv 0)]) r_268_81 (n_268_81 _) rfl ⟨rfl, rfl, by decide, by decide⟩ rfl rfl lf_252 ⟨rfl, Nat.le_of_ble_eq_true rfl, Nat.le_of_ble_eq_true rfl⟩ rfl (K_Model_of g13) ?_
          rintro _ _ ⟨rfl, rfl⟩
          refine .inl ⟨some (iv (zI s11 253 ((157 + (6 * x1)) + 0))), rfl, ?_⟩
          show wp S 268 84 [(0, rf 252), (1, iv x1), (2, .long u2), (4, iv x4), (5, iv x5), (6, iv x6), (7, iv x90)] [iv (zI s11 253 ((157 + (6 * x1)) + 0)), rf 252] s11 Q
          refine wp_rd (a := 253) (j := ((157 + (6 * x1)) + 0)) (fun q15 => ?_)
          refine i_aload_n (a := 252) r_268_84 (n_268_84 _) rfl ?_
          refine i_iload_n (x := x1) r_268_85 (n_268_85 _) rfl ?_
          refine i_iconst r_268_86 (n_268_86 _) ?_
          obtain ⟨g16, h⟩ := h
          refine wp_virt (b := 252) (rest := [iv (zI s11 253 ((157 + (6 * x1)) + 0)), rf 252]) (Ls := [(0, rf 252), (1, iv x1), (2, iv 1)]) r_268_87 (n_268_87 _) rfl ⟨rfl, rfl, by decide, by decide⟩ rfl rfl lf_252 ⟨rfl, Nat.le_of_ble_eq_true rfl, Nat.le_of_ble_eq_true rfl⟩ rfl (K_Model_of g16) ?_
          rintro _ _ ⟨rfl, rfl⟩
          refine .inl ⟨some (iv (zI s11 253 ((157 + (6 * x1)) + 1))), rfl, ?_⟩
          show wp S 268 90 [(0, rf 252), (1, iv x1), (2, .long u2), (4, iv x4), (5, iv x5), (6, iv x6), (7, iv x90)] [iv (zI s11 253 ((157 + (6 * x1)) + 1)), iv (zI s11 253 ((157 + (6 * x1)) + 0)), rf 252] s11 Q
          refine wp_rd (a := 253) (j := ((157 + (6 * x1)) + 1)) (fun q18 => ?_)
          refine i_aload_n (a := 252) r_268_90 (n_268_90 _) rfl ?_
          refine i_iload_n (x := x1) r_268_91 (n_268_91 _) rfl ?_
          refine i_iconst r_268_92 (n_268_92 _) ?_
          obtain ⟨g19, h⟩ := h
          refine wp_virt (b := 252) (rest := [iv (zI s11 253 ((157 + (6 * x1)) + 1)), iv (zI s11 253 ((157 + (6 * x1)) + 0)), rf 252]) (Ls := [(0, rf 252), (1, iv x1), (2, iv 2)]) r_268_93 (n_268_93 _) rfl ⟨rfl, rfl, by decide, by decide⟩ rfl rfl lf_252 ⟨rfl, Nat.le_of_ble_eq_true rfl, Nat.le_of_ble_eq_true rfl⟩ rfl (K_Model_of g19) ?_
          rintro _ _ ⟨rfl, rfl⟩
          refine .inl ⟨some (iv (zI s11 253 ((157 + (6 * x1)) + 2))), rfl, ?_⟩
          show wp S 268 96 [(0, rf 252), (1, iv x1), (2, .long u2), (4, iv x4), (5, iv x5), (6, iv x6), (7, iv x90)] [iv (zI s11 253 ((157 + (6 * x1)) + 2)), iv (zI s11 253 ((157 + (6 * x1)) + 1)), iv (zI s11 253 ((157 + (6 * x1)) + 0)), rf 252] s11 Q
          refine wp_rd (a := 253) (j := ((157 + (6 * x1)) + 2)) (fun q21 => ?_)
          refine i_aload_n (a := 252) r_268_96 (n_268_96 _) rfl ?_
          refine i_iload_n (x := x1) r_268_97 (n_268_97 _) rfl ?_
          refine i_iconst r_268_98 (n_268_98 _) ?_
          obtain ⟨g22, h⟩ := h
          refine wp_virt (b := 252) (rest := [iv (zI s11 253 ((157 + (6 * x1)) + 2)), iv (zI s11 253 ((157 + (6 * x1)) + 1)), iv (zI s11 253 ((157 + (6 * x1)) + 0)), rf 252]) (Ls := [(0, rf 252), (1, iv x1), (2, iv 4)]) r_268_99 (n_268_99 _) rfl ⟨rfl, rfl, by decide, by decide⟩ rfl rfl lf_252 ⟨rfl, Nat.le_of_ble_eq_true rfl, Nat.le_of_ble_eq_true rfl⟩ rfl (K_Model_of g22) ?_
          rintro _ _ ⟨rfl, rfl⟩
          refine .inl ⟨some (iv (zI s11 253 ((157 + (6 * x1)) + 4))), rfl, ?_⟩
          show wp S 268 102 [(0, rf 252), (1, iv x1), (2, .long u2), (4, iv x4), (5, iv x5), (6, iv x6), (7, iv x90)] [iv (zI s11 253 ((157 + (6 * x1)) + 4)), iv (zI s11 253 ((157 + (6 * x1)) + 2)), iv (zI s11 253 ((157 + (6 * x1)) + 1)), iv (zI s11 253 ((157 + (6 * x1)) + 0)), rf 252] s11 Q
          refine wp_rd (a := 253) (j := ((157 + (6 * x1)) + 4)) (fun q24 => ?_)
          refine i_lload_n (u := u2) r_268_102 (n_268_102 _) rfl ?_
          refine i_iload (x := x4) r_268_103 (n_268_103 _) rfl ?_
          refine i_iload (x := x5) r_268_105 (n_268_105 _) rfl ?_
          refine wp_virt (b := 252) (rest := []) (Ls := [(0, rf 252), (1, iv (zI s11 253 ((157 + (6 * x1)) + 0))), (2, iv (zI s11 253 ((157 + (6 * x1)) + 1))), (3, iv (zI s11 253 ((157 + (6 * x1)) + 2))), (4, iv (zI s11 253 ((157 + (6 * x1)) + 4))), (5, .long u2), (7, iv x4), (8, iv x5)]) r_268_107 (n_268_107 _) rfl ⟨rfl, rfl, by decide, by decide⟩ rfl rfl lf_252 ⟨rfl, Nat.le_of_ble_eq_true rfl, Nat.le_of_ble_eq_true rfl⟩ rfl h ?_
          intro o25 s25 h
          rcases h with ⟨y25, q26, rfl, h⟩ | ⟨e25, rfl, h⟩
          · refine .inl ⟨some (iv y25), rfl, ?_⟩
            show wp S 268 110 [(0, rf 252), (1, iv x1), (2, .long u2), (4, iv x4), (5, iv x5), (6, iv x6), (7, iv x90)] [iv y25] s25 Q
            refine i_pop r_268_110 (n_268_110 _) rfl ?_
            refine i_aload_n (a := 252) r_268_111 (n_268_111 _) rfl ?_
            refine i_iload (x := x6) r_268_112 (n_268_112 _) rfl ?_
            refine wp_virt (b := 252) (rest := []) (Ls := [(0, rf 252), (1, iv x6)]) r_268_114 (n_268_114 _) rfl ⟨rfl, rfl, by decide, by decide⟩ rfl rfl lf_252 ⟨rfl, Nat.le_of_ble_eq_true rfl, Nat.le_of_ble_eq_true rfl⟩ rfl h ?_
            intro o27 s27 h
            rcases h with ⟨y27, q28, rfl, h⟩ | ⟨e27, rfl, h⟩
            · refine .inl ⟨some (iv y27), rfl, ?_⟩
              show wp S 268 117 [(0, rf 252), (1, iv x1), (2, .long u2), (4, iv x4), (5, iv x5), (6, iv x6), (7, iv x90)] [iv y27] s27 Q
              exact i_ireturn r_268_117 (n_268_117 _) rfl h
            · skip
              exact h.elim
          · skip
            exact h.elim
        · skip
          exact h.elim
      · replace h := h.2 c9
        refine i_iconst r_268_60 (n_268_60 _) ?_
        refine i_goto (t := 65) r_268_61 (n_268_61 _) rfl ?_
        refine wp_virt (b := 252) (rest := []) (Ls := [(0, rf 252), (1, iv 2)]) r_268_65 (n_268_65 _) rfl ⟨rfl, rfl, by decide, by decide⟩ rfl rfl lf_252 ⟨rfl, Nat.le_of_ble_eq_true rfl, Nat.le_of_ble_eq_true rfl⟩ rfl (K_Model_refused1 ⟨by omega, by omega⟩ (by omega)) ?_
        rintro _ _ ⟨rfl, rfl⟩
        refine .inl ⟨some (iv 1), rfl, ?_⟩
        show wp S 268 68 [(0, rf 252), (1, iv x1), (2, .long u2), (4, iv x4), (5, iv x5), (6, iv x6), (7, iv x90)] [iv 1] (zwI s 252 3 2) Q
        refine i_if (t := 73) r_268_68 (n_268_68 _) rfl (T_eq ⟨by omega, by omega⟩ ⟨by omega, by omega⟩) (fun z => absurd z (by omega)) (fun _ => ?_)
        refine i_iconst r_268_71 (n_268_71 _) ?_
        exact i_ireturn r_268_72 (n_268_72 _) rfl h
  · replace h := h.2 c2
    refine i_iconst r_268_41 (n_268_41 _) ?_
    refine i_goto (t := 65) r_268_42 (n_268_42 _) rfl ?_
    refine wp_virt (b := 252) (rest := []) (Ls := [(0, rf 252), (1, iv 1)]) r_268_65 (n_268_65 _) rfl ⟨rfl, rfl, by decide, by decide⟩ rfl rfl lf_252 ⟨rfl, Nat.le_of_ble_eq_true rfl, Nat.le_of_ble_eq_true rfl⟩ rfl (K_Model_refused1 ⟨by omega, by omega⟩ (by omega)) ?_
    rintro _ _ ⟨rfl, rfl⟩
    refine .inl ⟨some (iv 1), rfl, ?_⟩
    show wp S 268 68 [(0, rf 252), (1, iv x1), (2, .long u2), (4, iv x4), (5, iv x5), (6, iv x6), (7, iv x90)] [iv 1] (zwI s 252 3 1) Q
    refine i_if (t := 73) r_268_68 (n_268_68 _) rfl (T_eq ⟨by omega, by omega⟩ ⟨by omega, by omega⟩) (fun z => absurd z (by omega)) (fun _ => ?_)
    refine i_iconst r_268_71 (n_268_71 _) ?_
    exact i_ireturn r_268_72 (n_268_72 _) rfl h

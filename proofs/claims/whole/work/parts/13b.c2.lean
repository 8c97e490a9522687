theorem r_132_0 : xfetch 132 0 = some (.iconst 0, 1) := by decide +kernel
theorem n_132_0 : ∀ l, xpr 132 0 l = l := xpr_no (by decide +kernel)
theorem r_132_1 : xfetch 132 1 = some (.istore 6, 2) := by decide +kernel
theorem n_132_1 : ∀ l, xpr 132 1 l = l := xpr_no (by decide +kernel)
theorem r_132_3 : xfetch 132 3 = some (.iload 6, 2) := by decide +kernel
theorem r_132_5 : xfetch 132 5 = some (.iload_n 3, 1) := by decide +kernel
theorem n_132_5 : ∀ l, xpr 132 5 l = l := xpr_no (by decide +kernel)
theorem r_132_6 : xfetch 132 6 = some (.if_icmp .ge 60, 3) := by decide +kernel
theorem n_132_6 : ∀ l, xpr 132 6 l = l := xpr_no (by decide +kernel)
theorem r_132_9 : xfetch 132 9 = some (.aload_n 0, 1) := by decide +kernel
theorem n_132_9 : ∀ l, xpr 132 9 l = l := xpr_no (by decide +kernel)
theorem r_132_10 : xfetch 132 10 = some (.getfield 75, 3) := by decide +kernel
theorem n_132_10 : ∀ l, xpr 132 10 l = l := xpr_no (by decide +kernel)
theorem r_132_13 : xfetch 132 13 = some (.ifCond .ne 10, 3) := by decide +kernel
theorem n_132_13 : ∀ l, xpr 132 13 l = l := xpr_no (by decide +kernel)
theorem r_132_16 : xfetch 132 16 = some (.iload_n 2, 1) := by decide +kernel
theorem n_132_16 : ∀ l, xpr 132 16 l = l := xpr_no (by decide +kernel)
theorem r_132_17 : xfetch 132 17 = some (.iload 6, 2) := by decide +kernel
theorem n_132_17 : ∀ l, xpr 132 17 l = l := xpr_no (by decide +kernel)
theorem r_132_19 : xfetch 132 19 = some (.iadd, 1) := by decide +kernel
theorem n_132_19 : ∀ l, xpr 132 19 l = l := xpr_no (by decide +kernel)
theorem r_132_20 : xfetch 132 20 = some (.goto 11, 3) := by decide +kernel
theorem n_132_20 : ∀ l, xpr 132 20 l = l := xpr_no (by decide +kernel)
theorem r_132_23 : xfetch 132 23 = some (.iload_n 2, 1) := by decide +kernel
theorem n_132_23 : ∀ l, xpr 132 23 l = l := xpr_no (by decide +kernel)
theorem r_132_24 : xfetch 132 24 = some (.iload_n 3, 1) := by decide +kernel
theorem n_132_24 : ∀ l, xpr 132 24 l = l := xpr_no (by decide +kernel)
theorem r_132_25 : xfetch 132 25 = some (.iadd, 1) := by decide +kernel
theorem n_132_25 : ∀ l, xpr 132 25 l = l := xpr_no (by decide +kernel)
theorem r_132_26 : xfetch 132 26 = some (.iconst 1, 1) := by decide +kernel
theorem n_132_26 : ∀ l, xpr 132 26 l = l := xpr_no (by decide +kernel)
theorem r_132_27 : xfetch 132 27 = some (.isub, 1) := by decide +kernel
theorem n_132_27 : ∀ l, xpr 132 27 l = l := xpr_no (by decide +kernel)
theorem r_132_28 : xfetch 132 28 = some (.iload 6, 2) := by decide +kernel
theorem n_132_28 : ∀ l, xpr 132 28 l = l := xpr_no (by decide +kernel)
theorem r_132_30 : xfetch 132 30 = some (.isub, 1) := by decide +kernel
theorem n_132_30 : ∀ l, xpr 132 30 l = l := xpr_no (by decide +kernel)
theorem r_132_31 : xfetch 132 31 = some (.istore 7, 2) := by decide +kernel
theorem n_132_31 : ∀ l, xpr 132 31 l = l := xpr_no (by decide +kernel)
theorem r_132_33 : xfetch 132 33 = some (.iload 7, 2) := by decide +kernel
theorem n_132_33 : ∀ l, xpr 132 33 l = l := xpr_no (by decide +kernel)
theorem r_132_35 : xfetch 132 35 = some (.ifCond .lt 25, 3) := by decide +kernel
theorem n_132_35 : ∀ l, xpr 132 35 l = l := xpr_no (by decide +kernel)
theorem r_132_38 : xfetch 132 38 = some (.iload 7, 2) := by decide +kernel
theorem n_132_38 : ∀ l, xpr 132 38 l = l := xpr_no (by decide +kernel)
theorem r_132_40 : xfetch 132 40 = some (.sipush 1024, 3) := by decide +kernel
theorem n_132_40 : ∀ l, xpr 132 40 l = l := xpr_no (by decide +kernel)
theorem r_132_43 : xfetch 132 43 = some (.if_icmp .ge 17, 3) := by decide +kernel
theorem n_132_43 : ∀ l, xpr 132 43 l = l := xpr_no (by decide +kernel)
theorem r_132_46 : xfetch 132 46 = some (.aload_n 1, 1) := by decide +kernel
theorem n_132_46 : ∀ l, xpr 132 46 l = l := xpr_no (by decide +kernel)
theorem r_132_47 : xfetch 132 47 = some (.iload 7, 2) := by decide +kernel
theorem n_132_47 : ∀ l, xpr 132 47 l = l := xpr_no (by decide +kernel)
theorem r_132_49 : xfetch 132 49 = some (.lload 4, 2) := by decide +kernel
theorem n_132_49 : ∀ l, xpr 132 49 l = l := xpr_no (by decide +kernel)
theorem r_132_51 : xfetch 132 51 = some (.bipush 8, 2) := by decide +kernel
theorem n_132_51 : ∀ l, xpr 132 51 l = l := xpr_no (by decide +kernel)
theorem r_132_53 : xfetch 132 53 = some (.iload 6, 2) := by decide +kernel
theorem n_132_53 : ∀ l, xpr 132 53 l = l := xpr_no (by decide +kernel)
theorem r_132_55 : xfetch 132 55 = some (.imul, 1) := by decide +kernel
theorem n_132_55 : ∀ l, xpr 132 55 l = l := xpr_no (by decide +kernel)
theorem r_132_56 : xfetch 132 56 = some (.lshr, 1) := by decide +kernel
theorem n_132_56 : ∀ l, xpr 132 56 l = l := xpr_no (by decide +kernel)
theorem r_132_57 : xfetch 132 57 = some (.l2i, 1) := by decide +kernel
theorem n_132_57 : ∀ l, xpr 132 57 l = l := xpr_no (by decide +kernel)
theorem r_132_58 : xfetch 132 58 = some (.i2b, 1) := by decide +kernel
theorem n_132_58 : ∀ l, xpr 132 58 l = l := xpr_no (by decide +kernel)
theorem r_132_59 : xfetch 132 59 = some (.bastore, 1) := by decide +kernel
theorem n_132_59 : ∀ l, xpr 132 59 l = l := xpr_no (by decide +kernel)
theorem r_132_60 : xfetch 132 60 = some (.iinc 6 1, 3) := by decide +kernel
theorem n_132_60 : ∀ l, xpr 132 60 l = l := xpr_no (by decide +kernel)
theorem r_132_63 : xfetch 132 63 = some (.goto (-60), 3) := by decide +kernel
theorem n_132_63 : ∀ l, xpr 132 63 l = l := xpr_no (by decide +kernel)
theorem r_132_66 : xfetch 132 66 = some (.return_, 1) := by decide +kernel
theorem n_132_66 : ∀ l, xpr 132 66 l = l := xpr_no (by decide +kernel)
theorem v_View_putRaw_0 {S : Option (Nat × (Nat → Int32))} {s : zSt} {Q : Option Value ⊕ Nat → zSt → Prop} {a0 : Int} {a1 : Int} {x2 : Int} {x3 : Int} {u4 : Int64} (ha0 : isO a0 8) (ha1 : isA a1 3 1024)
    (h : wp S 132 3 [(0, rf a0), (1, rf a1), (2, iv x2), (3, iv x3), (4, .long u4), (6, iv 0)] [] s Q) :
    wp S 132 0 [(0, rf a0), (1, rf a1), (2, iv x2), (3, iv x3), (4, .long u4)] [] s Q := by
  refine i_iconst r_132_0 (n_132_0 _) ?_
  refine i_istore (l' := [(0, rf a0), (1, rf a1), (2, iv x2), (3, iv x3), (4, .long u4), (6, iv 0)]) r_132_1 (n_132_1 _) (by decide) rfl ?_
  exact wp_pr (l' := [(0, rf a0), (1, rf a1), (2, iv x2), (3, iv x3), (4, .long u4), (6, iv 0)]) rfl h
theorem v_View_putRaw_3 {S : Option (Nat × (Nat → Int32))} {s : zSt} {Q : Option Value ⊕ Nat → zSt → Prop} {a0 : Int} {a1 : Int} {x2 : Int} {x3 : Int} {u4 : Int64} {x6 : Int} (ha0 : isO a0 8) (ha1 : isA a1 3 1024)
    (h : rng x6 ∧ (rng x3 ∧ ((x3 ≤ x6 → Q rU s) ∧ (x6 < x3 → ((zI s a0 1) ≠ 0 → rng (((x2 + x3) - 1) - x6) ∧ (((((x2 + x3) - 1) - x6) < 0 → wp S 132 3 [(0, rf a0), (1, rf a1), (2, iv x2), (3, iv x3), (4, .long u4), (6, iv (x6 + 1))] [] s Q) ∧ (0 ≤ (((x2 + x3) - 1) - x6) → (1024 ≤ (((x2 + x3) - 1) - x6) → wp S 132 3 [(0, rf a0), (1, rf a1), (2, iv x2), (3, iv x3), (4, .long u4), (6, iv (x6 + 1))] [] s Q) ∧ ((((x2 + x3) - 1) - x6) < 1024 → (0 ≤ (((x2 + x3) - 1) - x6) ∧ (((x2 + x3) - 1) - x6) < 1024) ∧ (wp S 132 3 [(0, rf a0), (1, rf a1), (2, iv x2), (3, iv x3), (4, .long u4), (6, iv (x6 + 1))] [] (zwI s a1 (((x2 + x3) - 1) - x6) (zi2b (zi2b (zl2i (zshrL u4 (8 * x6)))))) Q))))) ∧ ((zI s a0 1) = 0 → rng (x2 + x6) ∧ (((x2 + x6) < 0 → wp S 132 3 [(0, rf a0), (1, rf a1), (2, iv x2), (3, iv x3), (4, .long u4), (6, iv (x6 + 1))] [] s Q) ∧ (0 ≤ (x2 + x6) → (1024 ≤ (x2 + x6) → wp S 132 3 [(0, rf a0), (1, rf a1), (2, iv x2), (3, iv x3), (4, .long u4), (6, iv (x6 + 1))] [] s Q) ∧ ((x2 + x6) < 1024 → (0 ≤ (x2 + x6) ∧ (x2 + x6) < 1024) ∧ (wp S 132 3 [(0, rf a0), (1, rf a1), (2, iv x2), (3, iv x3), (4, .long u4), (6, iv (x6 + 1))] [] (zwI s a1 (x2 + x6) (zi2b (zi2b (zl2i (zshrL u4 (8 * x6)))))) Q))))))))) :
    wp S 132 3 [(0, rf a0), (1, rf a1), (2, iv x2), (3, iv x3), (4, .long u4), (6, iv x6)] [] s Q := by
  refine i_iload (x := x6) r_132_3 rfl rfl ?_
  refine i_iload_n (x := x3) r_132_5 (n_132_5 _) rfl ?_
  obtain ⟨g1, h⟩ := h
  obtain ⟨g2, h⟩ := h
  refine i_icmp (t := 66) r_132_6 (n_132_6 _) rfl (T_ge g1 g2) (fun c3 => ?_) (fun c3 => ?_)
  · replace h := h.1 c3
    exact i_return r_132_66 (n_132_66 _) rfl h
  · replace h := h.2 c3
    refine i_aload_n (a := a0) r_132_9 (n_132_9 _) rfl ?_
    refine i_getI (a := a0) r_132_10 (n_132_10 _) rfl (by decide) ha0 (fun q4 => ?_)
    refine i_if (t := 23) r_132_13 (n_132_13 _) rfl (T_ne q4 ⟨by omega, by omega⟩) (fun c5 => ?_) (fun c5 => ?_)
    · replace h := h.1 c5
      refine i_iload_n (x := x2) r_132_23 (n_132_23 _) rfl ?_
      refine i_iload_n (x := x3) r_132_24 (n_132_24 _) rfl ?_
      refine i_iadd r_132_25 (n_132_25 _) ?_
      refine i_iconst r_132_26 (n_132_26 _) ?_
      refine i_isub r_132_27 (n_132_27 _) ?_
      refine i_iload (x := x6) r_132_28 (n_132_28 _) rfl ?_
      refine i_isub r_132_30 (n_132_30 _) ?_
      refine i_istore (l' := [(0, rf a0), (1, rf a1), (2, iv x2), (3, iv x3), (4, .long u4), (6, iv x6), (7, iv (((x2 + x3) - 1) - x6))]) r_132_31 (n_132_31 _) (by decide) rfl ?_
      refine i_iload (x := ((x2 + x3) - 1) - x6) r_132_33 (n_132_33 _) rfl ?_
      obtain ⟨g6, h⟩ := h
      refine i_if (t := 60) r_132_35 (n_132_35 _) rfl (T_lt g6 ⟨by omega, by omega⟩) (fun c7 => ?_) (fun c7 => ?_)
      · replace h := h.1 c7
        refine i_iinc (x := x6) (l' := [(0, rf a0), (1, rf a1), (2, iv x2), (3, iv x3), (4, .long u4), (6, iv (x6 + 1)), (7, iv (((x2 + x3) - 1) - x6))]) r_132_60 (n_132_60 _) (by decide) rfl rfl ?_
        refine i_goto (t := 3) r_132_63 (n_132_63 _) rfl ?_
        exact wp_pr (l' := [(0, rf a0), (1, rf a1), (2, iv x2), (3, iv x3), (4, .long u4), (6, iv (x6 + 1))]) rfl h
      · replace h := h.2 c7
        refine i_iload (x := ((x2 + x3) - 1) - x6) r_132_38 (n_132_38 _) rfl ?_
        refine i_sipush r_132_40 (n_132_40 _) rfl ?_
        refine i_icmp (t := 60) r_132_43 (n_132_43 _) rfl (T_ge g6 ⟨by omega, by omega⟩) (fun c8 => ?_) (fun c8 => ?_)
        · replace h := h.1 c8
          refine i_iinc (x := x6) (l' := [(0, rf a0), (1, rf a1), (2, iv x2), (3, iv x3), (4, .long u4), (6, iv (x6 + 1)), (7, iv (((x2 + x3) - 1) - x6))]) r_132_60 (n_132_60 _) (by decide) rfl rfl ?_
          refine i_goto (t := 3) r_132_63 (n_132_63 _) rfl ?_
          exact wp_pr (l' := [(0, rf a0), (1, rf a1), (2, iv x2), (3, iv x3), (4, .long u4), (6, iv (x6 + 1))]) rfl h
        · replace h := h.2 c8
          refine i_aload_n (a := a1) r_132_46 (n_132_46 _) rfl ?_
          refine i_iload (x := ((x2 + x3) - 1) - x6) r_132_47 (n_132_47 _) rfl ?_
          refine i_lload (u := u4) r_132_49 (n_132_49 _) rfl ?_
          refine i_bipush r_132_51 (n_132_51 _) rfl ?_
          refine i_iload (x := x6) r_132_53 (n_132_53 _) rfl ?_
          refine i_imul r_132_55 (n_132_55 _) ?_
          refine i_lshr r_132_56 (n_132_56 _) ?_
          refine i_l2i r_132_57 (n_132_57 _) ?_
          refine i_i2b r_132_58 (n_132_58 _) ?_
          obtain ⟨g9, h⟩ := h
          refine i_bastore (a := a1) (j := ((x2 + x3) - 1) - x6) (x := zi2b (zl2i (zshrL u4 (8 * x6)))) r_132_59 (n_132_59 _) ha1 ⟨by omega, by omega⟩ (by omega) (by omega) ?_
          refine i_iinc (x := x6) (l' := [(0, rf a0), (1, rf a1), (2, iv x2), (3, iv x3), (4, .long u4), (6, iv (x6 + 1)), (7, iv (((x2 + x3) - 1) - x6))]) r_132_60 (n_132_60 _) (by decide) rfl rfl ?_
          refine i_goto (t := 3) r_132_63 (n_132_63 _) rfl ?_
          exact wp_pr (l' := [(0, rf a0), (1, rf a1), (2, iv x2), (3, iv x3), (4, .long u4), (6, iv (x6 + 1))]) rfl h
    · replace h := h.2 c5
      refine i_iload_n (x := x2) r_132_16 (n_132_16 _) rfl ?_
      refine i_iload (x := x6) r_132_17 (n_132_17 _) rfl ?_
      refine i_iadd r_132_19 (n_132_19 _) ?_
      refine i_goto (t := 31) r_132_20 (n_132_20 _) rfl ?_
      refine i_istore (l' := [(0, rf a0), (1, rf a1), (2, iv x2), (3, iv x3), (4, .long u4), (6, iv x6), (7, iv (x2 + x6))]) r_132_31 (n_132_31 _) (by decide) rfl ?_
      refine i_iload (x := x2 + x6) r_132_33 (n_132_33 _) rfl ?_
      obtain ⟨g10, h⟩ := h
      refine i_if (t := 60) r_132_35 (n_132_35 _) rfl (T_lt g10 ⟨by omega, by omega⟩) (fun c11 => ?_) (fun c11 => ?_)
      · replace h := h.1 c11
        refine i_iinc (x := x6) (l' := [(0, rf a0), (1, rf a1), (2, iv x2), (3, iv x3), (4, .long u4), (6, iv (x6 + 1)), (7, iv (x2 + x6))]) r_132_60 (n_132_60 _) (by decide) rfl rfl ?_
        refine i_goto (t := 3) r_132_63 (n_132_63 _) rfl ?_
        exact wp_pr (l' := [(0, rf a0), (1, rf a1), (2, iv x2), (3, iv x3), (4, .long u4), (6, iv (x6 + 1))]) rfl h
      · replace h := h.2 c11
        refine i_iload (x := x2 + x6) r_132_38 (n_132_38 _) rfl ?_
        refine i_sipush r_132_40 (n_132_40 _) rfl ?_
        refine i_icmp (t := 60) r_132_43 (n_132_43 _) rfl (T_ge g10 ⟨by omega, by omega⟩) (fun c12 => ?_) (fun c12 => ?_)
        · replace h := h.1 c12
          refine i_iinc (x := x6) (l' := [(0, rf a0), (1, rf a1), (2, iv x2), (3, iv x3), (4, .long u4), (6, iv (x6 + 1)), (7, iv (x2 + x6))]) r_132_60 (n_132_60 _) (by decide) rfl rfl ?_
          refine i_goto (t := 3) r_132_63 (n_132_63 _) rfl ?_
          exact wp_pr (l' := [(0, rf a0), (1, rf a1), (2, iv x2), (3, iv x3), (4, .long u4), (6, iv (x6 + 1))]) rfl h
        · replace h := h.2 c12
          refine i_aload_n (a := a1) r_132_46 (n_132_46 _) rfl ?_
          refine i_iload (x := x2 + x6) r_132_47 (n_132_47 _) rfl ?_
          refine i_lload (u := u4) r_132_49 (n_132_49 _) rfl ?_
          refine i_bipush r_132_51 (n_132_51 _) rfl ?_
          refine i_iload (x := x6) r_132_53 (n_132_53 _) rfl ?_
          refine i_imul r_132_55 (n_132_55 _) ?_
          refine i_lshr r_132_56 (n_132_56 _) ?_
          refine i_l2i r_132_57 (n_132_57 _) ?_
          refine i_i2b r_132_58 (n_132_58 _) ?_
          obtain ⟨g13, h⟩ := h
          refine i_bastore (a := a1) (j := x2 + x6) (x := zi2b (zl2i (zshrL u4 (8 * x6)))) r_132_59 (n_132_59 _) ha1 ⟨by omega, by omega⟩ (by omega) (by omega) ?_
          refine i_iinc (x := x6) (l' := [(0, rf a0), (1, rf a1), (2, iv x2), (3, iv x3), (4, .long u4), (6, iv (x6 + 1)), (7, iv (x2 + x6))]) r_132_60 (n_132_60 _) (by decide) rfl rfl ?_
          refine i_goto (t := 3) r_132_63 (n_132_63 _) rfl ?_
          exact wp_pr (l' := [(0, rf a0), (1, rf a1), (2, iv x2), (3, iv x3), (4, .long u4), (6, iv (x6 + 1))]) rfl h
theorem r_134_0 : xfetch 134 0 = some (.iload_n 1, 1) := by decide +kernel
theorem n_134_0 : ∀ l, xpr 134 0 l = l := xpr_no (by decide +kernel)
theorem r_134_1 : xfetch 134 1 = some (.invokestatic 311, 3) := by decide +kernel
theorem n_134_1 : ∀ l, xpr 134 1 l = l := xpr_no (by decide +kernel)
theorem r_134_4 : xfetch 134 4 = some (.aload_n 0, 1) := by decide +kernel
theorem n_134_4 : ∀ l, xpr 134 4 l = l := xpr_no (by decide +kernel)
theorem r_134_5 : xfetch 134 5 = some (.getfield 10, 3) := by decide +kernel
theorem n_134_5 : ∀ l, xpr 134 5 l = l := xpr_no (by decide +kernel)
theorem r_134_8 : xfetch 134 8 = some (.getfield 299, 3) := by decide +kernel
theorem n_134_8 : ∀ l, xpr 134 8 l = l := xpr_no (by decide +kernel)
theorem r_134_11 : xfetch 134 11 = some (.iload_n 1, 1) := by decide +kernel
theorem n_134_11 : ∀ l, xpr 134 11 l = l := xpr_no (by decide +kernel)
theorem r_134_12 : xfetch 134 12 = some (.baload, 1) := by decide +kernel
theorem n_134_12 : ∀ l, xpr 134 12 l = l := xpr_no (by decide +kernel)
theorem r_134_13 : xfetch 134 13 = some (.sipush 255, 3) := by decide +kernel
theorem n_134_13 : ∀ l, xpr 134 13 l = l := xpr_no (by decide +kernel)
theorem r_134_16 : xfetch 134 16 = some (.iand, 1) := by decide +kernel
theorem n_134_16 : ∀ l, xpr 134 16 l = l := xpr_no (by decide +kernel)
theorem r_134_17 : xfetch 134 17 = some (.ireturn, 1) := by decide +kernel
theorem n_134_17 : ∀ l, xpr 134 17 l = l := xpr_no (by decide +kernel)
theorem v_RL_memory_0 {S : Option (Nat × (Nat → Int32))} {s : zSt} {Q : Option Value ⊕ Nat → zSt → Prop} {x1 : Int} 
    (h : rng x1 ∧ ((0 ≤ x1 ∧ x1 < 1024 → (0 ≤ x1 ∧ x1 < 1024) ∧ (Q (rI (zand (zI s 6 x1) 255)) s)) ∧ ((¬ (0 ≤ x1 ∧ x1 < 1024) → Q (rT 2) (zbump s))))) :
    wp S 134 0 [(0, rf 2), (1, iv x1)] [] s Q := by
  refine i_iload_n (x := x1) r_134_0 (n_134_0 _) rfl ?_
  obtain ⟨g1, h⟩ := h
  refine wp_stat (rest := []) (Ls := [(0, iv x1)]) r_134_1 (n_134_1 _) rfl ⟨rfl, by decide, by decide, by decide⟩ rfl rfl ⟨rfl, Nat.le_of_ble_eq_true rfl, Nat.le_of_ble_eq_true rfl⟩ rfl (K_RL_checkAddress g1) ?_
  rintro _ _ (⟨c2, rfl, rfl⟩ | ⟨c2, rfl, rfl⟩)
  · replace h := h.1 c2
    refine .inl ⟨none, rfl, ?_⟩
    show wp S 134 4 [(0, rf 2), (1, iv x1)] [] s Q
    refine i_aload_n (a := 2) r_134_4 (n_134_4 _) rfl ?_
    refine i_getR (a := 2) (b := 3) r_134_5 (n_134_5 _) rfl rfl rfl (by omega) lf_2 (by omega) ?_
    refine i_getR (a := 3) (b := 6) r_134_8 (n_134_8 _) rfl rfl rfl (by omega) lf_3 (by omega) ?_
    refine i_iload_n (x := x1) r_134_11 (n_134_11 _) rfl ?_
    obtain ⟨g3, h⟩ := h
    refine i_baload (a := 6) (j := x1) r_134_12 (n_134_12 _) lf_6 ⟨by omega, by omega⟩ (by omega) (by omega) (fun q4 => ?_)
    refine i_sipush r_134_13 (n_134_13 _) rfl ?_
    refine i_iand r_134_16 (n_134_16 _) ?_
    exact i_ireturn r_134_17 (n_134_17 _) rfl h
  · replace h := h.2 c2
    exact .inr ⟨_, rfl, rfl, .inl ⟨rfl, h⟩⟩
theorem r_137_0 : xfetch 137 0 = some (.iload_n 1, 1) := by decide +kernel
theorem n_137_0 : ∀ l, xpr 137 0 l = l := xpr_no (by decide +kernel)
theorem r_137_1 : xfetch 137 1 = some (.invokestatic 311, 3) := by decide +kernel
theorem n_137_1 : ∀ l, xpr 137 1 l = l := xpr_no (by decide +kernel)
theorem r_137_4 : xfetch 137 4 = some (.iload_n 2, 1) := by decide +kernel
theorem n_137_4 : ∀ l, xpr 137 4 l = l := xpr_no (by decide +kernel)
theorem r_137_5 : xfetch 137 5 = some (.ifCond .lt 10, 3) := by decide +kernel
theorem n_137_5 : ∀ l, xpr 137 5 l = l := xpr_no (by decide +kernel)
theorem r_137_8 : xfetch 137 8 = some (.iload_n 2, 1) := by decide +kernel
theorem n_137_8 : ∀ l, xpr 137 8 l = l := xpr_no (by decide +kernel)
theorem r_137_9 : xfetch 137 9 = some (.sipush 255, 3) := by decide +kernel
theorem n_137_9 : ∀ l, xpr 137 9 l = l := xpr_no (by decide +kernel)
theorem r_137_12 : xfetch 137 12 = some (.if_icmp .le 14, 3) := by decide +kernel
theorem n_137_12 : ∀ l, xpr 137 12 l = l := xpr_no (by decide +kernel)
theorem r_137_15 : xfetch 137 15 = some (.new 102, 3) := by decide +kernel
theorem n_137_15 : ∀ l, xpr 137 15 l = l := xpr_no (by decide +kernel)
theorem r_137_26 : xfetch 137 26 = some (.aload_n 0, 1) := by decide +kernel
theorem n_137_26 : ∀ l, xpr 137 26 l = l := xpr_no (by decide +kernel)
theorem r_137_27 : xfetch 137 27 = some (.invokevirtual 77, 3) := by decide +kernel
theorem n_137_27 : ∀ l, xpr 137 27 l = l := xpr_no (by decide +kernel)
theorem r_137_30 : xfetch 137 30 = some (.aload_n 0, 1) := by decide +kernel
theorem n_137_30 : ∀ l, xpr 137 30 l = l := xpr_no (by decide +kernel)
theorem r_137_31 : xfetch 137 31 = some (.getfield 10, 3) := by decide +kernel
theorem n_137_31 : ∀ l, xpr 137 31 l = l := xpr_no (by decide +kernel)
theorem r_137_34 : xfetch 137 34 = some (.getfield 299, 3) := by decide +kernel
theorem n_137_34 : ∀ l, xpr 137 34 l = l := xpr_no (by decide +kernel)
theorem r_137_37 : xfetch 137 37 = some (.iload_n 1, 1) := by decide +kernel
theorem n_137_37 : ∀ l, xpr 137 37 l = l := xpr_no (by decide +kernel)
theorem r_137_38 : xfetch 137 38 = some (.baload, 1) := by decide +kernel
theorem n_137_38 : ∀ l, xpr 137 38 l = l := xpr_no (by decide +kernel)
theorem r_137_39 : xfetch 137 39 = some (.sipush 255, 3) := by decide +kernel
theorem n_137_39 : ∀ l, xpr 137 39 l = l := xpr_no (by decide +kernel)
theorem r_137_42 : xfetch 137 42 = some (.iand, 1) := by decide +kernel
theorem n_137_42 : ∀ l, xpr 137 42 l = l := xpr_no (by decide +kernel)
theorem r_137_43 : xfetch 137 43 = some (.istore_n 3, 1) := by decide +kernel
theorem n_137_43 : ∀ l, xpr 137 43 l = l := xpr_no (by decide +kernel)
theorem r_137_44 : xfetch 137 44 = some (.aload_n 0, 1) := by decide +kernel
theorem n_137_44 : ∀ l, xpr 137 44 l = l := xpr_no (by decide +kernel)
theorem r_137_45 : xfetch 137 45 = some (.getfield 10, 3) := by decide +kernel
theorem n_137_45 : ∀ l, xpr 137 45 l = l := xpr_no (by decide +kernel)
theorem r_137_48 : xfetch 137 48 = some (.getfield 299, 3) := by decide +kernel
theorem n_137_48 : ∀ l, xpr 137 48 l = l := xpr_no (by decide +kernel)
theorem r_137_51 : xfetch 137 51 = some (.iload_n 1, 1) := by decide +kernel
theorem n_137_51 : ∀ l, xpr 137 51 l = l := xpr_no (by decide +kernel)
theorem r_137_52 : xfetch 137 52 = some (.iload_n 2, 1) := by decide +kernel
theorem n_137_52 : ∀ l, xpr 137 52 l = l := xpr_no (by decide +kernel)
theorem r_137_53 : xfetch 137 53 = some (.i2b, 1) := by decide +kernel
theorem n_137_53 : ∀ l, xpr 137 53 l = l := xpr_no (by decide +kernel)
theorem r_137_54 : xfetch 137 54 = some (.bastore, 1) := by decide +kernel
theorem n_137_54 : ∀ l, xpr 137 54 l = l := xpr_no (by decide +kernel)
theorem r_137_55 : xfetch 137 55 = some (.iload_n 3, 1) := by decide +kernel
theorem n_137_55 : ∀ l, xpr 137 55 l = l := xpr_no (by decide +kernel)
theorem r_137_56 : xfetch 137 56 = some (.ireturn, 1) := by decide +kernel
theorem n_137_56 : ∀ l, xpr 137 56 l = l := xpr_no (by decide +kernel)
theorem v_RL_poke_0 {S : Option (Nat × (Nat → Int32))} {s : zSt} {Q : Option Value ⊕ Nat → zSt → Prop} {x1 : Int} {x2 : Int} 
    (h : rng x1 ∧ ((0 ≤ x1 ∧ x1 < 1024 → rng x2 ∧ ((x2 < 0 → Q (rT 0) (zbump s)) ∧ (0 ≤ x2 → (x2 ≤ 255 → wp S 18 0 [(0, rf 2)] [] s (fun o6 s6 => zkU ((0 ≤ x1 ∧ x1 < 1024) ∧ (Q (rI (zand (zI s6 6 x1) 255)) (zwI s6 6 x1 (zi2b (zi2b x2))))) (fun e6 => False) o6)) ∧ (255 < x2 → Q (rT 0) (zbump s))))) ∧ ((¬ (0 ≤ x1 ∧ x1 < 1024) → Q (rT 2) (zbump s))))) :
    wp S 137 0 [(0, rf 2), (1, iv x1), (2, iv x2)] [] s Q := by
  refine i_iload_n (x := x1) r_137_0 (n_137_0 _) rfl ?_
  obtain ⟨g1, h⟩ := h
  refine wp_stat (rest := []) (Ls := [(0, iv x1)]) r_137_1 (n_137_1 _) rfl ⟨rfl, by decide, by decide, by decide⟩ rfl rfl ⟨rfl, Nat.le_of_ble_eq_true rfl, Nat.le_of_ble_eq_true rfl⟩ rfl (K_RL_checkAddress g1) ?_
  rintro _ _ (⟨c2, rfl, rfl⟩ | ⟨c2, rfl, rfl⟩)
  · replace h := h.1 c2
    refine .inl ⟨none, rfl, ?_⟩
    show wp S 137 4 [(0, rf 2), (1, iv x1), (2, iv x2)] [] s Q
    refine i_iload_n (x := x2) r_137_4 (n_137_4 _) rfl ?_
    obtain ⟨g3, h⟩ := h
    refine i_if (t := 15) r_137_5 (n_137_5 _) rfl (T_lt g3 ⟨by omega, by omega⟩) (fun c4 => ?_) (fun c4 => ?_)
    · replace h := h.1 c4
      exact i_throw r_137_15 (n_137_15 _) rfl (by decide) h
    · replace h := h.2 c4
      refine i_iload_n (x := x2) r_137_8 (n_137_8 _) rfl ?_
      refine i_sipush r_137_9 (n_137_9 _) rfl ?_
      refine i_icmp (t := 26) r_137_12 (n_137_12 _) rfl (T_le g3 ⟨by omega, by omega⟩) (fun c5 => ?_) (fun c5 => ?_)
      · replace h := h.1 c5
        refine i_aload_n (a := 2) r_137_26 (n_137_26 _) rfl ?_
        refine wp_virt (b := 2) (rest := []) (Ls := [(0, rf 2)]) r_137_27 (n_137_27 _) rfl ⟨rfl, rfl, by decide, by decide⟩ rfl rfl lf_2 ⟨rfl, Nat.le_of_ble_eq_true rfl, Nat.le_of_ble_eq_true rfl⟩ rfl h ?_
        intro o6 s6 h
        rcases h with ⟨rfl, h⟩ | ⟨e6, rfl, h⟩
        · refine .inl ⟨none, rfl, ?_⟩
          refine i_aload_n (a := 2) r_137_30 (n_137_30 _) rfl ?_
          refine i_getR (a := 2) (b := 3) r_137_31 (n_137_31 _) rfl rfl rfl (by omega) lf_2 (by omega) ?_
          refine i_getR (a := 3) (b := 6) r_137_34 (n_137_34 _) rfl rfl rfl (by omega) lf_3 (by omega) ?_
          refine i_iload_n (x := x1) r_137_37 (n_137_37 _) rfl ?_
          obtain ⟨g8, h⟩ := h
          refine i_baload (a := 6) (j := x1) r_137_38 (n_137_38 _) lf_6 ⟨by omega, by omega⟩ (by omega) (by omega) (fun q9 => ?_)
          refine i_sipush r_137_39 (n_137_39 _) rfl ?_
          refine i_iand r_137_42 (n_137_42 _) ?_
          refine i_istore_n (l' := [(0, rf 2), (1, iv x1), (2, iv x2), (3, iv (zand (zI s6 6 x1) 255))]) r_137_43 (n_137_43 _) (by decide) rfl ?_
          refine i_aload_n (a := 2) r_137_44 (n_137_44 _) rfl ?_
          refine i_getR (a := 2) (b := 3) r_137_45 (n_137_45 _) rfl rfl rfl (by omega) lf_2 (by omega) ?_
          refine i_getR (a := 3) (b := 6) r_137_48 (n_137_48 _) rfl rfl rfl (by omega) lf_3 (by omega) ?_
          refine i_iload_n (x := x1) r_137_51 (n_137_51 _) rfl ?_
          refine i_iload_n (x := x2) r_137_52 (n_137_52 _) rfl ?_
          refine i_i2b r_137_53 (n_137_53 _) ?_
          refine i_bastore (a := 6) (j := x1) (x := zi2b x2) r_137_54 (n_137_54 _) lf_6 ⟨by omega, by omega⟩ (by omega) (by omega) ?_
          refine i_iload_n (x := zand (zI s6 6 x1) 255) r_137_55 (n_137_55 _) rfl ?_
          exact i_ireturn r_137_56 (n_137_56 _) rfl h
        · skip
          exact h.elim
      · replace h := h.2 c5
        exact i_throw r_137_15 (n_137_15 _) rfl (by decide) h
  · replace h := h.2 c2
    exact .inr ⟨_, rfl, rfl, .inl ⟨rfl, h⟩⟩
theorem r_139_0 : xfetch 139 0 = some (.aload_n 0, 1) := by decide +kernel
theorem n_139_0 : ∀ l, xpr 139 0 l = l := xpr_no (by decide +kernel)
theorem r_139_1 : xfetch 139 1 = some (.iload_n 1, 1) := by decide +kernel
theorem n_139_1 : ∀ l, xpr 139 1 l = l := xpr_no (by decide +kernel)
theorem r_139_2 : xfetch 139 2 = some (.invokevirtual 284, 3) := by decide +kernel
theorem n_139_2 : ∀ l, xpr 139 2 l = l := xpr_no (by decide +kernel)
theorem r_139_5 : xfetch 139 5 = some (.iload_n 2, 1) := by decide +kernel
theorem n_139_5 : ∀ l, xpr 139 5 l = l := xpr_no (by decide +kernel)
theorem r_139_6 : xfetch 139 6 = some (.invokestatic 229, 3) := by decide +kernel
theorem n_139_6 : ∀ l, xpr 139 6 l = l := xpr_no (by decide +kernel)
theorem r_139_9 : xfetch 139 9 = some (.iload_n 3, 1) := by decide +kernel
theorem n_139_9 : ∀ l, xpr 139 9 l = l := xpr_no (by decide +kernel)
theorem r_139_10 : xfetch 139 10 = some (.invokestatic 232, 3) := by decide +kernel
theorem n_139_10 : ∀ l, xpr 139 10 l = l := xpr_no (by decide +kernel)
theorem r_139_13 : xfetch 139 13 = some (.aload_n 0, 1) := by decide +kernel
theorem n_139_13 : ∀ l, xpr 139 13 l = l := xpr_no (by decide +kernel)
theorem r_139_14 : xfetch 139 14 = some (.iload_n 1, 1) := by decide +kernel
theorem n_139_14 : ∀ l, xpr 139 14 l = l := xpr_no (by decide +kernel)
theorem r_139_15 : xfetch 139 15 = some (.aload_n 0, 1) := by decide +kernel
theorem n_139_15 : ∀ l, xpr 139 15 l = l := xpr_no (by decide +kernel)
theorem r_139_16 : xfetch 139 16 = some (.getfield 10, 3) := by decide +kernel
theorem n_139_16 : ∀ l, xpr 139 16 l = l := xpr_no (by decide +kernel)
theorem r_139_19 : xfetch 139 19 = some (.getfield 256, 3) := by decide +kernel
theorem n_139_19 : ∀ l, xpr 139 19 l = l := xpr_no (by decide +kernel)
theorem r_139_22 : xfetch 139 22 = some (.iload_n 1, 1) := by decide +kernel
theorem n_139_22 : ∀ l, xpr 139 22 l = l := xpr_no (by decide +kernel)
theorem r_139_23 : xfetch 139 23 = some (.aaload, 1) := by decide +kernel
theorem n_139_23 : ∀ l, xpr 139 23 l = l := xpr_no (by decide +kernel)
theorem r_139_24 : xfetch 139 24 = some (.getfield 266, 3) := by decide +kernel
theorem n_139_24 : ∀ l, xpr 139 24 l = l := xpr_no (by decide +kernel)
theorem r_139_27 : xfetch 139 27 = some (.iload_n 2, 1) := by decide +kernel
theorem n_139_27 : ∀ l, xpr 139 27 l = l := xpr_no (by decide +kernel)
theorem r_139_28 : xfetch 139 28 = some (.iload_n 3, 1) := by decide +kernel
theorem n_139_28 : ∀ l, xpr 139 28 l = l := xpr_no (by decide +kernel)
theorem r_139_29 : xfetch 139 29 = some (.invokevirtual 324, 3) := by decide +kernel
theorem n_139_29 : ∀ l, xpr 139 29 l = l := xpr_no (by decide +kernel)
theorem r_139_32 : xfetch 139 32 = some (.pop, 1) := by decide +kernel
theorem n_139_32 : ∀ l, xpr 139 32 l = l := xpr_no (by decide +kernel)
theorem r_139_33 : xfetch 139 33 = some (.aload_n 0, 1) := by decide +kernel
theorem n_139_33 : ∀ l, xpr 139 33 l = l := xpr_no (by decide +kernel)
theorem r_139_34 : xfetch 139 34 = some (.getfield 10, 3) := by decide +kernel
theorem n_139_34 : ∀ l, xpr 139 34 l = l := xpr_no (by decide +kernel)
theorem r_139_37 : xfetch 139 37 = some (.getfield 256, 3) := by decide +kernel
theorem n_139_37 : ∀ l, xpr 139 37 l = l := xpr_no (by decide +kernel)
theorem r_139_40 : xfetch 139 40 = some (.iload_n 1, 1) := by decide +kernel
theorem n_139_40 : ∀ l, xpr 139 40 l = l := xpr_no (by decide +kernel)
theorem r_139_41 : xfetch 139 41 = some (.aaload, 1) := by decide +kernel
theorem n_139_41 : ∀ l, xpr 139 41 l = l := xpr_no (by decide +kernel)
theorem r_139_42 : xfetch 139 42 = some (.getfield 277, 3) := by decide +kernel
theorem n_139_42 : ∀ l, xpr 139 42 l = l := xpr_no (by decide +kernel)
theorem r_139_45 : xfetch 139 45 = some (.ireturn, 1) := by decide +kernel
theorem n_139_45 : ∀ l, xpr 139 45 l = l := xpr_no (by decide +kernel)
theorem v_RL_convert_0 {S : Option (Nat × (Nat → Int32))} {s : zSt} {Q : Option Value ⊕ Nat → zSt → Prop} {x1 : Int} {x2 : Int} {x3 : Int} 
    (h : rng x1 ∧ ((0 ≤ x1 ∧ x1 < 3 ∧ zI s (31 + x1) 0 ≠ 0 → rng x2 ∧ ((0 ≤ x2 ∧ x2 ≤ 8 → rng x3 ∧ ((0 ≤ x3 ∧ x3 ≤ 1 → (0 ≤ x1 ∧ x1 < 3) ∧ (wp S 140 0 [(0, rf 2), (1, iv x1), (2, iv (zI s (31 + x1) 1)), (3, iv x2), (4, iv x3)] [] s (fun o10 s10 => zkI (fun y10 => Q (rI (zI s10 (31 + x1) 5)) s10) (fun e10 => Q (rT e10) s10) o10))) ∧ ((¬ (0 ≤ x3 ∧ x3 ≤ 1) → Q (rT 0) (zbump s))))) ∧ ((¬ (0 ≤ x2 ∧ x2 ≤ 8) → Q (rT 0) (zbump s))))) ∧ ((¬ (0 ≤ x1 ∧ x1 < 3 ∧ zI s (31 + x1) 0 ≠ 0) → Q (rT 2) (zbump s))))) :
    wp S 139 0 [(0, rf 2), (1, iv x1), (2, iv x2), (3, iv x3)] [] s Q := by
  refine i_aload_n (a := 2) r_139_0 (n_139_0 _) rfl ?_
  refine i_iload_n (x := x1) r_139_1 (n_139_1 _) rfl ?_
  obtain ⟨g1, h⟩ := h
  refine wp_virt (b := 2) (rest := []) (Ls := [(0, rf 2), (1, iv x1)]) r_139_2 (n_139_2 _) rfl ⟨rfl, rfl, by decide, by decide⟩ rfl rfl lf_2 ⟨rfl, Nat.le_of_ble_eq_true rfl, Nat.le_of_ble_eq_true rfl⟩ rfl (K_RL_checkTable g1) ?_
  rintro _ _ (⟨c2, rfl, rfl⟩ | ⟨c2, rfl, rfl⟩)
  · replace h := h.1 c2
    refine .inl ⟨none, rfl, ?_⟩
    show wp S 139 5 [(0, rf 2), (1, iv x1), (2, iv x2), (3, iv x3)] [] s Q
    refine i_iload_n (x := x2) r_139_5 (n_139_5 _) rfl ?_
    obtain ⟨g3, h⟩ := h
    refine wp_stat (rest := []) (Ls := [(0, iv x2)]) r_139_6 (n_139_6 _) rfl ⟨rfl, by decide, by decide, by decide⟩ rfl rfl ⟨rfl, Nat.le_of_ble_eq_true rfl, Nat.le_of_ble_eq_true rfl⟩ rfl (K_RL_checkLayout g3) ?_
    rintro _ _ (⟨c4, rfl, rfl⟩ | ⟨c4, rfl, rfl⟩)
    · replace h := h.1 c4
      refine .inl ⟨none, rfl, ?_⟩
      show wp S 139 9 [(0, rf 2), (1, iv x1), (2, iv x2), (3, iv x3)] [] s Q
      refine i_iload_n (x := x3) r_139_9 (n_139_9 _) rfl ?_
      obtain ⟨g5, h⟩ := h
      refine wp_stat (rest := []) (Ls := [(0, iv x3)]) r_139_10 (n_139_10 _) rfl ⟨rfl, by decide, by decide, by decide⟩ rfl rfl ⟨rfl, Nat.le_of_ble_eq_true rfl, Nat.le_of_ble_eq_true rfl⟩ rfl (K_RL_checkOrder g5) ?_
      rintro _ _ (⟨c6, rfl, rfl⟩ | ⟨c6, rfl, rfl⟩)
      · replace h := h.1 c6
        refine .inl ⟨none, rfl, ?_⟩
        show wp S 139 13 [(0, rf 2), (1, iv x1), (2, iv x2), (3, iv x3)] [] s Q
        refine i_aload_n (a := 2) r_139_13 (n_139_13 _) rfl ?_
        refine i_iload_n (x := x1) r_139_14 (n_139_14 _) rfl ?_
        refine i_aload_n (a := 2) r_139_15 (n_139_15 _) rfl ?_
        refine i_getR (a := 2) (b := 3) r_139_16 (n_139_16 _) rfl rfl rfl (by omega) lf_2 (by omega) ?_
        refine i_getR (a := 3) (b := 5) r_139_19 (n_139_19 _) rfl rfl rfl (by omega) lf_3 (by omega) ?_
        refine i_iload_n (x := x1) r_139_22 (n_139_22 _) rfl ?_
        obtain ⟨g7, h⟩ := h
        refine i_aaload (c := 6) (a := 5) (j := x1) (b := 31 + x1) r_139_23 (n_139_23 _) lf_5 ⟨by omega, by omega⟩ (by omega) (by omega) rfl (by omega) ?_
        have t8 := e_6 (j := x1) lf_5 (by omega) (by omega)
        rw [show 5 + 26 + 1 * x1 = 31 + x1 by omega] at t8
        refine i_getI (a := 31 + x1) r_139_24 (n_139_24 _) rfl (by decide) t8 (fun q9 => ?_)
        refine i_iload_n (x := x2) r_139_27 (n_139_27 _) rfl ?_
        refine i_iload_n (x := x3) r_139_28 (n_139_28 _) rfl ?_
        refine wp_virt (b := 2) (rest := []) (Ls := [(0, rf 2), (1, iv x1), (2, iv (zI s (31 + x1) 1)), (3, iv x2), (4, iv x3)]) r_139_29 (n_139_29 _) rfl ⟨rfl, rfl, by decide, by decide⟩ rfl rfl lf_2 ⟨rfl, Nat.le_of_ble_eq_true rfl, Nat.le_of_ble_eq_true rfl⟩ rfl h ?_
        intro o10 s10 h
        rcases h with ⟨y10, q11, rfl, h⟩ | ⟨e10, rfl, h⟩
        · refine .inl ⟨some (iv y10), rfl, ?_⟩
          show wp S 139 32 [(0, rf 2), (1, iv x1), (2, iv x2), (3, iv x3)] [iv y10] s10 Q
          refine i_pop r_139_32 (n_139_32 _) rfl ?_
          refine i_aload_n (a := 2) r_139_33 (n_139_33 _) rfl ?_
          refine i_getR (a := 2) (b := 3) r_139_34 (n_139_34 _) rfl rfl rfl (by omega) lf_2 (by omega) ?_
          refine i_getR (a := 3) (b := 5) r_139_37 (n_139_37 _) rfl rfl rfl (by omega) lf_3 (by omega) ?_
          refine i_iload_n (x := x1) r_139_40 (n_139_40 _) rfl ?_
          refine i_aaload (c := 6) (a := 5) (j := x1) (b := 31 + x1) r_139_41 (n_139_41 _) lf_5 ⟨by omega, by omega⟩ (by omega) (by omega) rfl (by omega) ?_
          have t12 := e_6 (j := x1) lf_5 (by omega) (by omega)
          rw [show 5 + 26 + 1 * x1 = 31 + x1 by omega] at t12
          refine i_getI (a := 31 + x1) r_139_42 (n_139_42 _) rfl (by decide) t12 (fun q13 => ?_)
          exact i_ireturn r_139_45 (n_139_45 _) rfl h
        · skip
          exact .inr ⟨e10, rfl, .inl ⟨rfl, h⟩⟩
      · replace h := h.2 c6
        exact .inr ⟨_, rfl, rfl, .inl ⟨rfl, h⟩⟩
    · replace h := h.2 c4
      exact .inr ⟨_, rfl, rfl, .inl ⟨rfl, h⟩⟩
  · replace h := h.2 c2
    exact .inr ⟨_, rfl, .inl ⟨rfl, h⟩⟩
theorem r_140_0 : xfetch 140 0 = some (.aload_n 0, 1) := by decide +kernel
theorem n_140_0 : ∀ l, xpr 140 0 l = l := xpr_no (by decide +kernel)
theorem r_140_1 : xfetch 140 1 = some (.getfield 10, 3) := by decide +kernel
theorem n_140_1 : ∀ l, xpr 140 1 l = l := xpr_no (by decide +kernel)
theorem r_140_4 : xfetch 140 4 = some (.getfield 256, 3) := by decide +kernel
theorem n_140_4 : ∀ l, xpr 140 4 l = l := xpr_no (by decide +kernel)
theorem r_140_7 : xfetch 140 7 = some (.iload_n 1, 1) := by decide +kernel
theorem n_140_7 : ∀ l, xpr 140 7 l = l := xpr_no (by decide +kernel)
theorem r_140_8 : xfetch 140 8 = some (.aaload, 1) := by decide +kernel
theorem n_140_8 : ∀ l, xpr 140 8 l = l := xpr_no (by decide +kernel)
theorem r_140_9 : xfetch 140 9 = some (.astore 5, 2) := by decide +kernel
theorem n_140_9 : ∀ l, xpr 140 9 l = l := xpr_no (by decide +kernel)
theorem r_140_11 : xfetch 140 11 = some (.aload_n 0, 1) := by decide +kernel
theorem n_140_11 : ∀ l, xpr 140 11 l = l := xpr_no (by decide +kernel)
theorem r_140_12 : xfetch 140 12 = some (.iload_n 1, 1) := by decide +kernel
theorem n_140_12 : ∀ l, xpr 140 12 l = l := xpr_no (by decide +kernel)
theorem r_140_13 : xfetch 140 13 = some (.invokevirtual 293, 3) := by decide +kernel
theorem n_140_13 : ∀ l, xpr 140 13 l = l := xpr_no (by decide +kernel)
theorem r_140_16 : xfetch 140 16 = some (.aload_n 0, 1) := by decide +kernel
theorem n_140_16 : ∀ l, xpr 140 16 l = l := xpr_no (by decide +kernel)
theorem r_140_17 : xfetch 140 17 = some (.getfield 51, 3) := by decide +kernel
theorem n_140_17 : ∀ l, xpr 140 17 l = l := xpr_no (by decide +kernel)
theorem r_140_20 : xfetch 140 20 = some (.aload_n 0, 1) := by decide +kernel
theorem n_140_20 : ∀ l, xpr 140 20 l = l := xpr_no (by decide +kernel)
theorem r_140_21 : xfetch 140 21 = some (.getfield 18, 3) := by decide +kernel
theorem n_140_21 : ∀ l, xpr 140 21 l = l := xpr_no (by decide +kernel)
theorem r_140_24 : xfetch 140 24 = some (.iload_n 2, 1) := by decide +kernel
theorem n_140_24 : ∀ l, xpr 140 24 l = l := xpr_no (by decide +kernel)
theorem r_140_25 : xfetch 140 25 = some (.aaload, 1) := by decide +kernel
theorem n_140_25 : ∀ l, xpr 140 25 l = l := xpr_no (by decide +kernel)
theorem r_140_26 : xfetch 140 26 = some (.aload 5, 2) := by decide +kernel
theorem n_140_26 : ∀ l, xpr 140 26 l = l := xpr_no (by decide +kernel)
theorem r_140_28 : xfetch 140 28 = some (.getfield 269, 3) := by decide +kernel
theorem n_140_28 : ∀ l, xpr 140 28 l = l := xpr_no (by decide +kernel)
theorem r_140_31 : xfetch 140 31 = some (.iload_n 3, 1) := by decide +kernel
theorem n_140_31 : ∀ l, xpr 140 31 l = l := xpr_no (by decide +kernel)
theorem r_140_32 : xfetch 140 32 = some (.invokevirtual 244, 3) := by decide +kernel
theorem n_140_32 : ∀ l, xpr 140 32 l = l := xpr_no (by decide +kernel)
theorem r_140_35 : xfetch 140 35 = some (.aload_n 0, 1) := by decide +kernel
theorem n_140_35 : ∀ l, xpr 140 35 l = l := xpr_no (by decide +kernel)
theorem r_140_36 : xfetch 140 36 = some (.aload_n 0, 1) := by decide +kernel
theorem n_140_36 : ∀ l, xpr 140 36 l = l := xpr_no (by decide +kernel)
theorem r_140_37 : xfetch 140 37 = some (.getfield 51, 3) := by decide +kernel
theorem n_140_37 : ∀ l, xpr 140 37 l = l := xpr_no (by decide +kernel)
theorem r_140_40 : xfetch 140 40 = some (.getfield 248, 3) := by decide +kernel
theorem n_140_40 : ∀ l, xpr 140 40 l = l := xpr_no (by decide +kernel)
theorem r_140_43 : xfetch 140 43 = some (.invokevirtual 251, 3) := by decide +kernel
theorem n_140_43 : ∀ l, xpr 140 43 l = l := xpr_no (by decide +kernel)
theorem r_140_46 : xfetch 140 46 = some (.istore 6, 2) := by decide +kernel
theorem n_140_46 : ∀ l, xpr 140 46 l = l := xpr_no (by decide +kernel)
theorem r_140_48 : xfetch 140 48 = some (.iload 6, 2) := by decide +kernel
theorem n_140_48 : ∀ l, xpr 140 48 l = l := xpr_no (by decide +kernel)
theorem r_140_50 : xfetch 140 50 = some (.iconst (-1), 1) := by decide +kernel
theorem n_140_50 : ∀ l, xpr 140 50 l = l := xpr_no (by decide +kernel)
theorem r_140_51 : xfetch 140 51 = some (.if_icmp .ne 13, 3) := by decide +kernel
theorem n_140_51 : ∀ l, xpr 140 51 l = l := xpr_no (by decide +kernel)
theorem r_140_54 : xfetch 140 54 = some (.new 137, 3) := by decide +kernel
theorem n_140_54 : ∀ l, xpr 140 54 l = l := xpr_no (by decide +kernel)
theorem r_140_64 : xfetch 140 64 = some (.aload_n 0, 1) := by decide +kernel
theorem n_140_64 : ∀ l, xpr 140 64 l = l := xpr_no (by decide +kernel)
theorem r_140_65 : xfetch 140 65 = some (.invokevirtual 77, 3) := by decide +kernel
theorem n_140_65 : ∀ l, xpr 140 65 l = l := xpr_no (by decide +kernel)
theorem r_140_68 : xfetch 140 68 = some (.aload_n 0, 1) := by decide +kernel
theorem n_140_68 : ∀ l, xpr 140 68 l = l := xpr_no (by decide +kernel)
theorem r_140_69 : xfetch 140 69 = some (.getfield 51, 3) := by decide +kernel
theorem n_140_69 : ∀ l, xpr 140 69 l = l := xpr_no (by decide +kernel)
theorem r_140_72 : xfetch 140 72 = some (.iload 6, 2) := by decide +kernel
theorem n_140_72 : ∀ l, xpr 140 72 l = l := xpr_no (by decide +kernel)
theorem r_140_74 : xfetch 140 74 = some (.iload 4, 2) := by decide +kernel
theorem n_140_74 : ∀ l, xpr 140 74 l = l := xpr_no (by decide +kernel)
theorem r_140_76 : xfetch 140 76 = some (.invokevirtual 371, 3) := by decide +kernel
theorem n_140_76 : ∀ l, xpr 140 76 l = l := xpr_no (by decide +kernel)
theorem r_140_79 : xfetch 140 79 = some (.aload_n 0, 1) := by decide +kernel
theorem n_140_79 : ∀ l, xpr 140 79 l = l := xpr_no (by decide +kernel)
theorem r_140_80 : xfetch 140 80 = some (.iload 6, 2) := by decide +kernel
theorem n_140_80 : ∀ l, xpr 140 80 l = l := xpr_no (by decide +kernel)
theorem r_140_82 : xfetch 140 82 = some (.aload_n 0, 1) := by decide +kernel
theorem n_140_82 : ∀ l, xpr 140 82 l = l := xpr_no (by decide +kernel)
theorem r_140_83 : xfetch 140 83 = some (.getfield 51, 3) := by decide +kernel
theorem n_140_83 : ∀ l, xpr 140 83 l = l := xpr_no (by decide +kernel)
theorem r_140_86 : xfetch 140 86 = some (.getfield 248, 3) := by decide +kernel
theorem n_140_86 : ∀ l, xpr 140 86 l = l := xpr_no (by decide +kernel)
theorem r_140_89 : xfetch 140 89 = some (.invokevirtual 281, 3) := by decide +kernel
theorem n_140_89 : ∀ l, xpr 140 89 l = l := xpr_no (by decide +kernel)
theorem r_140_92 : xfetch 140 92 = some (.aload_n 0, 1) := by decide +kernel
theorem n_140_92 : ∀ l, xpr 140 92 l = l := xpr_no (by decide +kernel)
theorem r_140_93 : xfetch 140 93 = some (.aload_n 0, 1) := by decide +kernel
theorem n_140_93 : ∀ l, xpr 140 93 l = l := xpr_no (by decide +kernel)
theorem r_140_94 : xfetch 140 94 = some (.getfield 18, 3) := by decide +kernel
theorem n_140_94 : ∀ l, xpr 140 94 l = l := xpr_no (by decide +kernel)
theorem r_140_97 : xfetch 140 97 = some (.aload 5, 2) := by decide +kernel
theorem n_140_97 : ∀ l, xpr 140 97 l = l := xpr_no (by decide +kernel)
theorem r_140_99 : xfetch 140 99 = some (.getfield 266, 3) := by decide +kernel
theorem n_140_99 : ∀ l, xpr 140 99 l = l := xpr_no (by decide +kernel)
theorem r_140_102 : xfetch 140 102 = some (.aaload, 1) := by decide +kernel
theorem n_140_102 : ∀ l, xpr 140 102 l = l := xpr_no (by decide +kernel)
theorem r_140_103 : xfetch 140 103 = some (.getfield 120, 3) := by decide +kernel
theorem n_140_103 : ∀ l, xpr 140 103 l = l := xpr_no (by decide +kernel)
theorem r_140_106 : xfetch 140 106 = some (.aload_n 0, 1) := by decide +kernel
theorem n_140_106 : ∀ l, xpr 140 106 l = l := xpr_no (by decide +kernel)
theorem r_140_107 : xfetch 140 107 = some (.getfield 18, 3) := by decide +kernel
theorem n_140_107 : ∀ l, xpr 140 107 l = l := xpr_no (by decide +kernel)
theorem r_140_110 : xfetch 140 110 = some (.iload_n 2, 1) := by decide +kernel
theorem n_140_110 : ∀ l, xpr 140 110 l = l := xpr_no (by decide +kernel)
theorem r_140_111 : xfetch 140 111 = some (.aaload, 1) := by decide +kernel
theorem n_140_111 : ∀ l, xpr 140 111 l = l := xpr_no (by decide +kernel)
theorem r_140_112 : xfetch 140 112 = some (.getfield 120, 3) := by decide +kernel
theorem n_140_112 : ∀ l, xpr 140 112 l = l := xpr_no (by decide +kernel)
theorem r_140_115 : xfetch 140 115 = some (.invokevirtual 475, 3) := by decide +kernel
theorem n_140_115 : ∀ l, xpr 140 115 l = l := xpr_no (by decide +kernel)
theorem r_140_118 : xfetch 140 118 = some (.istore 7, 2) := by decide +kernel
theorem n_140_118 : ∀ l, xpr 140 118 l = l := xpr_no (by decide +kernel)
theorem r_140_120 : xfetch 140 120 = some (.aload 5, 2) := by decide +kernel
theorem n_140_120 : ∀ l, xpr 140 120 l = l := xpr_no (by decide +kernel)
theorem r_140_122 : xfetch 140 122 = some (.iload_n 2, 1) := by decide +kernel
theorem n_140_122 : ∀ l, xpr 140 122 l = l := xpr_no (by decide +kernel)
theorem r_140_123 : xfetch 140 123 = some (.putfield 266, 3) := by decide +kernel
theorem n_140_123 : ∀ l, xpr 140 123 l = l := xpr_no (by decide +kernel)
theorem r_140_126 : xfetch 140 126 = some (.aload 5, 2) := by decide +kernel
theorem n_140_126 : ∀ l, xpr 140 126 l = l := xpr_no (by decide +kernel)
theorem r_140_128 : xfetch 140 128 = some (.iload_n 3, 1) := by decide +kernel
theorem n_140_128 : ∀ l, xpr 140 128 l = l := xpr_no (by decide +kernel)
theorem r_140_129 : xfetch 140 129 = some (.putfield 272, 3) := by decide +kernel
theorem n_140_129 : ∀ l, xpr 140 129 l = l := xpr_no (by decide +kernel)
theorem r_140_132 : xfetch 140 132 = some (.aload 5, 2) := by decide +kernel
theorem n_140_132 : ∀ l, xpr 140 132 l = l := xpr_no (by decide +kernel)
theorem r_140_134 : xfetch 140 134 = some (.iload 4, 2) := by decide +kernel
theorem n_140_134 : ∀ l, xpr 140 134 l = l := xpr_no (by decide +kernel)
theorem r_140_136 : xfetch 140 136 = some (.putfield 275, 3) := by decide +kernel
theorem n_140_136 : ∀ l, xpr 140 136 l = l := xpr_no (by decide +kernel)
theorem r_140_139 : xfetch 140 139 = some (.aload 5, 2) := by decide +kernel
theorem n_140_139 : ∀ l, xpr 140 139 l = l := xpr_no (by decide +kernel)
theorem r_140_141 : xfetch 140 141 = some (.iload 6, 2) := by decide +kernel
theorem n_140_141 : ∀ l, xpr 140 141 l = l := xpr_no (by decide +kernel)
theorem r_140_143 : xfetch 140 143 = some (.putfield 277, 3) := by decide +kernel
theorem n_140_143 : ∀ l, xpr 140 143 l = l := xpr_no (by decide +kernel)
theorem r_140_146 : xfetch 140 146 = some (.aload 5, 2) := by decide +kernel
theorem n_140_146 : ∀ l, xpr 140 146 l = l := xpr_no (by decide +kernel)
theorem r_140_148 : xfetch 140 148 = some (.aload_n 0, 1) := by decide +kernel
theorem n_140_148 : ∀ l, xpr 140 148 l = l := xpr_no (by decide +kernel)
theorem r_140_149 : xfetch 140 149 = some (.getfield 51, 3) := by decide +kernel
theorem n_140_149 : ∀ l, xpr 140 149 l = l := xpr_no (by decide +kernel)
theorem r_140_152 : xfetch 140 152 = some (.getfield 248, 3) := by decide +kernel
theorem n_140_152 : ∀ l, xpr 140 152 l = l := xpr_no (by decide +kernel)
theorem r_140_155 : xfetch 140 155 = some (.putfield 280, 3) := by decide +kernel
theorem n_140_155 : ∀ l, xpr 140 155 l = l := xpr_no (by decide +kernel)
theorem r_140_158 : xfetch 140 158 = some (.iload 7, 2) := by decide +kernel
theorem n_140_158 : ∀ l, xpr 140 158 l = l := xpr_no (by decide +kernel)
theorem r_140_160 : xfetch 140 160 = some (.ireturn, 1) := by decide +kernel
theorem n_140_160 : ∀ l, xpr 140 160 l = l := xpr_no (by decide +kernel)
theorem v_RL_rewrite_0 {S : Option (Nat × (Nat → Int32))} {s : zSt} {Q : Option Value ⊕ Nat → zSt → Prop} {x1 : Int} {x2 : Int} {x3 : Int} {x4 : Int} 
    (h : (0 ≤ x1 ∧ x1 < 3) ∧ (wp S 120 0 [(0, rf 2), (1, iv x1)] [] s (fun o3 s3 => zkU ((0 ≤ x2 ∧ x2 < 6) ∧ (wp S 107 0 [(0, rf 53), (1, rf (62 + 11 * x2)), (2, iv (zI s3 (31 + x1) 2)), (3, iv x3)] [] s3 (fun o8 s8 => zkU (wp S 108 0 [(0, rf 2), (1, iv (zI s8 53 4))] [] s8 (fun o11 s11 => zkI (fun y11 => (y11 ≠ (-1) → wp S 18 0 [(0, rf 2)] [] s11 (fun o14 s14 => zkU (rng x4 ∧ (wp S 109 0 [(0, rf 2), (1, iv y11), (2, iv (zI s14 53 4))] [] (zwI (zwI s14 53 0 y11) 53 1 x4) (fun o20 s20 => zkU ((0 ≤ (zI s20 (31 + x1) 1) ∧ (zI s20 (31 + x1) 1) < 6) ∧ (wp S 141 0 [(0, rf 2), (1, rf (67 + 11 * (zI s20 (31 + x1) 1))), (2, rf (67 + 11 * x2))] [] s20 (fun o28 s28 => zkI (fun y28 => rng x2 ∧ (rng x3 ∧ (Q (rI y28) (zwI (zwI (zwI (zwI (zwI s28 (31 + x1) 1 x2) (31 + x1) 3 x3) (31 + x1) 4 x4) (31 + x1) 5 y11) (31 + x1) 6 (zI (zwI (zwI (zwI (zwI s28 (31 + x1) 1 x2) (31 + x1) 3 x3) (31 + x1) 4 x4) (31 + x1) 5 y11) 53 4))))) (fun e28 => False) o28))) (fun e20 => False) o20))) (fun e14 => False) o14)) ∧ (y11 = (-1) → Q (rT 1) (zbump s11))) (fun e11 => False) o11)) (fun e8 => False) o8))) (fun e3 => False) o3))) :
    wp S 140 0 [(0, rf 2), (1, iv x1), (2, iv x2), (3, iv x3), (4, iv x4)] [] s Q := by
  refine i_aload_n (a := 2) r_140_0 (n_140_0 _) rfl ?_
  refine i_getR (a := 2) (b := 3) r_140_1 (n_140_1 _) rfl rfl rfl (by omega) lf_2 (by omega) ?_
  refine i_getR (a := 3) (b := 5) r_140_4 (n_140_4 _) rfl rfl rfl (by omega) lf_3 (by omega) ?_
  refine i_iload_n (x := x1) r_140_7 (n_140_7 _) rfl ?_
  obtain ⟨g1, h⟩ := h
  refine i_aaload (c := 6) (a := 5) (j := x1) (b := 31 + x1) r_140_8 (n_140_8 _) lf_5 ⟨by omega, by omega⟩ (by omega) (by omega) rfl (by omega) ?_
  have t2 := e_6 (j := x1) lf_5 (by omega) (by omega)
  rw [show 5 + 26 + 1 * x1 = 31 + x1 by omega] at t2
  refine i_astore (l' := [(0, rf 2), (1, iv x1), (2, iv x2), (3, iv x3), (4, iv x4), (5, rf (31 + x1))]) r_140_9 (n_140_9 _) (by decide) rfl ?_
  refine i_aload_n (a := 2) r_140_11 (n_140_11 _) rfl ?_
  refine i_iload_n (x := x1) r_140_12 (n_140_12 _) rfl ?_
  refine wp_virt (b := 2) (rest := []) (Ls := [(0, rf 2), (1, iv x1)]) r_140_13 (n_140_13 _) rfl ⟨rfl, rfl, by decide, by decide⟩ rfl rfl lf_2 ⟨rfl, Nat.le_of_ble_eq_true rfl, Nat.le_of_ble_eq_true rfl⟩ rfl h ?_
  intro o3 s3 h
  rcases h with ⟨rfl, h⟩ | ⟨e3, rfl, h⟩
  · refine .inl ⟨none, rfl, ?_⟩
    refine i_aload_n (a := 2) r_140_16 (n_140_16 _) rfl ?_
    refine i_getR (a := 2) (b := 53) r_140_17 (n_140_17 _) rfl rfl rfl (by omega) lf_2 (by omega) ?_
    refine i_aload_n (a := 2) r_140_20 (n_140_20 _) rfl ?_
    refine i_getR (a := 2) (b := 34) r_140_21 (n_140_21 _) rfl rfl rfl (by omega) lf_2 (by omega) ?_
    refine i_iload_n (x := x2) r_140_24 (n_140_24 _) rfl ?_
    obtain ⟨g5, h⟩ := h
    refine i_aaload (c := 4) (a := 34) (j := x2) (b := 62 + 11 * x2) r_140_25 (n_140_25 _) lf_34 ⟨by omega, by omega⟩ (by omega) (by omega) rfl (by omega) ?_
    have t6 := e_4 (j := x2) lf_34 (by omega) (by omega)
    rw [show 34 + 28 + 11 * x2 = 62 + 11 * x2 by omega] at t6
    refine i_aload (a := 31 + x1) r_140_26 (n_140_26 _) rfl ?_
    refine i_getI (a := 31 + x1) r_140_28 (n_140_28 _) rfl (by decide) t2 (fun q7 => ?_)
    refine i_iload_n (x := x3) r_140_31 (n_140_31 _) rfl ?_
    refine wp_virt (b := 53) (rest := []) (Ls := [(0, rf 53), (1, rf (62 + 11 * x2)), (2, iv (zI s3 (31 + x1) 2)), (3, iv x3)]) r_140_32 (n_140_32 _) rfl ⟨rfl, rfl, by decide, by decide⟩ rfl rfl lf_53 ⟨rfl, Nat.le_of_ble_eq_true rfl, Nat.le_of_ble_eq_true rfl⟩ rfl h ?_
    intro o8 s8 h
    rcases h with ⟨rfl, h⟩ | ⟨e8, rfl, h⟩
    · refine .inl ⟨none, rfl, ?_⟩
      refine i_aload_n (a := 2) r_140_35 (n_140_35 _) rfl ?_
      refine i_aload_n (a := 2) r_140_36 (n_140_36 _) rfl ?_
      refine i_getR (a := 2) (b := 53) r_140_37 (n_140_37 _) rfl rfl rfl (by omega) lf_2 (by omega) ?_
      refine i_getI (a := 53) r_140_40 (n_140_40 _) rfl (by decide) lf_53 (fun q10 => ?_)
      refine wp_virt (b := 2) (rest := []) (Ls := [(0, rf 2), (1, iv (zI s8 53 4))]) r_140_43 (n_140_43 _) rfl ⟨rfl, rfl, by decide, by decide⟩ rfl rfl lf_2 ⟨rfl, Nat.le_of_ble_eq_true rfl, Nat.le_of_ble_eq_true rfl⟩ rfl h ?_
      intro o11 s11 h
      rcases h with ⟨y11, q12, rfl, h⟩ | ⟨e11, rfl, h⟩
      · refine .inl ⟨some (iv y11), rfl, ?_⟩
        show wp S 140 46 [(0, rf 2), (1, iv x1), (2, iv x2), (3, iv x3), (4, iv x4), (5, rf (31 + x1))] [iv y11] s11 Q
        refine i_istore (l' := [(0, rf 2), (1, iv x1), (2, iv x2), (3, iv x3), (4, iv x4), (5, rf (31 + x1)), (6, iv y11)]) r_140_46 (n_140_46 _) (by decide) rfl ?_
        refine i_iload (x := y11) r_140_48 (n_140_48 _) rfl ?_
        refine i_iconst r_140_50 (n_140_50 _) ?_
        refine i_icmp (t := 64) r_140_51 (n_140_51 _) rfl (T_ne q12 ⟨by omega, by omega⟩) (fun c13 => ?_) (fun c13 => ?_)
        · replace h := h.1 c13
          refine i_aload_n (a := 2) r_140_64 (n_140_64 _) rfl ?_
          refine wp_virt (b := 2) (rest := []) (Ls := [(0, rf 2)]) r_140_65 (n_140_65 _) rfl ⟨rfl, rfl, by decide, by decide⟩ rfl rfl lf_2 ⟨rfl, Nat.le_of_ble_eq_true rfl, Nat.le_of_ble_eq_true rfl⟩ rfl h ?_
          intro o14 s14 h
          rcases h with ⟨rfl, h⟩ | ⟨e14, rfl, h⟩
          · refine .inl ⟨none, rfl, ?_⟩
            refine i_aload_n (a := 2) r_140_68 (n_140_68 _) rfl ?_
            refine i_getR (a := 2) (b := 53) r_140_69 (n_140_69 _) rfl rfl rfl (by omega) lf_2 (by omega) ?_
            refine i_iload (x := y11) r_140_72 (n_140_72 _) rfl ?_
            refine i_iload (x := x4) r_140_74 (n_140_74 _) rfl ?_
            obtain ⟨g16, h⟩ := h
            refine wp_virt (b := 53) (rest := []) (Ls := [(0, rf 53), (1, iv y11), (2, iv x4)]) r_140_76 (n_140_76 _) rfl ⟨rfl, rfl, by decide, by decide⟩ rfl rfl lf_53 ⟨rfl, Nat.le_of_ble_eq_true rfl, Nat.le_of_ble_eq_true rfl⟩ rfl (K_View_moveTo lf_53 q12 g16) ?_
            rintro _ _ ⟨rfl, rfl⟩
            refine .inl ⟨none, rfl, ?_⟩
            show wp S 140 79 [(0, rf 2), (1, iv x1), (2, iv x2), (3, iv x3), (4, iv x4), (5, rf (31 + x1)), (6, iv y11)] [] (zwI (zwI s14 53 0 y11) 53 1 x4) Q
            refine i_aload_n (a := 2) r_140_79 (n_140_79 _) rfl ?_
            refine i_iload (x := y11) r_140_80 (n_140_80 _) rfl ?_
            refine i_aload_n (a := 2) r_140_82 (n_140_82 _) rfl ?_
            refine i_getR (a := 2) (b := 53) r_140_83 (n_140_83 _) rfl rfl rfl (by omega) lf_2 (by omega) ?_
            have e19 : zI (zwI (zwI s14 53 0 y11) 53 1 x4) 53 4 = zI s14 53 4 := (zI_nj (by omega)).trans (zI_nj (by omega))
            refine i_getIe (a := 53) (x := zI s14 53 4) r_140_86 (n_140_86 _) rfl (by decide) lf_53 e19 (fun q18 => ?_)
            refine wp_virt (b := 2) (rest := []) (Ls := [(0, rf 2), (1, iv y11), (2, iv (zI s14 53 4))]) r_140_89 (n_140_89 _) rfl ⟨rfl, rfl, by decide, by decide⟩ rfl rfl lf_2 ⟨rfl, Nat.le_of_ble_eq_true rfl, Nat.le_of_ble_eq_true rfl⟩ rfl h ?_
            intro o20 s20 h
            rcases h with ⟨rfl, h⟩ | ⟨e20, rfl, h⟩
            · refine .inl ⟨none, rfl, ?_⟩
              refine i_aload_n (a := 2) r_140_92 (n_140_92 _) rfl ?_
              refine i_aload_n (a := 2) r_140_93 (n_140_93 _) rfl ?_
              refine i_getR (a := 2) (b := 34) r_140_94 (n_140_94 _) rfl rfl rfl (by omega) lf_2 (by omega) ?_
              refine i_aload (a := 31 + x1) r_140_97 (n_140_97 _) rfl ?_
              refine i_getI (a := 31 + x1) r_140_99 (n_140_99 _) rfl (by decide) t2 (fun q22 => ?_)
              obtain ⟨g23, h⟩ := h
              refine i_aaload (c := 4) (a := 34) (j := zI s20 (31 + x1) 1) (b := 62 + 11 * (zI s20 (31 + x1) 1)) r_140_102 (n_140_102 _) lf_34 ⟨by omega, by omega⟩ (by omega) (by omega) rfl (by omega) ?_
              have t24 := e_4 (j := zI s20 (31 + x1) 1) lf_34 (by omega) (by omega)
              rw [show 34 + 28 + 11 * (zI s20 (31 + x1) 1) = 62 + 11 * (zI s20 (31 + x1) 1) by omega] at t24
              refine i_getR (a := 62 + 11 * (zI s20 (31 + x1) 1)) (b := 67 + 11 * (zI s20 (31 + x1) 1)) r_140_103 (n_140_103 _) rfl rfl rfl (by omega) t24 (by omega) ?_
              have t25 := (t_4_4 t24)
              rw [show (62 + 11 * (zI s20 (31 + x1) 1)) + 5 = 67 + 11 * (zI s20 (31 + x1) 1) by omega] at t25
              refine i_aload_n (a := 2) r_140_106 (n_140_106 _) rfl ?_
              refine i_getR (a := 2) (b := 34) r_140_107 (n_140_107 _) rfl rfl rfl (by omega) lf_2 (by omega) ?_
              refine i_iload_n (x := x2) r_140_110 (n_140_110 _) rfl ?_
              refine i_aaload (c := 4) (a := 34) (j := x2) (b := 62 + 11 * x2) r_140_111 (n_140_111 _) lf_34 ⟨by omega, by omega⟩ (by omega) (by omega) rfl (by omega) ?_
              have t26 := e_4 (j := x2) lf_34 (by omega) (by omega)
              rw [show 34 + 28 + 11 * x2 = 62 + 11 * x2 by omega] at t26
              refine i_getR (a := 62 + 11 * x2) (b := 67 + 11 * x2) r_140_112 (n_140_112 _) rfl rfl rfl (by omega) t26 (by omega) ?_
              have t27 := (t_4_4 t26)
              rw [show (62 + 11 * x2) + 5 = 67 + 11 * x2 by omega] at t27
              refine wp_virt (b := 2) (rest := []) (Ls := [(0, rf 2), (1, rf (67 + 11 * (zI s20 (31 + x1) 1))), (2, rf (67 + 11 * x2))]) r_140_115 (n_140_115 _) rfl ⟨rfl, rfl, by decide, by decide⟩ rfl rfl lf_2 ⟨rfl, Nat.le_of_ble_eq_true rfl, Nat.le_of_ble_eq_true rfl⟩ rfl h ?_
              intro o28 s28 h
              rcases h with ⟨y28, q29, rfl, h⟩ | ⟨e28, rfl, h⟩
              · refine .inl ⟨some (iv y28), rfl, ?_⟩
                show wp S 140 118 [(0, rf 2), (1, iv x1), (2, iv x2), (3, iv x3), (4, iv x4), (5, rf (31 + x1)), (6, iv y11)] [iv y28] s28 Q
                refine i_istore (l' := [(0, rf 2), (1, iv x1), (2, iv x2), (3, iv x3), (4, iv x4), (5, rf (31 + x1)), (6, iv y11), (7, iv y28)]) r_140_118 (n_140_118 _) (by decide) rfl ?_
                refine i_aload (a := 31 + x1) r_140_120 (n_140_120 _) rfl ?_
                refine i_iload_n (x := x2) r_140_122 (n_140_122 _) rfl ?_
                obtain ⟨g30, h⟩ := h
                refine i_putI (a := 31 + x1) (x := x2) r_140_123 (n_140_123 _) rfl (.inl rfl) rfl t2 g30 ?_
                refine i_aload (a := 31 + x1) r_140_126 (n_140_126 _) rfl ?_
                refine i_iload_n (x := x3) r_140_128 (n_140_128 _) rfl ?_
                obtain ⟨g31, h⟩ := h
                refine i_putI (a := 31 + x1) (x := x3) r_140_129 (n_140_129 _) rfl (.inl rfl) rfl t2 g31 ?_
                refine i_aload (a := 31 + x1) r_140_132 (n_140_132 _) rfl ?_
                refine i_iload (x := x4) r_140_134 (n_140_134 _) rfl ?_
                refine i_putI (a := 31 + x1) (x := x4) r_140_136 (n_140_136 _) rfl (.inl rfl) rfl t2 g16 ?_
                refine i_aload (a := 31 + x1) r_140_139 (n_140_139 _) rfl ?_
                refine i_iload (x := y11) r_140_141 (n_140_141 _) rfl ?_
                refine i_putI (a := 31 + x1) (x := y11) r_140_143 (n_140_143 _) rfl (.inl rfl) rfl t2 q12 ?_
                refine i_aload (a := 31 + x1) r_140_146 (n_140_146 _) rfl ?_
                refine i_aload_n (a := 2) r_140_148 (n_140_148 _) rfl ?_
                refine i_getR (a := 2) (b := 53) r_140_149 (n_140_149 _) rfl rfl rfl (by omega) lf_2 (by omega) ?_
                refine i_getI (a := 53) r_140_152 (n_140_152 _) rfl (by decide) lf_53 (fun q32 => ?_)
                refine i_putI (a := 31 + x1) (x := zI (zwI (zwI (zwI (zwI s28 (31 + x1) 1 x2) (31 + x1) 3 x3) (31 + x1) 4 x4) (31 + x1) 5 y11) 53 4) r_140_155 (n_140_155 _) rfl (.inl rfl) rfl t2 q32 ?_
                refine i_iload (x := y28) r_140_158 (n_140_158 _) rfl ?_
                exact i_ireturn r_140_160 (n_140_160 _) rfl h
              · skip
                exact h.elim
            · skip
              exact h.elim
          · skip
            exact h.elim
        · replace h := h.2 c13
          exact i_throw r_140_54 (n_140_54 _) rfl (by decide) h
      · skip
        exact h.elim
    · skip
      exact h.elim
  · skip
    exact h.elim
theorem r_141_0 : xfetch 141 0 = some (.iconst 0, 1) := by decide +kernel
theorem n_141_0 : ∀ l, xpr 141 0 l = l := xpr_no (by decide +kernel)
theorem r_141_1 : xfetch 141 1 = some (.istore_n 3, 1) := by decide +kernel
theorem n_141_1 : ∀ l, xpr 141 1 l = l := xpr_no (by decide +kernel)
theorem r_141_2 : xfetch 141 2 = some (.iconst 0, 1) := by decide +kernel
theorem n_141_2 : ∀ l, xpr 141 2 l = l := xpr_no (by decide +kernel)
theorem r_141_3 : xfetch 141 3 = some (.istore 4, 2) := by decide +kernel
theorem n_141_3 : ∀ l, xpr 141 3 l = l := xpr_no (by decide +kernel)
theorem r_141_5 : xfetch 141 5 = some (.iload 4, 2) := by decide +kernel
theorem r_141_7 : xfetch 141 7 = some (.aload_n 2, 1) := by decide +kernel
theorem n_141_7 : ∀ l, xpr 141 7 l = l := xpr_no (by decide +kernel)
theorem r_141_8 : xfetch 141 8 = some (.getfield 124, 3) := by decide +kernel
theorem n_141_8 : ∀ l, xpr 141 8 l = l := xpr_no (by decide +kernel)
theorem r_141_11 : xfetch 141 11 = some (.if_icmp .ge 91, 3) := by decide +kernel
theorem n_141_11 : ∀ l, xpr 141 11 l = l := xpr_no (by decide +kernel)
theorem r_141_14 : xfetch 141 14 = some (.aload_n 1, 1) := by decide +kernel
theorem n_141_14 : ∀ l, xpr 141 14 l = l := xpr_no (by decide +kernel)
theorem r_141_15 : xfetch 141 15 = some (.aload_n 2, 1) := by decide +kernel
theorem n_141_15 : ∀ l, xpr 141 15 l = l := xpr_no (by decide +kernel)
theorem r_141_16 : xfetch 141 16 = some (.getfield 181, 3) := by decide +kernel
theorem n_141_16 : ∀ l, xpr 141 16 l = l := xpr_no (by decide +kernel)
theorem r_141_19 : xfetch 141 19 = some (.iload 4, 2) := by decide +kernel
theorem n_141_19 : ∀ l, xpr 141 19 l = l := xpr_no (by decide +kernel)
theorem r_141_21 : xfetch 141 21 = some (.laload, 1) := by decide +kernel
theorem n_141_21 : ∀ l, xpr 141 21 l = l := xpr_no (by decide +kernel)
theorem r_141_22 : xfetch 141 22 = some (.invokevirtual 479, 3) := by decide +kernel
theorem n_141_22 : ∀ l, xpr 141 22 l = l := xpr_no (by decide +kernel)
theorem r_141_25 : xfetch 141 25 = some (.istore 5, 2) := by decide +kernel
theorem n_141_25 : ∀ l, xpr 141 25 l = l := xpr_no (by decide +kernel)
theorem r_141_27 : xfetch 141 27 = some (.iload 5, 2) := by decide +kernel
theorem n_141_27 : ∀ l, xpr 141 27 l = l := xpr_no (by decide +kernel)
theorem r_141_29 : xfetch 141 29 = some (.iconst (-1), 1) := by decide +kernel
theorem n_141_29 : ∀ l, xpr 141 29 l = l := xpr_no (by decide +kernel)
theorem r_141_30 : xfetch 141 30 = some (.if_icmp .ne 6, 3) := by decide +kernel
theorem n_141_30 : ∀ l, xpr 141 30 l = l := xpr_no (by decide +kernel)
theorem r_141_33 : xfetch 141 33 = some (.goto 63, 3) := by decide +kernel
theorem n_141_33 : ∀ l, xpr 141 33 l = l := xpr_no (by decide +kernel)
theorem r_141_36 : xfetch 141 36 = some (.iinc 3 1, 3) := by decide +kernel
theorem n_141_36 : ∀ l, xpr 141 36 l = l := xpr_no (by decide +kernel)
theorem r_141_39 : xfetch 141 39 = some (.iconst 0, 1) := by decide +kernel
theorem n_141_39 : ∀ l, xpr 141 39 l = l := xpr_no (by decide +kernel)
theorem r_141_40 : xfetch 141 40 = some (.istore 6, 2) := by decide +kernel
theorem n_141_40 : ∀ l, xpr 141 40 l = l := xpr_no (by decide +kernel)
theorem r_141_42 : xfetch 141 42 = some (.iload 6, 2) := by decide +kernel
theorem r_141_44 : xfetch 141 44 = some (.aload_n 0, 1) := by decide +kernel
theorem n_141_44 : ∀ l, xpr 141 44 l = l := xpr_no (by decide +kernel)
theorem r_141_45 : xfetch 141 45 = some (.getfield 51, 3) := by decide +kernel
theorem n_141_45 : ∀ l, xpr 141 45 l = l := xpr_no (by decide +kernel)
theorem r_141_48 : xfetch 141 48 = some (.getfield 350, 3) := by decide +kernel
theorem n_141_48 : ∀ l, xpr 141 48 l = l := xpr_no (by decide +kernel)
theorem r_141_51 : xfetch 141 51 = some (.if_icmp .ge 45, 3) := by decide +kernel
theorem n_141_51 : ∀ l, xpr 141 51 l = l := xpr_no (by decide +kernel)
theorem r_141_54 : xfetch 141 54 = some (.aload_n 0, 1) := by decide +kernel
theorem n_141_54 : ∀ l, xpr 141 54 l = l := xpr_no (by decide +kernel)
theorem r_141_55 : xfetch 141 55 = some (.getfield 51, 3) := by decide +kernel
theorem n_141_55 : ∀ l, xpr 141 55 l = l := xpr_no (by decide +kernel)
theorem r_141_58 : xfetch 141 58 = some (.aload_n 0, 1) := by decide +kernel
theorem n_141_58 : ∀ l, xpr 141 58 l = l := xpr_no (by decide +kernel)
theorem r_141_59 : xfetch 141 59 = some (.getfield 10, 3) := by decide +kernel
theorem n_141_59 : ∀ l, xpr 141 59 l = l := xpr_no (by decide +kernel)
theorem r_141_62 : xfetch 141 62 = some (.getfield 299, 3) := by decide +kernel
theorem n_141_62 : ∀ l, xpr 141 62 l = l := xpr_no (by decide +kernel)
theorem r_141_65 : xfetch 141 65 = some (.iload 6, 2) := by decide +kernel
theorem n_141_65 : ∀ l, xpr 141 65 l = l := xpr_no (by decide +kernel)
theorem r_141_67 : xfetch 141 67 = some (.iload 4, 2) := by decide +kernel
theorem n_141_67 : ∀ l, xpr 141 67 l = l := xpr_no (by decide +kernel)
theorem r_141_69 : xfetch 141 69 = some (.aload_n 0, 1) := by decide +kernel
theorem n_141_69 : ∀ l, xpr 141 69 l = l := xpr_no (by decide +kernel)
theorem r_141_70 : xfetch 141 70 = some (.getfield 47, 3) := by decide +kernel
theorem n_141_70 : ∀ l, xpr 141 70 l = l := xpr_no (by decide +kernel)
theorem r_141_73 : xfetch 141 73 = some (.aload_n 0, 1) := by decide +kernel
theorem n_141_73 : ∀ l, xpr 141 73 l = l := xpr_no (by decide +kernel)
theorem r_141_74 : xfetch 141 74 = some (.getfield 10, 3) := by decide +kernel
theorem n_141_74 : ∀ l, xpr 141 74 l = l := xpr_no (by decide +kernel)
theorem r_141_77 : xfetch 141 77 = some (.getfield 299, 3) := by decide +kernel
theorem n_141_77 : ∀ l, xpr 141 77 l = l := xpr_no (by decide +kernel)
theorem r_141_80 : xfetch 141 80 = some (.iload 6, 2) := by decide +kernel
theorem n_141_80 : ∀ l, xpr 141 80 l = l := xpr_no (by decide +kernel)
theorem r_141_82 : xfetch 141 82 = some (.iload 5, 2) := by decide +kernel
theorem n_141_82 : ∀ l, xpr 141 82 l = l := xpr_no (by decide +kernel)
theorem r_141_84 : xfetch 141 84 = some (.invokevirtual 303, 3) := by decide +kernel
theorem n_141_84 : ∀ l, xpr 141 84 l = l := xpr_no (by decide +kernel)
theorem r_141_87 : xfetch 141 87 = some (.invokevirtual 307, 3) := by decide +kernel
theorem n_141_87 : ∀ l, xpr 141 87 l = l := xpr_no (by decide +kernel)
theorem r_141_90 : xfetch 141 90 = some (.iinc 6 1, 3) := by decide +kernel
theorem n_141_90 : ∀ l, xpr 141 90 l = l := xpr_no (by decide +kernel)
theorem r_141_93 : xfetch 141 93 = some (.goto (-51), 3) := by decide +kernel
theorem n_141_93 : ∀ l, xpr 141 93 l = l := xpr_no (by decide +kernel)
theorem r_141_96 : xfetch 141 96 = some (.iinc 4 1, 3) := by decide +kernel
theorem n_141_96 : ∀ l, xpr 141 96 l = l := xpr_no (by decide +kernel)
theorem r_141_99 : xfetch 141 99 = some (.goto (-94), 3) := by decide +kernel
theorem n_141_99 : ∀ l, xpr 141 99 l = l := xpr_no (by decide +kernel)
theorem r_141_102 : xfetch 141 102 = some (.iload_n 3, 1) := by decide +kernel
theorem n_141_102 : ∀ l, xpr 141 102 l = l := xpr_no (by decide +kernel)
theorem r_141_103 : xfetch 141 103 = some (.ireturn, 1) := by decide +kernel
theorem n_141_103 : ∀ l, xpr 141 103 l = l := xpr_no (by decide +kernel)
theorem v_RL_copyLeaves_0 {S : Option (Nat × (Nat → Int32))} {s : zSt} {Q : Option Value ⊕ Nat → zSt → Prop} {a1 : Int} {a2 : Int} (ha1 : isO a1 2) (ha2 : isO a2 2)
    (h : wp S 141 5 [(0, rf 2), (1, rf a1), (2, rf a2), (3, iv 0), (4, iv 0)] [] s Q) :
    wp S 141 0 [(0, rf 2), (1, rf a1), (2, rf a2)] [] s Q := by
  refine i_iconst r_141_0 (n_141_0 _) ?_
  refine i_istore_n (l' := [(0, rf 2), (1, rf a1), (2, rf a2), (3, iv 0)]) r_141_1 (n_141_1 _) (by decide) rfl ?_
  refine i_iconst r_141_2 (n_141_2 _) ?_
  refine i_istore (l' := [(0, rf 2), (1, rf a1), (2, rf a2), (3, iv 0), (4, iv 0)]) r_141_3 (n_141_3 _) (by decide) rfl ?_
  exact wp_pr (l' := [(0, rf 2), (1, rf a1), (2, rf a2), (3, iv 0), (4, iv 0)]) rfl h
theorem v_RL_copyLeaves_5 {S : Option (Nat × (Nat → Int32))} {s : zSt} {Q : Option Value ⊕ Nat → zSt → Prop} {a1 : Int} {a2 : Int} {x3 : Int} {x4 : Int} (ha1 : isO a1 2) (ha2 : isO a2 2)
    (h : rng x4 ∧ (((zI s a2 0) ≤ x4 → Q (rI x3) s) ∧ (x4 < (zI s a2 0) → (0 ≤ x4 ∧ x4 < 40) ∧ (wp S 142 0 [(0, rf a1), (1, .long (zL s (a2 + 5) x4))] [] s (fun o6 s6 => zkI (fun y6 => (y6 ≠ (-1) → wp S 141 42 [(0, rf 2), (1, rf a1), (2, rf a2), (3, iv (x3 + 1)), (4, iv x4), (5, iv y6), (6, iv 0)] [] s6 Q) ∧ (y6 = (-1) → wp S 141 5 [(0, rf 2), (1, rf a1), (2, rf a2), (3, iv x3), (4, iv (x4 + 1))] [] s6 Q)) (fun e6 => False) o6))))) :
    wp S 141 5 [(0, rf 2), (1, rf a1), (2, rf a2), (3, iv x3), (4, iv x4)] [] s Q := by
  refine i_iload (x := x4) r_141_5 rfl rfl ?_
  refine i_aload_n (a := a2) r_141_7 (n_141_7 _) rfl ?_
  refine i_getI (a := a2) r_141_8 (n_141_8 _) rfl (by decide) ha2 (fun q1 => ?_)
  obtain ⟨g2, h⟩ := h
  refine i_icmp (t := 102) r_141_11 (n_141_11 _) rfl (T_ge g2 q1) (fun c3 => ?_) (fun c3 => ?_)
  · replace h := h.1 c3
    refine i_iload_n (x := x3) r_141_102 (n_141_102 _) rfl ?_
    exact i_ireturn r_141_103 (n_141_103 _) rfl h
  · replace h := h.2 c3
    refine i_aload_n (a := a1) r_141_14 (n_141_14 _) rfl ?_
    refine i_aload_n (a := a2) r_141_15 (n_141_15 _) rfl ?_
    refine i_getR (a := a2) (b := a2 + 5) r_141_16 (n_141_16 _) rfl rfl rfl (by omega) ha2 (by omega) ?_
    have t4 := (t_2_5 ha2)
    refine i_iload (x := x4) r_141_19 (n_141_19 _) rfl ?_
    obtain ⟨g5, h⟩ := h
    refine i_laload (a := a2 + 5) (j := x4) r_141_21 (n_141_21 _) t4 ⟨by omega, by omega⟩ (by omega) (by omega) ?_
    refine wp_virt (b := a1) (rest := []) (Ls := [(0, rf a1), (1, .long (zL s (a2 + 5) x4))]) r_141_22 (n_141_22 _) rfl ⟨rfl, rfl, by decide, by decide⟩ rfl rfl ha1 ⟨rfl, Nat.le_of_ble_eq_true rfl, Nat.le_of_ble_eq_true rfl⟩ rfl h ?_
    intro o6 s6 h
    rcases h with ⟨y6, q7, rfl, h⟩ | ⟨e6, rfl, h⟩
    · refine .inl ⟨some (iv y6), rfl, ?_⟩
      show wp S 141 25 [(0, rf 2), (1, rf a1), (2, rf a2), (3, iv x3), (4, iv x4)] [iv y6] s6 Q
      refine i_istore (l' := [(0, rf 2), (1, rf a1), (2, rf a2), (3, iv x3), (4, iv x4), (5, iv y6)]) r_141_25 (n_141_25 _) (by decide) rfl ?_
      refine i_iload (x := y6) r_141_27 (n_141_27 _) rfl ?_
      refine i_iconst r_141_29 (n_141_29 _) ?_
      refine i_icmp (t := 36) r_141_30 (n_141_30 _) rfl (T_ne q7 ⟨by omega, by omega⟩) (fun c8 => ?_) (fun c8 => ?_)
      · replace h := h.1 c8
        refine i_iinc (x := x3) (l' := [(0, rf 2), (1, rf a1), (2, rf a2), (3, iv (x3 + 1)), (4, iv x4), (5, iv y6)]) r_141_36 (n_141_36 _) (by decide) rfl rfl ?_
        refine i_iconst r_141_39 (n_141_39 _) ?_
        refine i_istore (l' := [(0, rf 2), (1, rf a1), (2, rf a2), (3, iv (x3 + 1)), (4, iv x4), (5, iv y6), (6, iv 0)]) r_141_40 (n_141_40 _) (by decide) rfl ?_
        exact wp_pr (l' := [(0, rf 2), (1, rf a1), (2, rf a2), (3, iv (x3 + 1)), (4, iv x4), (5, iv y6), (6, iv 0)]) rfl h
      · replace h := h.2 c8
        refine i_goto (t := 96) r_141_33 (n_141_33 _) rfl ?_
        refine i_iinc (x := x4) (l' := [(0, rf 2), (1, rf a1), (2, rf a2), (3, iv x3), (4, iv (x4 + 1)), (5, iv y6)]) r_141_96 (n_141_96 _) (by decide) rfl rfl ?_
        refine i_goto (t := 5) r_141_99 (n_141_99 _) rfl ?_
        exact wp_pr (l' := [(0, rf 2), (1, rf a1), (2, rf a2), (3, iv x3), (4, iv (x4 + 1))]) rfl h
    · skip
      exact h.elim
theorem v_RL_copyLeaves_42 {S : Option (Nat × (Nat → Int32))} {s : zSt} {Q : Option Value ⊕ Nat → zSt → Prop} {a1 : Int} {a2 : Int} {x3 : Int} {x4 : Int} {x5 : Int} {x6 : Int} (ha1 : isO a1 2) (ha2 : isO a2 2)
    (h : rng x6 ∧ (((zI s 53 2) ≤ x6 → wp S 141 5 [(0, rf 2), (1, rf a1), (2, rf a2), (3, iv x3), (4, iv (x4 + 1))] [] s Q) ∧ (x6 < (zI s 53 2) → wp S 126 0 [(0, rf 48), (1, rf 6), (2, iv x6), (3, iv x5)] [] s (fun o4 s4 => zkL (fun y4 => wp S 131 0 [(0, rf 53), (1, rf 6), (2, iv x6), (3, iv x4), (4, .long y4)] [] s4 (fun o6 s6 => zkU (wp S 141 42 [(0, rf 2), (1, rf a1), (2, rf a2), (3, iv x3), (4, iv x4), (5, iv x5), (6, iv (x6 + 1))] [] s6 Q) (fun e6 => False) o6)) (fun e4 => False) o4)))) :
    wp S 141 42 [(0, rf 2), (1, rf a1), (2, rf a2), (3, iv x3), (4, iv x4), (5, iv x5), (6, iv x6)] [] s Q := by
  refine i_iload (x := x6) r_141_42 rfl rfl ?_
  refine i_aload_n (a := 2) r_141_44 (n_141_44 _) rfl ?_
  refine i_getR (a := 2) (b := 53) r_141_45 (n_141_45 _) rfl rfl rfl (by omega) lf_2 (by omega) ?_
  refine i_getI (a := 53) r_141_48 (n_141_48 _) rfl (by decide) lf_53 (fun q1 => ?_)
  obtain ⟨g2, h⟩ := h
  refine i_icmp (t := 96) r_141_51 (n_141_51 _) rfl (T_ge g2 q1) (fun c3 => ?_) (fun c3 => ?_)
  · replace h := h.1 c3
    refine i_iinc (x := x4) (l' := [(0, rf 2), (1, rf a1), (2, rf a2), (3, iv x3), (4, iv (x4 + 1)), (5, iv x5), (6, iv x6)]) r_141_96 (n_141_96 _) (by decide) rfl rfl ?_
    refine i_goto (t := 5) r_141_99 (n_141_99 _) rfl ?_
    exact wp_pr (l' := [(0, rf 2), (1, rf a1), (2, rf a2), (3, iv x3), (4, iv (x4 + 1))]) rfl h
  · replace h := h.2 c3
    refine i_aload_n (a := 2) r_141_54 (n_141_54 _) rfl ?_
    refine i_getR (a := 2) (b := 53) r_141_55 (n_141_55 _) rfl rfl rfl (by omega) lf_2 (by omega) ?_
    refine i_aload_n (a := 2) r_141_58 (n_141_58 _) rfl ?_
    refine i_getR (a := 2) (b := 3) r_141_59 (n_141_59 _) rfl rfl rfl (by omega) lf_2 (by omega) ?_
    refine i_getR (a := 3) (b := 6) r_141_62 (n_141_62 _) rfl rfl rfl (by omega) lf_3 (by omega) ?_
    refine i_iload (x := x6) r_141_65 (n_141_65 _) rfl ?_
    refine i_iload (x := x4) r_141_67 (n_141_67 _) rfl ?_
    refine i_aload_n (a := 2) r_141_69 (n_141_69 _) rfl ?_
    refine i_getR (a := 2) (b := 48) r_141_70 (n_141_70 _) rfl rfl rfl (by omega) lf_2 (by omega) ?_
    refine i_aload_n (a := 2) r_141_73 (n_141_73 _) rfl ?_
    refine i_getR (a := 2) (b := 3) r_141_74 (n_141_74 _) rfl rfl rfl (by omega) lf_2 (by omega) ?_
    refine i_getR (a := 3) (b := 6) r_141_77 (n_141_77 _) rfl rfl rfl (by omega) lf_3 (by omega) ?_
    refine i_iload (x := x6) r_141_80 (n_141_80 _) rfl ?_
    refine i_iload (x := x5) r_141_82 (n_141_82 _) rfl ?_
    refine wp_virt (b := 48) (rest := [iv x4, iv x6, rf 6, rf 53]) (Ls := [(0, rf 48), (1, rf 6), (2, iv x6), (3, iv x5)]) r_141_84 (n_141_84 _) rfl ⟨rfl, rfl, by decide, by decide⟩ rfl rfl lf_48 ⟨rfl, Nat.le_of_ble_eq_true rfl, Nat.le_of_ble_eq_true rfl⟩ rfl h ?_
    intro o4 s4 h
    rcases h with ⟨y4, rfl, h⟩ | ⟨e4, rfl, h⟩
    · refine .inl ⟨some (.long y4), rfl, ?_⟩
      show wp S 141 87 [(0, rf 2), (1, rf a1), (2, rf a2), (3, iv x3), (4, iv x4), (5, iv x5), (6, iv x6)] [.long y4, iv x4, iv x6, rf 6, rf 53] s4 Q
      refine wp_virt (b := 53) (rest := []) (Ls := [(0, rf 53), (1, rf 6), (2, iv x6), (3, iv x4), (4, .long y4)]) r_141_87 (n_141_87 _) rfl ⟨rfl, rfl, by decide, by decide⟩ rfl rfl lf_53 ⟨rfl, Nat.le_of_ble_eq_true rfl, Nat.le_of_ble_eq_true rfl⟩ rfl h ?_
      intro o6 s6 h
      rcases h with ⟨rfl, h⟩ | ⟨e6, rfl, h⟩
      · refine .inl ⟨none, rfl, ?_⟩
        refine i_iinc (x := x6) (l' := [(0, rf 2), (1, rf a1), (2, rf a2), (3, iv x3), (4, iv x4), (5, iv x5), (6, iv (x6 + 1))]) r_141_90 (n_141_90 _) (by decide) rfl rfl ?_
        refine i_goto (t := 42) r_141_93 (n_141_93 _) rfl ?_
        exact wp_pr (l' := [(0, rf 2), (1, rf a1), (2, rf a2), (3, iv x3), (4, iv x4), (5, iv x5), (6, iv (x6 + 1))]) rfl h
      · skip
        exact h.elim
    · skip
      exact h.elim
theorem r_142_0 : xfetch 142 0 = some (.iconst 0, 1) := by decide +kernel
theorem n_142_0 : ∀ l, xpr 142 0 l = l := xpr_no (by decide +kernel)
theorem r_142_1 : xfetch 142 1 = some (.istore_n 3, 1) := by decide +kernel
theorem n_142_1 : ∀ l, xpr 142 1 l = l := xpr_no (by decide +kernel)
theorem r_142_2 : xfetch 142 2 = some (.iload_n 3, 1) := by decide +kernel
theorem r_142_3 : xfetch 142 3 = some (.aload_n 0, 1) := by decide +kernel
theorem n_142_3 : ∀ l, xpr 142 3 l = l := xpr_no (by decide +kernel)
theorem r_142_4 : xfetch 142 4 = some (.getfield 28, 3) := by decide +kernel
theorem n_142_4 : ∀ l, xpr 142 4 l = l := xpr_no (by decide +kernel)
theorem r_142_7 : xfetch 142 7 = some (.if_icmp .ge 22, 3) := by decide +kernel
theorem n_142_7 : ∀ l, xpr 142 7 l = l := xpr_no (by decide +kernel)
theorem r_142_10 : xfetch 142 10 = some (.aload_n 0, 1) := by decide +kernel
theorem n_142_10 : ∀ l, xpr 142 10 l = l := xpr_no (by decide +kernel)
theorem r_142_11 : xfetch 142 11 = some (.getfield 24, 3) := by decide +kernel
theorem n_142_11 : ∀ l, xpr 142 11 l = l := xpr_no (by decide +kernel)
theorem r_142_14 : xfetch 142 14 = some (.iload_n 3, 1) := by decide +kernel
theorem n_142_14 : ∀ l, xpr 142 14 l = l := xpr_no (by decide +kernel)
theorem r_142_15 : xfetch 142 15 = some (.laload, 1) := by decide +kernel
theorem n_142_15 : ∀ l, xpr 142 15 l = l := xpr_no (by decide +kernel)
theorem r_142_16 : xfetch 142 16 = some (.lload_n 1, 1) := by decide +kernel
theorem n_142_16 : ∀ l, xpr 142 16 l = l := xpr_no (by decide +kernel)
theorem r_142_17 : xfetch 142 17 = some (.lcmp, 1) := by decide +kernel
theorem n_142_17 : ∀ l, xpr 142 17 l = l := xpr_no (by decide +kernel)
theorem r_142_18 : xfetch 142 18 = some (.ifCond .ne 5, 3) := by decide +kernel
theorem n_142_18 : ∀ l, xpr 142 18 l = l := xpr_no (by decide +kernel)
theorem r_142_21 : xfetch 142 21 = some (.iload_n 3, 1) := by decide +kernel
theorem n_142_21 : ∀ l, xpr 142 21 l = l := xpr_no (by decide +kernel)
theorem r_142_22 : xfetch 142 22 = some (.ireturn, 1) := by decide +kernel
theorem n_142_22 : ∀ l, xpr 142 22 l = l := xpr_no (by decide +kernel)
theorem r_142_23 : xfetch 142 23 = some (.iinc 3 1, 3) := by decide +kernel
theorem n_142_23 : ∀ l, xpr 142 23 l = l := xpr_no (by decide +kernel)
theorem r_142_26 : xfetch 142 26 = some (.goto (-24), 3) := by decide +kernel
theorem n_142_26 : ∀ l, xpr 142 26 l = l := xpr_no (by decide +kernel)
theorem r_142_29 : xfetch 142 29 = some (.iconst (-1), 1) := by decide +kernel
theorem n_142_29 : ∀ l, xpr 142 29 l = l := xpr_no (by decide +kernel)
theorem r_142_30 : xfetch 142 30 = some (.ireturn, 1) := by decide +kernel
theorem n_142_30 : ∀ l, xpr 142 30 l = l := xpr_no (by decide +kernel)
theorem v_Leaves_withPath_0 {S : Option (Nat × (Nat → Int32))} {s : zSt} {Q : Option Value ⊕ Nat → zSt → Prop} {a0 : Int} {u1 : Int64} (ha0 : isO a0 2)
    (h : wp S 142 2 [(0, rf a0), (1, .long u1), (3, iv 0)] [] s Q) :
    wp S 142 0 [(0, rf a0), (1, .long u1)] [] s Q := by
  refine i_iconst r_142_0 (n_142_0 _) ?_
  refine i_istore_n (l' := [(0, rf a0), (1, .long u1), (3, iv 0)]) r_142_1 (n_142_1 _) (by decide) rfl ?_
  exact wp_pr (l' := [(0, rf a0), (1, .long u1), (3, iv 0)]) rfl h
theorem v_Leaves_withPath_2 {S : Option (Nat × (Nat → Int32))} {s : zSt} {Q : Option Value ⊕ Nat → zSt → Prop} {a0 : Int} {u1 : Int64} {x3 : Int} (ha0 : isO a0 2)
    (h : rng x3 ∧ (((zI s a0 0) ≤ x3 → Q (rI (-1)) s) ∧ (x3 < (zI s a0 0) → (0 ≤ x3 ∧ x3 < 40) ∧ (((zcmp (zL s (a0 + 5) x3) u1) ≠ 0 → wp S 142 2 [(0, rf a0), (1, .long u1), (3, iv (x3 + 1))] [] s Q) ∧ ((zcmp (zL s (a0 + 5) x3) u1) = 0 → Q (rI x3) s))))) :
    wp S 142 2 [(0, rf a0), (1, .long u1), (3, iv x3)] [] s Q := by
  refine i_iload_n (x := x3) r_142_2 rfl rfl ?_
  refine i_aload_n (a := a0) r_142_3 (n_142_3 _) rfl ?_
  refine i_getI (a := a0) r_142_4 (n_142_4 _) rfl (by decide) ha0 (fun q1 => ?_)
  obtain ⟨g2, h⟩ := h
  refine i_icmp (t := 29) r_142_7 (n_142_7 _) rfl (T_ge g2 q1) (fun c3 => ?_) (fun c3 => ?_)
  · replace h := h.1 c3
    refine i_iconst r_142_29 (n_142_29 _) ?_
    exact i_ireturn r_142_30 (n_142_30 _) rfl h
  · replace h := h.2 c3
    refine i_aload_n (a := a0) r_142_10 (n_142_10 _) rfl ?_
    refine i_getR (a := a0) (b := a0 + 5) r_142_11 (n_142_11 _) rfl rfl rfl (by omega) ha0 (by omega) ?_
    have t4 := (t_2_5 ha0)
    refine i_iload_n (x := x3) r_142_14 (n_142_14 _) rfl ?_
    obtain ⟨g5, h⟩ := h
    refine i_laload (a := a0 + 5) (j := x3) r_142_15 (n_142_15 _) t4 ⟨by omega, by omega⟩ (by omega) (by omega) ?_
    refine i_lload_n (u := u1) r_142_16 (n_142_16 _) rfl ?_
    refine i_lcmp r_142_17 (n_142_17 _) ?_
    refine i_if (t := 23) r_142_18 (n_142_18 _) rfl (T_ne (zcmp_rng _ _) ⟨by omega, by omega⟩) (fun c6 => ?_) (fun c6 => ?_)
    · replace h := h.1 c6
      refine i_iinc (x := x3) (l' := [(0, rf a0), (1, .long u1), (3, iv (x3 + 1))]) r_142_23 (n_142_23 _) (by decide) rfl rfl ?_
      refine i_goto (t := 2) r_142_26 (n_142_26 _) rfl ?_
      exact wp_pr (l' := [(0, rf a0), (1, .long u1), (3, iv (x3 + 1))]) rfl h
    · replace h := h.2 c6
      refine i_iload_n (x := x3) r_142_21 (n_142_21 _) rfl ?_
      exact i_ireturn r_142_22 (n_142_22 _) rfl h
theorem r_144_0 : xfetch 144 0 = some (.aload_n 0, 1) := by decide +kernel
theorem n_144_0 : ∀ l, xpr 144 0 l = l := xpr_no (by decide +kernel)
theorem r_144_1 : xfetch 144 1 = some (.iload_n 1, 1) := by decide +kernel
theorem n_144_1 : ∀ l, xpr 144 1 l = l := xpr_no (by decide +kernel)
theorem r_144_2 : xfetch 144 2 = some (.invokevirtual 284, 3) := by decide +kernel
theorem n_144_2 : ∀ l, xpr 144 2 l = l := xpr_no (by decide +kernel)
theorem r_144_5 : xfetch 144 5 = some (.aload_n 0, 1) := by decide +kernel
theorem n_144_5 : ∀ l, xpr 144 5 l = l := xpr_no (by decide +kernel)
theorem r_144_6 : xfetch 144 6 = some (.iload_n 2, 1) := by decide +kernel
theorem n_144_6 : ∀ l, xpr 144 6 l = l := xpr_no (by decide +kernel)
theorem r_144_7 : xfetch 144 7 = some (.invokevirtual 95, 3) := by decide +kernel
theorem n_144_7 : ∀ l, xpr 144 7 l = l := xpr_no (by decide +kernel)
theorem r_144_10 : xfetch 144 10 = some (.iload_n 3, 1) := by decide +kernel
theorem n_144_10 : ∀ l, xpr 144 10 l = l := xpr_no (by decide +kernel)
theorem r_144_11 : xfetch 144 11 = some (.invokestatic 229, 3) := by decide +kernel
theorem n_144_11 : ∀ l, xpr 144 11 l = l := xpr_no (by decide +kernel)
theorem r_144_14 : xfetch 144 14 = some (.aload_n 0, 1) := by decide +kernel
theorem n_144_14 : ∀ l, xpr 144 14 l = l := xpr_no (by decide +kernel)
theorem r_144_15 : xfetch 144 15 = some (.iload_n 2, 1) := by decide +kernel
theorem n_144_15 : ∀ l, xpr 144 15 l = l := xpr_no (by decide +kernel)
theorem r_144_16 : xfetch 144 16 = some (.invokevirtual 235, 3) := by decide +kernel
theorem n_144_16 : ∀ l, xpr 144 16 l = l := xpr_no (by decide +kernel)
theorem r_144_19 : xfetch 144 19 = some (.aload_n 0, 1) := by decide +kernel
theorem n_144_19 : ∀ l, xpr 144 19 l = l := xpr_no (by decide +kernel)
theorem r_144_20 : xfetch 144 20 = some (.iload_n 1, 1) := by decide +kernel
theorem n_144_20 : ∀ l, xpr 144 20 l = l := xpr_no (by decide +kernel)
theorem r_144_21 : xfetch 144 21 = some (.iload_n 2, 1) := by decide +kernel
theorem n_144_21 : ∀ l, xpr 144 21 l = l := xpr_no (by decide +kernel)
theorem r_144_22 : xfetch 144 22 = some (.iload_n 3, 1) := by decide +kernel
theorem n_144_22 : ∀ l, xpr 144 22 l = l := xpr_no (by decide +kernel)
theorem r_144_23 : xfetch 144 23 = some (.aload_n 0, 1) := by decide +kernel
theorem n_144_23 : ∀ l, xpr 144 23 l = l := xpr_no (by decide +kernel)
theorem r_144_24 : xfetch 144 24 = some (.getfield 10, 3) := by decide +kernel
theorem n_144_24 : ∀ l, xpr 144 24 l = l := xpr_no (by decide +kernel)
theorem r_144_27 : xfetch 144 27 = some (.getfield 256, 3) := by decide +kernel
theorem n_144_27 : ∀ l, xpr 144 27 l = l := xpr_no (by decide +kernel)
theorem r_144_30 : xfetch 144 30 = some (.iload_n 1, 1) := by decide +kernel
theorem n_144_30 : ∀ l, xpr 144 30 l = l := xpr_no (by decide +kernel)
theorem r_144_31 : xfetch 144 31 = some (.aaload, 1) := by decide +kernel
theorem n_144_31 : ∀ l, xpr 144 31 l = l := xpr_no (by decide +kernel)
theorem r_144_32 : xfetch 144 32 = some (.getfield 275, 3) := by decide +kernel
theorem n_144_32 : ∀ l, xpr 144 32 l = l := xpr_no (by decide +kernel)
theorem r_144_35 : xfetch 144 35 = some (.invokevirtual 324, 3) := by decide +kernel
theorem n_144_35 : ∀ l, xpr 144 35 l = l := xpr_no (by decide +kernel)
theorem r_144_38 : xfetch 144 38 = some (.ireturn, 1) := by decide +kernel
theorem n_144_38 : ∀ l, xpr 144 38 l = l := xpr_no (by decide +kernel)
theorem v_RL_migrate_0 {S : Option (Nat × (Nat → Int32))} {s : zSt} {Q : Option Value ⊕ Nat → zSt → Prop} {x1 : Int} {x2 : Int} {x3 : Int} 
    (h : rng x1 ∧ ((0 ≤ x1 ∧ x1 < 3 ∧ zI s (31 + x1) 0 ≠ 0 → rng x2 ∧ ((0 ≤ x2 ∧ x2 < zI s 3 0 → rng x3 ∧ ((0 ≤ x3 ∧ x3 ≤ 8 → (0 ≤ x2 ∧ x2 < 6) ∧ ((1 ≤ zI s (7 + 4 * x2) 1 → (0 ≤ x1 ∧ x1 < 3) ∧ (wp S 140 0 [(0, rf 2), (1, iv x1), (2, iv x2), (3, iv x3), (4, iv (zI s (31 + x1) 4))] [] s (fun o12 s12 => zkI (fun y12 => Q (rI y12) s12) (fun e12 => Q (rT e12) s12) o12))) ∧ ((¬ (1 ≤ zI s (7 + 4 * x2) 1) → Q (rT 1) (zbump s))))) ∧ ((¬ (0 ≤ x3 ∧ x3 ≤ 8) → Q (rT 0) (zbump s))))) ∧ ((¬ (0 ≤ x2 ∧ x2 < zI s 3 0) → Q (rT 2) (zbump s))))) ∧ ((¬ (0 ≤ x1 ∧ x1 < 3 ∧ zI s (31 + x1) 0 ≠ 0) → Q (rT 2) (zbump s))))) :
    wp S 144 0 [(0, rf 2), (1, iv x1), (2, iv x2), (3, iv x3)] [] s Q := by
  refine i_aload_n (a := 2) r_144_0 (n_144_0 _) rfl ?_
  refine i_iload_n (x := x1) r_144_1 (n_144_1 _) rfl ?_
  obtain ⟨g1, h⟩ := h
  refine wp_virt (b := 2) (rest := []) (Ls := [(0, rf 2), (1, iv x1)]) r_144_2 (n_144_2 _) rfl ⟨rfl, rfl, by decide, by decide⟩ rfl rfl lf_2 ⟨rfl, Nat.le_of_ble_eq_true rfl, Nat.le_of_ble_eq_true rfl⟩ rfl (K_RL_checkTable g1) ?_
  rintro _ _ (⟨c2, rfl, rfl⟩ | ⟨c2, rfl, rfl⟩)
  · replace h := h.1 c2
    refine .inl ⟨none, rfl, ?_⟩
    show wp S 144 5 [(0, rf 2), (1, iv x1), (2, iv x2), (3, iv x3)] [] s Q
    refine i_aload_n (a := 2) r_144_5 (n_144_5 _) rfl ?_
    refine i_iload_n (x := x2) r_144_6 (n_144_6 _) rfl ?_
    obtain ⟨g3, h⟩ := h
    refine wp_virt (b := 2) (rest := []) (Ls := [(0, rf 2), (1, iv x2)]) r_144_7 (n_144_7 _) rfl ⟨rfl, rfl, by decide, by decide⟩ rfl rfl lf_2 ⟨rfl, Nat.le_of_ble_eq_true rfl, Nat.le_of_ble_eq_true rfl⟩ rfl (K_RL_checkRecord g3) ?_
    rintro _ _ (⟨c4, rfl, rfl⟩ | ⟨c4, rfl, rfl⟩)
    · replace h := h.1 c4
      refine .inl ⟨none, rfl, ?_⟩
      show wp S 144 10 [(0, rf 2), (1, iv x1), (2, iv x2), (3, iv x3)] [] s Q
      refine i_iload_n (x := x3) r_144_10 (n_144_10 _) rfl ?_
      obtain ⟨g5, h⟩ := h
      refine wp_stat (rest := []) (Ls := [(0, iv x3)]) r_144_11 (n_144_11 _) rfl ⟨rfl, by decide, by decide, by decide⟩ rfl rfl ⟨rfl, Nat.le_of_ble_eq_true rfl, Nat.le_of_ble_eq_true rfl⟩ rfl (K_RL_checkLayout g5) ?_
      rintro _ _ (⟨c6, rfl, rfl⟩ | ⟨c6, rfl, rfl⟩)
      · replace h := h.1 c6
        refine .inl ⟨none, rfl, ?_⟩
        show wp S 144 14 [(0, rf 2), (1, iv x1), (2, iv x2), (3, iv x3)] [] s Q
        refine i_aload_n (a := 2) r_144_14 (n_144_14 _) rfl ?_
        refine i_iload_n (x := x2) r_144_15 (n_144_15 _) rfl ?_
        obtain ⟨g7, h⟩ := h
        refine wp_virt (b := 2) (rest := []) (Ls := [(0, rf 2), (1, iv x2)]) r_144_16 (n_144_16 _) rfl ⟨rfl, rfl, by decide, by decide⟩ rfl rfl lf_2 ⟨rfl, Nat.le_of_ble_eq_true rfl, Nat.le_of_ble_eq_true rfl⟩ rfl (K_RL_checkHasFields g7) ?_
        rintro _ _ (⟨c8, rfl, rfl⟩ | ⟨c8, rfl, rfl⟩)
        · replace h := h.1 c8
          refine .inl ⟨none, rfl, ?_⟩
          show wp S 144 19 [(0, rf 2), (1, iv x1), (2, iv x2), (3, iv x3)] [] s Q
          refine i_aload_n (a := 2) r_144_19 (n_144_19 _) rfl ?_
          refine i_iload_n (x := x1) r_144_20 (n_144_20 _) rfl ?_
          refine i_iload_n (x := x2) r_144_21 (n_144_21 _) rfl ?_
          refine i_iload_n (x := x3) r_144_22 (n_144_22 _) rfl ?_
          refine i_aload_n (a := 2) r_144_23 (n_144_23 _) rfl ?_
          refine i_getR (a := 2) (b := 3) r_144_24 (n_144_24 _) rfl rfl rfl (by omega) lf_2 (by omega) ?_
          refine i_getR (a := 3) (b := 5) r_144_27 (n_144_27 _) rfl rfl rfl (by omega) lf_3 (by omega) ?_
          refine i_iload_n (x := x1) r_144_30 (n_144_30 _) rfl ?_
          obtain ⟨g9, h⟩ := h
          refine i_aaload (c := 6) (a := 5) (j := x1) (b := 31 + x1) r_144_31 (n_144_31 _) lf_5 ⟨by omega, by omega⟩ (by omega) (by omega) rfl (by omega) ?_
          have t10 := e_6 (j := x1) lf_5 (by omega) (by omega)
          rw [show 5 + 26 + 1 * x1 = 31 + x1 by omega] at t10
          refine i_getI (a := 31 + x1) r_144_32 (n_144_32 _) rfl (by decide) t10 (fun q11 => ?_)
          refine wp_virt (b := 2) (rest := []) (Ls := [(0, rf 2), (1, iv x1), (2, iv x2), (3, iv x3), (4, iv (zI s (31 + x1) 4))]) r_144_35 (n_144_35 _) rfl ⟨rfl, rfl, by decide, by decide⟩ rfl rfl lf_2 ⟨rfl, Nat.le_of_ble_eq_true rfl, Nat.le_of_ble_eq_true rfl⟩ rfl h ?_
          intro o12 s12 h
          rcases h with ⟨y12, q13, rfl, h⟩ | ⟨e12, rfl, h⟩
          · refine .inl ⟨some (iv y12), rfl, ?_⟩
            show wp S 144 38 [(0, rf 2), (1, iv x1), (2, iv x2), (3, iv x3)] [iv y12] s12 Q
            exact i_ireturn r_144_38 (n_144_38 _) rfl h
          · skip
            exact .inr ⟨e12, rfl, .inl ⟨rfl, h⟩⟩
        · replace h := h.2 c8
          exact .inr ⟨_, rfl, .inl ⟨rfl, h⟩⟩
      · replace h := h.2 c6
        exact .inr ⟨_, rfl, rfl, .inl ⟨rfl, h⟩⟩
    · replace h := h.2 c4
      exact .inr ⟨_, rfl, .inl ⟨rfl, h⟩⟩
  · replace h := h.2 c2
    exact .inr ⟨_, rfl, .inl ⟨rfl, h⟩⟩
theorem r_146_0 : xfetch 146 0 = some (.aload_n 0, 1) := by decide +kernel
theorem n_146_0 : ∀ l, xpr 146 0 l = l := xpr_no (by decide +kernel)
theorem r_146_1 : xfetch 146 1 = some (.iload_n 1, 1) := by decide +kernel
theorem n_146_1 : ∀ l, xpr 146 1 l = l := xpr_no (by decide +kernel)
theorem r_146_2 : xfetch 146 2 = some (.iload_n 2, 1) := by decide +kernel
theorem n_146_2 : ∀ l, xpr 146 2 l = l := xpr_no (by decide +kernel)
theorem r_146_3 : xfetch 146 3 = some (.invokevirtual 338, 3) := by decide +kernel
theorem n_146_3 : ∀ l, xpr 146 3 l = l := xpr_no (by decide +kernel)
theorem r_146_6 : xfetch 146 6 = some (.aload_n 0, 1) := by decide +kernel
theorem n_146_6 : ∀ l, xpr 146 6 l = l := xpr_no (by decide +kernel)
theorem r_146_7 : xfetch 146 7 = some (.invokevirtual 77, 3) := by decide +kernel
theorem n_146_7 : ∀ l, xpr 146 7 l = l := xpr_no (by decide +kernel)
theorem r_146_10 : xfetch 146 10 = some (.aload_n 0, 1) := by decide +kernel
theorem n_146_10 : ∀ l, xpr 146 10 l = l := xpr_no (by decide +kernel)
theorem r_146_11 : xfetch 146 11 = some (.iload_n 1, 1) := by decide +kernel
theorem n_146_11 : ∀ l, xpr 146 11 l = l := xpr_no (by decide +kernel)
theorem r_146_12 : xfetch 146 12 = some (.invokevirtual 293, 3) := by decide +kernel
theorem n_146_12 : ∀ l, xpr 146 12 l = l := xpr_no (by decide +kernel)
theorem r_146_15 : xfetch 146 15 = some (.aload_n 0, 1) := by decide +kernel
theorem n_146_15 : ∀ l, xpr 146 15 l = l := xpr_no (by decide +kernel)
theorem r_146_16 : xfetch 146 16 = some (.iload_n 2, 1) := by decide +kernel
theorem n_146_16 : ∀ l, xpr 146 16 l = l := xpr_no (by decide +kernel)
theorem r_146_17 : xfetch 146 17 = some (.iload_n 3, 1) := by decide +kernel
theorem n_146_17 : ∀ l, xpr 146 17 l = l := xpr_no (by decide +kernel)
theorem r_146_18 : xfetch 146 18 = some (.invokevirtual 341, 3) := by decide +kernel
theorem n_146_18 : ∀ l, xpr 146 18 l = l := xpr_no (by decide +kernel)
theorem r_146_21 : xfetch 146 21 = some (.iconst 0, 1) := by decide +kernel
theorem n_146_21 : ∀ l, xpr 146 21 l = l := xpr_no (by decide +kernel)
theorem r_146_22 : xfetch 146 22 = some (.istore 4, 2) := by decide +kernel
theorem n_146_22 : ∀ l, xpr 146 22 l = l := xpr_no (by decide +kernel)
theorem r_146_24 : xfetch 146 24 = some (.iload 4, 2) := by decide +kernel
theorem r_146_26 : xfetch 146 26 = some (.aload_n 0, 1) := by decide +kernel
theorem n_146_26 : ∀ l, xpr 146 26 l = l := xpr_no (by decide +kernel)
theorem r_146_27 : xfetch 146 27 = some (.getfield 47, 3) := by decide +kernel
theorem n_146_27 : ∀ l, xpr 146 27 l = l := xpr_no (by decide +kernel)
theorem r_146_30 : xfetch 146 30 = some (.getfield 345, 3) := by decide +kernel
theorem n_146_30 : ∀ l, xpr 146 30 l = l := xpr_no (by decide +kernel)
theorem r_146_33 : xfetch 146 33 = some (.if_icmp .ge 15, 3) := by decide +kernel
theorem n_146_33 : ∀ l, xpr 146 33 l = l := xpr_no (by decide +kernel)
theorem r_146_36 : xfetch 146 36 = some (.aload_n 0, 1) := by decide +kernel
theorem n_146_36 : ∀ l, xpr 146 36 l = l := xpr_no (by decide +kernel)
theorem r_146_37 : xfetch 146 37 = some (.iload 4, 2) := by decide +kernel
theorem n_146_37 : ∀ l, xpr 146 37 l = l := xpr_no (by decide +kernel)
theorem r_146_39 : xfetch 146 39 = some (.invokevirtual 347, 3) := by decide +kernel
theorem n_146_39 : ∀ l, xpr 146 39 l = l := xpr_no (by decide +kernel)
theorem r_146_42 : xfetch 146 42 = some (.iinc 4 1, 3) := by decide +kernel
theorem n_146_42 : ∀ l, xpr 146 42 l = l := xpr_no (by decide +kernel)
theorem r_146_45 : xfetch 146 45 = some (.goto (-21), 3) := by decide +kernel
theorem n_146_45 : ∀ l, xpr 146 45 l = l := xpr_no (by decide +kernel)
theorem r_146_48 : xfetch 146 48 = some (.iconst 0, 1) := by decide +kernel
theorem n_146_48 : ∀ l, xpr 146 48 l = l := xpr_no (by decide +kernel)
theorem r_146_49 : xfetch 146 49 = some (.istore 4, 2) := by decide +kernel
theorem n_146_49 : ∀ l, xpr 146 49 l = l := xpr_no (by decide +kernel)
theorem r_146_51 : xfetch 146 51 = some (.iconst 0, 1) := by decide +kernel
theorem n_146_51 : ∀ l, xpr 146 51 l = l := xpr_no (by decide +kernel)
theorem r_146_52 : xfetch 146 52 = some (.istore 5, 2) := by decide +kernel
theorem n_146_52 : ∀ l, xpr 146 52 l = l := xpr_no (by decide +kernel)
theorem r_146_54 : xfetch 146 54 = some (.iload 5, 2) := by decide +kernel
theorem r_146_56 : xfetch 146 56 = some (.aload_n 0, 1) := by decide +kernel
theorem n_146_56 : ∀ l, xpr 146 56 l = l := xpr_no (by decide +kernel)
theorem r_146_57 : xfetch 146 57 = some (.getfield 47, 3) := by decide +kernel
theorem n_146_57 : ∀ l, xpr 146 57 l = l := xpr_no (by decide +kernel)
theorem r_146_60 : xfetch 146 60 = some (.getfield 350, 3) := by decide +kernel
theorem n_146_60 : ∀ l, xpr 146 60 l = l := xpr_no (by decide +kernel)
theorem r_146_63 : xfetch 146 63 = some (.if_icmp .ge 24, 3) := by decide +kernel
theorem n_146_63 : ∀ l, xpr 146 63 l = l := xpr_no (by decide +kernel)
theorem r_146_66 : xfetch 146 66 = some (.aload_n 0, 1) := by decide +kernel
theorem n_146_66 : ∀ l, xpr 146 66 l = l := xpr_no (by decide +kernel)
theorem r_146_67 : xfetch 146 67 = some (.getfield 61, 3) := by decide +kernel
theorem n_146_67 : ∀ l, xpr 146 67 l = l := xpr_no (by decide +kernel)
theorem r_146_70 : xfetch 146 70 = some (.iload 5, 2) := by decide +kernel
theorem n_146_70 : ∀ l, xpr 146 70 l = l := xpr_no (by decide +kernel)
theorem r_146_72 : xfetch 146 72 = some (.iaload, 1) := by decide +kernel
theorem n_146_72 : ∀ l, xpr 146 72 l = l := xpr_no (by decide +kernel)
theorem r_146_73 : xfetch 146 73 = some (.iload 5, 2) := by decide +kernel
theorem n_146_73 : ∀ l, xpr 146 73 l = l := xpr_no (by decide +kernel)
theorem r_146_75 : xfetch 146 75 = some (.if_icmp .eq 6, 3) := by decide +kernel
theorem n_146_75 : ∀ l, xpr 146 75 l = l := xpr_no (by decide +kernel)
theorem r_146_78 : xfetch 146 78 = some (.iinc 4 1, 3) := by decide +kernel
theorem n_146_78 : ∀ l, xpr 146 78 l = l := xpr_no (by decide +kernel)
theorem r_146_81 : xfetch 146 81 = some (.iinc 5 1, 3) := by decide +kernel
theorem n_146_81 : ∀ l, xpr 146 81 l = l := xpr_no (by decide +kernel)
theorem r_146_84 : xfetch 146 84 = some (.goto (-30), 3) := by decide +kernel
theorem n_146_84 : ∀ l, xpr 146 84 l = l := xpr_no (by decide +kernel)
theorem r_146_87 : xfetch 146 87 = some (.iload 4, 2) := by decide +kernel
theorem n_146_87 : ∀ l, xpr 146 87 l = l := xpr_no (by decide +kernel)
theorem r_146_89 : xfetch 146 89 = some (.ireturn, 1) := by decide +kernel
theorem n_146_89 : ∀ l, xpr 146 89 l = l := xpr_no (by decide +kernel)
theorem v_RL_sort_0 {S : Option (Nat × (Nat → Int32))} {s : zSt} {Q : Option Value ⊕ Nat → zSt → Prop} {x1 : Int} {x2 : Int} {x3 : Int} 
    (h : rng x1 ∧ (rng x2 ∧ ((0 ≤ x1 → x1 < 3 → zI s (31 + x1) 0 ≠ 0 → 0 ≤ zI s (31 + x1) 1 ∧ zI s (31 + x1) 1 < zI s 3 0 ∧ zI s (31 + x1) 1 < 6) ∧ (((0 ≤ x1 ∧ x1 < 3 ∧ zI s (31 + x1) 0 ≠ 0) ∧ 0 ≤ x2 ∧ x2 < zI s (67 + 11 * zI s (31 + x1) 1) 0 → wp S 18 0 [(0, rf 2)] [] s (fun o5 s5 => zkU (wp S 120 0 [(0, rf 2), (1, iv x1)] [] s5 (fun o7 s7 => zkU (wp S 147 0 [(0, rf 2), (1, iv x2), (2, iv x3)] [] s7 (fun o9 s9 => zkU (wp S 146 24 [(0, rf 2), (4, iv 0)] [] s9 Q) (fun e9 => False) o9)) (fun e7 => False) o7)) (fun e5 => False) o5)) ∧ ((¬ ((0 ≤ x1 ∧ x1 < 3 ∧ zI s (31 + x1) 0 ≠ 0) ∧ 0 ≤ x2 ∧ x2 < zI s (67 + 11 * zI s (31 + x1) 1) 0) → Q (rT 2) (zbump s))))))) :
    wp S 146 0 [(0, rf 2), (1, iv x1), (2, iv x2), (3, iv x3)] [] s Q := by
  refine i_aload_n (a := 2) r_146_0 (n_146_0 _) rfl ?_
  refine i_iload_n (x := x1) r_146_1 (n_146_1 _) rfl ?_
  refine i_iload_n (x := x2) r_146_2 (n_146_2 _) rfl ?_
  obtain ⟨g1, h⟩ := h
  obtain ⟨g2, h⟩ := h
  obtain ⟨g3, h⟩ := h
  refine wp_virt (b := 2) (rest := []) (Ls := [(0, rf 2), (1, iv x1), (2, iv x2)]) r_146_3 (n_146_3 _) rfl ⟨rfl, rfl, by decide, by decide⟩ rfl rfl lf_2 ⟨rfl, Nat.le_of_ble_eq_true rfl, Nat.le_of_ble_eq_true rfl⟩ rfl (K_RL_checkLeafOfTable g1 g2 g3) ?_
  rintro _ _ (⟨c4, rfl, rfl⟩ | ⟨c4, rfl, rfl⟩)
  · replace h := h.1 c4
    refine .inl ⟨none, rfl, ?_⟩
    show wp S 146 6 [(0, rf 2), (1, iv x1), (2, iv x2), (3, iv x3)] [] s Q
    refine i_aload_n (a := 2) r_146_6 (n_146_6 _) rfl ?_
    refine wp_virt (b := 2) (rest := []) (Ls := [(0, rf 2)]) r_146_7 (n_146_7 _) rfl ⟨rfl, rfl, by decide, by decide⟩ rfl rfl lf_2 ⟨rfl, Nat.le_of_ble_eq_true rfl, Nat.le_of_ble_eq_true rfl⟩ rfl h ?_
    intro o5 s5 h
    rcases h with ⟨rfl, h⟩ | ⟨e5, rfl, h⟩
    · refine .inl ⟨none, rfl, ?_⟩
      refine i_aload_n (a := 2) r_146_10 (n_146_10 _) rfl ?_
      refine i_iload_n (x := x1) r_146_11 (n_146_11 _) rfl ?_
      refine wp_virt (b := 2) (rest := []) (Ls := [(0, rf 2), (1, iv x1)]) r_146_12 (n_146_12 _) rfl ⟨rfl, rfl, by decide, by decide⟩ rfl rfl lf_2 ⟨rfl, Nat.le_of_ble_eq_true rfl, Nat.le_of_ble_eq_true rfl⟩ rfl h ?_
      intro o7 s7 h
      rcases h with ⟨rfl, h⟩ | ⟨e7, rfl, h⟩
      · refine .inl ⟨none, rfl, ?_⟩
        refine i_aload_n (a := 2) r_146_15 (n_146_15 _) rfl ?_
        refine i_iload_n (x := x2) r_146_16 (n_146_16 _) rfl ?_
        refine i_iload_n (x := x3) r_146_17 (n_146_17 _) rfl ?_
        refine wp_virt (b := 2) (rest := []) (Ls := [(0, rf 2), (1, iv x2), (2, iv x3)]) r_146_18 (n_146_18 _) rfl ⟨rfl, rfl, by decide, by decide⟩ rfl rfl lf_2 ⟨rfl, Nat.le_of_ble_eq_true rfl, Nat.le_of_ble_eq_true rfl⟩ rfl h ?_
        intro o9 s9 h
        rcases h with ⟨rfl, h⟩ | ⟨e9, rfl, h⟩
        · refine .inl ⟨none, rfl, ?_⟩
          refine i_iconst r_146_21 (n_146_21 _) ?_
          refine i_istore (l' := [(0, rf 2), (1, iv x1), (2, iv x2), (3, iv x3), (4, iv 0)]) r_146_22 (n_146_22 _) (by decide) rfl ?_
          exact wp_pr (l' := [(0, rf 2), (4, iv 0)]) rfl h
        · skip
          exact h.elim
      · skip
        exact h.elim
    · skip
      exact h.elim
  · replace h := h.2 c4
    exact .inr ⟨_, rfl, .inl ⟨rfl, h⟩⟩
theorem v_RL_sort_24 {S : Option (Nat × (Nat → Int32))} {s : zSt} {Q : Option Value ⊕ Nat → zSt → Prop} {x4 : Int} 
    (h : rng x4 ∧ (((zI s 48 3) ≤ x4 → wp S 146 54 [(0, rf 2), (4, iv 0), (5, iv 0)] [] s Q) ∧ (x4 < (zI s 48 3) → wp S 148 0 [(0, rf 2), (1, iv x4)] [] s (fun o4 s4 => zkU (wp S 146 24 [(0, rf 2), (4, iv (x4 + 1))] [] s4 Q) (fun e4 => False) o4)))) :
    wp S 146 24 [(0, rf 2), (4, iv x4)] [] s Q := by
  refine i_iload (x := x4) r_146_24 rfl rfl ?_
  refine i_aload_n (a := 2) r_146_26 (n_146_26 _) rfl ?_
  refine i_getR (a := 2) (b := 48) r_146_27 (n_146_27 _) rfl rfl rfl (by omega) lf_2 (by omega) ?_
  refine i_getI (a := 48) r_146_30 (n_146_30 _) rfl (by decide) lf_48 (fun q1 => ?_)
  obtain ⟨g2, h⟩ := h
  refine i_icmp (t := 48) r_146_33 (n_146_33 _) rfl (T_ge g2 q1) (fun c3 => ?_) (fun c3 => ?_)
  · replace h := h.1 c3
    refine i_iconst r_146_48 (n_146_48 _) ?_
    refine i_istore (l' := [(0, rf 2), (4, iv 0)]) r_146_49 (n_146_49 _) (by decide) rfl ?_
    refine i_iconst r_146_51 (n_146_51 _) ?_
    refine i_istore (l' := [(0, rf 2), (4, iv 0), (5, iv 0)]) r_146_52 (n_146_52 _) (by decide) rfl ?_
    exact wp_pr (l' := [(0, rf 2), (4, iv 0), (5, iv 0)]) rfl h
  · replace h := h.2 c3
    refine i_aload_n (a := 2) r_146_36 (n_146_36 _) rfl ?_
    refine i_iload (x := x4) r_146_37 (n_146_37 _) rfl ?_
    refine wp_virt (b := 2) (rest := []) (Ls := [(0, rf 2), (1, iv x4)]) r_146_39 (n_146_39 _) rfl ⟨rfl, rfl, by decide, by decide⟩ rfl rfl lf_2 ⟨rfl, Nat.le_of_ble_eq_true rfl, Nat.le_of_ble_eq_true rfl⟩ rfl h ?_
    intro o4 s4 h
    rcases h with ⟨rfl, h⟩ | ⟨e4, rfl, h⟩
    · refine .inl ⟨none, rfl, ?_⟩
      refine i_iinc (x := x4) (l' := [(0, rf 2), (4, iv (x4 + 1))]) r_146_42 (n_146_42 _) (by decide) rfl rfl ?_
      refine i_goto (t := 24) r_146_45 (n_146_45 _) rfl ?_
      exact wp_pr (l' := [(0, rf 2), (4, iv (x4 + 1))]) rfl h
    · skip
      exact h.elim
theorem v_RL_sort_54 {S : Option (Nat × (Nat → Int32))} {s : zSt} {Q : Option Value ⊕ Nat → zSt → Prop} {x4 : Int} {x5 : Int} 
    (h : rng x5 ∧ (((zI s 48 2) ≤ x5 → Q (rI x4) s) ∧ (x5 < (zI s 48 2) → (0 ≤ x5 ∧ x5 < 12) ∧ (((zI s 60 x5) = x5 → wp S 146 54 [(0, rf 2), (4, iv x4), (5, iv (x5 + 1))] [] s Q) ∧ ((zI s 60 x5) ≠ x5 → wp S 146 54 [(0, rf 2), (4, iv (x4 + 1)), (5, iv (x5 + 1))] [] s Q))))) :
    wp S 146 54 [(0, rf 2), (4, iv x4), (5, iv x5)] [] s Q := by
  refine i_iload (x := x5) r_146_54 rfl rfl ?_
  refine i_aload_n (a := 2) r_146_56 (n_146_56 _) rfl ?_
  refine i_getR (a := 2) (b := 48) r_146_57 (n_146_57 _) rfl rfl rfl (by omega) lf_2 (by omega) ?_
  refine i_getI (a := 48) r_146_60 (n_146_60 _) rfl (by decide) lf_48 (fun q1 => ?_)
  obtain ⟨g2, h⟩ := h
  refine i_icmp (t := 87) r_146_63 (n_146_63 _) rfl (T_ge g2 q1) (fun c3 => ?_) (fun c3 => ?_)
  · replace h := h.1 c3
    refine i_iload (x := x4) r_146_87 (n_146_87 _) rfl ?_
    exact i_ireturn r_146_89 (n_146_89 _) rfl h
  · replace h := h.2 c3
    refine i_aload_n (a := 2) r_146_66 (n_146_66 _) rfl ?_
    refine i_getR (a := 2) (b := 60) r_146_67 (n_146_67 _) rfl rfl rfl (by omega) lf_2 (by omega) ?_
    refine i_iload (x := x5) r_146_70 (n_146_70 _) rfl ?_
    obtain ⟨g4, h⟩ := h
    refine i_iaload (a := 60) (j := x5) r_146_72 (n_146_72 _) lf_60 ⟨by omega, by omega⟩ (by omega) (by omega) (fun q5 => ?_)
    refine i_iload (x := x5) r_146_73 (n_146_73 _) rfl ?_
    refine i_icmp (t := 81) r_146_75 (n_146_75 _) rfl (T_eq q5 g2) (fun c6 => ?_) (fun c6 => ?_)
    · replace h := h.1 c6
      refine i_iinc (x := x5) (l' := [(0, rf 2), (4, iv x4), (5, iv (x5 + 1))]) r_146_81 (n_146_81 _) (by decide) rfl rfl ?_
      refine i_goto (t := 54) r_146_84 (n_146_84 _) rfl ?_
      exact wp_pr (l' := [(0, rf 2), (4, iv x4), (5, iv (x5 + 1))]) rfl h
    · replace h := h.2 c6
      refine i_iinc (x := x4) (l' := [(0, rf 2), (4, iv (x4 + 1)), (5, iv x5)]) r_146_78 (n_146_78 _) (by decide) rfl rfl ?_
      refine i_iinc (x := x5) (l' := [(0, rf 2), (4, iv (x4 + 1)), (5, iv (x5 + 1))]) r_146_81 (n_146_81 _) (by decide) rfl rfl ?_
      refine i_goto (t := 54) r_146_84 (n_146_84 _) rfl ?_
      exact wp_pr (l' := [(0, rf 2), (4, iv (x4 + 1)), (5, iv (x5 + 1))]) rfl h
theorem r_147_0 : xfetch 147 0 = some (.iconst 0, 1) := by decide +kernel
theorem n_147_0 : ∀ l, xpr 147 0 l = l := xpr_no (by decide +kernel)
theorem r_147_1 : xfetch 147 1 = some (.istore_n 3, 1) := by decide +kernel
theorem n_147_1 : ∀ l, xpr 147 1 l = l := xpr_no (by decide +kernel)
theorem r_147_2 : xfetch 147 2 = some (.iload_n 3, 1) := by decide +kernel
theorem r_147_3 : xfetch 147 3 = some (.aload_n 0, 1) := by decide +kernel
theorem n_147_3 : ∀ l, xpr 147 3 l = l := xpr_no (by decide +kernel)
theorem r_147_4 : xfetch 147 4 = some (.getfield 47, 3) := by decide +kernel
theorem n_147_4 : ∀ l, xpr 147 4 l = l := xpr_no (by decide +kernel)
theorem r_147_7 : xfetch 147 7 = some (.getfield 350, 3) := by decide +kernel
theorem n_147_7 : ∀ l, xpr 147 7 l = l := xpr_no (by decide +kernel)
theorem r_147_10 : xfetch 147 10 = some (.if_icmp .ge 127, 3) := by decide +kernel
theorem n_147_10 : ∀ l, xpr 147 10 l = l := xpr_no (by decide +kernel)
theorem r_147_13 : xfetch 147 13 = some (.aload_n 0, 1) := by decide +kernel
theorem n_147_13 : ∀ l, xpr 147 13 l = l := xpr_no (by decide +kernel)
theorem r_147_14 : xfetch 147 14 = some (.getfield 47, 3) := by decide +kernel
theorem n_147_14 : ∀ l, xpr 147 14 l = l := xpr_no (by decide +kernel)
theorem r_147_17 : xfetch 147 17 = some (.aload_n 0, 1) := by decide +kernel
theorem n_147_17 : ∀ l, xpr 147 17 l = l := xpr_no (by decide +kernel)
theorem r_147_18 : xfetch 147 18 = some (.getfield 10, 3) := by decide +kernel
theorem n_147_18 : ∀ l, xpr 147 18 l = l := xpr_no (by decide +kernel)
theorem r_147_21 : xfetch 147 21 = some (.getfield 299, 3) := by decide +kernel
theorem n_147_21 : ∀ l, xpr 147 21 l = l := xpr_no (by decide +kernel)
theorem r_147_24 : xfetch 147 24 = some (.iload_n 3, 1) := by decide +kernel
theorem n_147_24 : ∀ l, xpr 147 24 l = l := xpr_no (by decide +kernel)
theorem r_147_25 : xfetch 147 25 = some (.iload_n 1, 1) := by decide +kernel
theorem n_147_25 : ∀ l, xpr 147 25 l = l := xpr_no (by decide +kernel)
theorem r_147_26 : xfetch 147 26 = some (.invokevirtual 303, 3) := by decide +kernel
theorem n_147_26 : ∀ l, xpr 147 26 l = l := xpr_no (by decide +kernel)
theorem r_147_29 : xfetch 147 29 = some (.lstore 4, 2) := by decide +kernel
theorem n_147_29 : ∀ l, xpr 147 29 l = l := xpr_no (by decide +kernel)
theorem r_147_31 : xfetch 147 31 = some (.iload_n 3, 1) := by decide +kernel
theorem n_147_31 : ∀ l, xpr 147 31 l = l := xpr_no (by decide +kernel)
theorem r_147_32 : xfetch 147 32 = some (.istore 6, 2) := by decide +kernel
theorem n_147_32 : ∀ l, xpr 147 32 l = l := xpr_no (by decide +kernel)
theorem r_147_34 : xfetch 147 34 = some (.iload 6, 2) := by decide +kernel
theorem r_147_36 : xfetch 147 36 = some (.ifCond .le 78, 3) := by decide +kernel
theorem n_147_36 : ∀ l, xpr 147 36 l = l := xpr_no (by decide +kernel)
theorem r_147_39 : xfetch 147 39 = some (.iload_n 2, 1) := by decide +kernel
theorem n_147_39 : ∀ l, xpr 147 39 l = l := xpr_no (by decide +kernel)
theorem r_147_40 : xfetch 147 40 = some (.ifCond .eq 21, 3) := by decide +kernel
theorem n_147_40 : ∀ l, xpr 147 40 l = l := xpr_no (by decide +kernel)
theorem r_147_43 : xfetch 147 43 = some (.aload_n 0, 1) := by decide +kernel
theorem n_147_43 : ∀ l, xpr 147 43 l = l := xpr_no (by decide +kernel)
theorem r_147_44 : xfetch 147 44 = some (.getfield 65, 3) := by decide +kernel
theorem n_147_44 : ∀ l, xpr 147 44 l = l := xpr_no (by decide +kernel)
theorem r_147_47 : xfetch 147 47 = some (.iload 6, 2) := by decide +kernel
theorem n_147_47 : ∀ l, xpr 147 47 l = l := xpr_no (by decide +kernel)
theorem r_147_49 : xfetch 147 49 = some (.iconst 1, 1) := by decide +kernel
theorem n_147_49 : ∀ l, xpr 147 49 l = l := xpr_no (by decide +kernel)
theorem r_147_50 : xfetch 147 50 = some (.isub, 1) := by decide +kernel
theorem n_147_50 : ∀ l, xpr 147 50 l = l := xpr_no (by decide +kernel)
theorem r_147_51 : xfetch 147 51 = some (.laload, 1) := by decide +kernel
theorem n_147_51 : ∀ l, xpr 147 51 l = l := xpr_no (by decide +kernel)
theorem r_147_52 : xfetch 147 52 = some (.lload 4, 2) := by decide +kernel
theorem n_147_52 : ∀ l, xpr 147 52 l = l := xpr_no (by decide +kernel)
theorem r_147_54 : xfetch 147 54 = some (.lcmp, 1) := by decide +kernel
theorem n_147_54 : ∀ l, xpr 147 54 l = l := xpr_no (by decide +kernel)
theorem r_147_55 : xfetch 147 55 = some (.ifCond .ge 59, 3) := by decide +kernel
theorem n_147_55 : ∀ l, xpr 147 55 l = l := xpr_no (by decide +kernel)
theorem r_147_58 : xfetch 147 58 = some (.goto 18, 3) := by decide +kernel
theorem n_147_58 : ∀ l, xpr 147 58 l = l := xpr_no (by decide +kernel)
theorem r_147_61 : xfetch 147 61 = some (.aload_n 0, 1) := by decide +kernel
theorem n_147_61 : ∀ l, xpr 147 61 l = l := xpr_no (by decide +kernel)
theorem r_147_62 : xfetch 147 62 = some (.getfield 65, 3) := by decide +kernel
theorem n_147_62 : ∀ l, xpr 147 62 l = l := xpr_no (by decide +kernel)
theorem r_147_65 : xfetch 147 65 = some (.iload 6, 2) := by decide +kernel
theorem n_147_65 : ∀ l, xpr 147 65 l = l := xpr_no (by decide +kernel)
theorem r_147_67 : xfetch 147 67 = some (.iconst 1, 1) := by decide +kernel
theorem n_147_67 : ∀ l, xpr 147 67 l = l := xpr_no (by decide +kernel)
theorem r_147_68 : xfetch 147 68 = some (.isub, 1) := by decide +kernel
theorem n_147_68 : ∀ l, xpr 147 68 l = l := xpr_no (by decide +kernel)
theorem r_147_69 : xfetch 147 69 = some (.laload, 1) := by decide +kernel
theorem n_147_69 : ∀ l, xpr 147 69 l = l := xpr_no (by decide +kernel)
theorem r_147_70 : xfetch 147 70 = some (.lload 4, 2) := by decide +kernel
theorem n_147_70 : ∀ l, xpr 147 70 l = l := xpr_no (by decide +kernel)
theorem r_147_72 : xfetch 147 72 = some (.lcmp, 1) := by decide +kernel
theorem n_147_72 : ∀ l, xpr 147 72 l = l := xpr_no (by decide +kernel)
theorem r_147_73 : xfetch 147 73 = some (.ifCond .le 41, 3) := by decide +kernel
theorem n_147_73 : ∀ l, xpr 147 73 l = l := xpr_no (by decide +kernel)
theorem r_147_76 : xfetch 147 76 = some (.aload_n 0, 1) := by decide +kernel
theorem n_147_76 : ∀ l, xpr 147 76 l = l := xpr_no (by decide +kernel)
theorem r_147_77 : xfetch 147 77 = some (.getfield 65, 3) := by decide +kernel
theorem n_147_77 : ∀ l, xpr 147 77 l = l := xpr_no (by decide +kernel)
theorem r_147_80 : xfetch 147 80 = some (.iload 6, 2) := by decide +kernel
theorem n_147_80 : ∀ l, xpr 147 80 l = l := xpr_no (by decide +kernel)
theorem r_147_82 : xfetch 147 82 = some (.aload_n 0, 1) := by decide +kernel
theorem n_147_82 : ∀ l, xpr 147 82 l = l := xpr_no (by decide +kernel)
theorem r_147_83 : xfetch 147 83 = some (.getfield 65, 3) := by decide +kernel
theorem n_147_83 : ∀ l, xpr 147 83 l = l := xpr_no (by decide +kernel)
theorem r_147_86 : xfetch 147 86 = some (.iload 6, 2) := by decide +kernel
theorem n_147_86 : ∀ l, xpr 147 86 l = l := xpr_no (by decide +kernel)
theorem r_147_88 : xfetch 147 88 = some (.iconst 1, 1) := by decide +kernel
theorem n_147_88 : ∀ l, xpr 147 88 l = l := xpr_no (by decide +kernel)
theorem r_147_89 : xfetch 147 89 = some (.isub, 1) := by decide +kernel
theorem n_147_89 : ∀ l, xpr 147 89 l = l := xpr_no (by decide +kernel)
theorem r_147_90 : xfetch 147 90 = some (.laload, 1) := by decide +kernel
theorem n_147_90 : ∀ l, xpr 147 90 l = l := xpr_no (by decide +kernel)
theorem r_147_91 : xfetch 147 91 = some (.lastore, 1) := by decide +kernel
theorem n_147_91 : ∀ l, xpr 147 91 l = l := xpr_no (by decide +kernel)
theorem r_147_92 : xfetch 147 92 = some (.aload_n 0, 1) := by decide +kernel
theorem n_147_92 : ∀ l, xpr 147 92 l = l := xpr_no (by decide +kernel)
theorem r_147_93 : xfetch 147 93 = some (.getfield 61, 3) := by decide +kernel
theorem n_147_93 : ∀ l, xpr 147 93 l = l := xpr_no (by decide +kernel)
theorem r_147_96 : xfetch 147 96 = some (.iload 6, 2) := by decide +kernel
theorem n_147_96 : ∀ l, xpr 147 96 l = l := xpr_no (by decide +kernel)
theorem r_147_98 : xfetch 147 98 = some (.aload_n 0, 1) := by decide +kernel
theorem n_147_98 : ∀ l, xpr 147 98 l = l := xpr_no (by decide +kernel)
theorem r_147_99 : xfetch 147 99 = some (.getfield 61, 3) := by decide +kernel
theorem n_147_99 : ∀ l, xpr 147 99 l = l := xpr_no (by decide +kernel)
theorem r_147_102 : xfetch 147 102 = some (.iload 6, 2) := by decide +kernel
theorem n_147_102 : ∀ l, xpr 147 102 l = l := xpr_no (by decide +kernel)
theorem r_147_104 : xfetch 147 104 = some (.iconst 1, 1) := by decide +kernel
theorem n_147_104 : ∀ l, xpr 147 104 l = l := xpr_no (by decide +kernel)
theorem r_147_105 : xfetch 147 105 = some (.isub, 1) := by decide +kernel
theorem n_147_105 : ∀ l, xpr 147 105 l = l := xpr_no (by decide +kernel)
theorem r_147_106 : xfetch 147 106 = some (.iaload, 1) := by decide +kernel
theorem n_147_106 : ∀ l, xpr 147 106 l = l := xpr_no (by decide +kernel)
theorem r_147_107 : xfetch 147 107 = some (.iastore, 1) := by decide +kernel
theorem n_147_107 : ∀ l, xpr 147 107 l = l := xpr_no (by decide +kernel)
theorem r_147_108 : xfetch 147 108 = some (.iinc 6 (-1), 3) := by decide +kernel
theorem n_147_108 : ∀ l, xpr 147 108 l = l := xpr_no (by decide +kernel)
theorem r_147_111 : xfetch 147 111 = some (.goto (-77), 3) := by decide +kernel
theorem n_147_111 : ∀ l, xpr 147 111 l = l := xpr_no (by decide +kernel)
theorem r_147_114 : xfetch 147 114 = some (.aload_n 0, 1) := by decide +kernel
theorem n_147_114 : ∀ l, xpr 147 114 l = l := xpr_no (by decide +kernel)
theorem r_147_115 : xfetch 147 115 = some (.getfield 65, 3) := by decide +kernel
theorem n_147_115 : ∀ l, xpr 147 115 l = l := xpr_no (by decide +kernel)
theorem r_147_118 : xfetch 147 118 = some (.iload 6, 2) := by decide +kernel
theorem n_147_118 : ∀ l, xpr 147 118 l = l := xpr_no (by decide +kernel)
theorem r_147_120 : xfetch 147 120 = some (.lload 4, 2) := by decide +kernel
theorem n_147_120 : ∀ l, xpr 147 120 l = l := xpr_no (by decide +kernel)
theorem r_147_122 : xfetch 147 122 = some (.lastore, 1) := by decide +kernel
theorem n_147_122 : ∀ l, xpr 147 122 l = l := xpr_no (by decide +kernel)
theorem r_147_123 : xfetch 147 123 = some (.aload_n 0, 1) := by decide +kernel
theorem n_147_123 : ∀ l, xpr 147 123 l = l := xpr_no (by decide +kernel)
theorem r_147_124 : xfetch 147 124 = some (.getfield 61, 3) := by decide +kernel
theorem n_147_124 : ∀ l, xpr 147 124 l = l := xpr_no (by decide +kernel)
theorem r_147_127 : xfetch 147 127 = some (.iload 6, 2) := by decide +kernel
theorem n_147_127 : ∀ l, xpr 147 127 l = l := xpr_no (by decide +kernel)
theorem r_147_129 : xfetch 147 129 = some (.iload_n 3, 1) := by decide +kernel
theorem n_147_129 : ∀ l, xpr 147 129 l = l := xpr_no (by decide +kernel)
theorem r_147_130 : xfetch 147 130 = some (.iastore, 1) := by decide +kernel
theorem n_147_130 : ∀ l, xpr 147 130 l = l := xpr_no (by decide +kernel)
theorem r_147_131 : xfetch 147 131 = some (.iinc 3 1, 3) := by decide +kernel
theorem n_147_131 : ∀ l, xpr 147 131 l = l := xpr_no (by decide +kernel)
theorem r_147_134 : xfetch 147 134 = some (.goto (-132), 3) := by decide +kernel
theorem n_147_134 : ∀ l, xpr 147 134 l = l := xpr_no (by decide +kernel)
theorem r_147_137 : xfetch 147 137 = some (.return_, 1) := by decide +kernel
theorem n_147_137 : ∀ l, xpr 147 137 l = l := xpr_no (by decide +kernel)
theorem v_RL_orderRows_0 {S : Option (Nat × (Nat → Int32))} {s : zSt} {Q : Option Value ⊕ Nat → zSt → Prop} {x1 : Int} {x2 : Int} 
    (h : wp S 147 2 [(0, rf 2), (1, iv x1), (2, iv x2), (3, iv 0)] [] s Q) :
    wp S 147 0 [(0, rf 2), (1, iv x1), (2, iv x2)] [] s Q := by
  refine i_iconst r_147_0 (n_147_0 _) ?_
  refine i_istore_n (l' := [(0, rf 2), (1, iv x1), (2, iv x2), (3, iv 0)]) r_147_1 (n_147_1 _) (by decide) rfl ?_
  exact wp_pr (l' := [(0, rf 2), (1, iv x1), (2, iv x2), (3, iv 0)]) rfl h
theorem v_RL_orderRows_2 {S : Option (Nat × (Nat → Int32))} {s : zSt} {Q : Option Value ⊕ Nat → zSt → Prop} {x1 : Int} {x2 : Int} {x3 : Int} 
    (h : rng x3 ∧ (((zI s 48 2) ≤ x3 → Q rU s) ∧ (x3 < (zI s 48 2) → wp S 126 0 [(0, rf 48), (1, rf 6), (2, iv x3), (3, iv x1)] [] s (fun o4 s4 => zkL (fun y4 => wp S 147 34 [(0, rf 2), (1, iv x1), (2, iv x2), (3, iv x3), (4, .long y4), (6, iv x3)] [] s4 Q) (fun e4 => False) o4)))) :
    wp S 147 2 [(0, rf 2), (1, iv x1), (2, iv x2), (3, iv x3)] [] s Q := by
  refine i_iload_n (x := x3) r_147_2 rfl rfl ?_
  refine i_aload_n (a := 2) r_147_3 (n_147_3 _) rfl ?_
  refine i_getR (a := 2) (b := 48) r_147_4 (n_147_4 _) rfl rfl rfl (by omega) lf_2 (by omega) ?_
  refine i_getI (a := 48) r_147_7 (n_147_7 _) rfl (by decide) lf_48 (fun q1 => ?_)
  obtain ⟨g2, h⟩ := h
  refine i_icmp (t := 137) r_147_10 (n_147_10 _) rfl (T_ge g2 q1) (fun c3 => ?_) (fun c3 => ?_)
  · replace h := h.1 c3
    exact i_return r_147_137 (n_147_137 _) rfl h
  · replace h := h.2 c3
    refine i_aload_n (a := 2) r_147_13 (n_147_13 _) rfl ?_
    refine i_getR (a := 2) (b := 48) r_147_14 (n_147_14 _) rfl rfl rfl (by omega) lf_2 (by omega) ?_
    refine i_aload_n (a := 2) r_147_17 (n_147_17 _) rfl ?_
    refine i_getR (a := 2) (b := 3) r_147_18 (n_147_18 _) rfl rfl rfl (by omega) lf_2 (by omega) ?_
    refine i_getR (a := 3) (b := 6) r_147_21 (n_147_21 _) rfl rfl rfl (by omega) lf_3 (by omega) ?_
    refine i_iload_n (x := x3) r_147_24 (n_147_24 _) rfl ?_
    refine i_iload_n (x := x1) r_147_25 (n_147_25 _) rfl ?_
    refine wp_virt (b := 48) (rest := []) (Ls := [(0, rf 48), (1, rf 6), (2, iv x3), (3, iv x1)]) r_147_26 (n_147_26 _) rfl ⟨rfl, rfl, by decide, by decide⟩ rfl rfl lf_48 ⟨rfl, Nat.le_of_ble_eq_true rfl, Nat.le_of_ble_eq_true rfl⟩ rfl h ?_
    intro o4 s4 h
    rcases h with ⟨y4, rfl, h⟩ | ⟨e4, rfl, h⟩
    · refine .inl ⟨some (.long y4), rfl, ?_⟩
      show wp S 147 29 [(0, rf 2), (1, iv x1), (2, iv x2), (3, iv x3)] [.long y4] s4 Q
      refine i_lstore (l' := [(0, rf 2), (1, iv x1), (2, iv x2), (3, iv x3), (4, .long y4)]) r_147_29 (n_147_29 _) (by decide) rfl ?_
      refine i_iload_n (x := x3) r_147_31 (n_147_31 _) rfl ?_
      refine i_istore (l' := [(0, rf 2), (1, iv x1), (2, iv x2), (3, iv x3), (4, .long y4), (6, iv x3)]) r_147_32 (n_147_32 _) (by decide) rfl ?_
      exact wp_pr (l' := [(0, rf 2), (1, iv x1), (2, iv x2), (3, iv x3), (4, .long y4), (6, iv x3)]) rfl h
    · skip
      exact h.elim
theorem v_RL_orderRows_34 {S : Option (Nat × (Nat → Int32))} {s : zSt} {Q : Option Value ⊕ Nat → zSt → Prop} {x1 : Int} {x2 : Int} {x3 : Int} {u4 : Int64} {x6 : Int} 
    (h : rng x6 ∧ ((x6 ≤ 0 → (0 ≤ x6 ∧ x6 < 12) ∧ (rng x3 ∧ (wp S 147 2 [(0, rf 2), (1, iv x1), (2, iv x2), (3, iv (x3 + 1))] [] (zwI (zwL s 61 x6 u4) 60 x6 x3) Q))) ∧ (0 < x6 → rng x2 ∧ ((x2 = 0 → (0 ≤ (x6 - 1) ∧ (x6 - 1) < 12) ∧ (((zcmp (zL s 61 (x6 - 1)) u4) ≤ 0 → (0 ≤ x6 ∧ x6 < 12) ∧ (rng x3 ∧ (wp S 147 2 [(0, rf 2), (1, iv x1), (2, iv x2), (3, iv (x3 + 1))] [] (zwI (zwL s 61 x6 u4) 60 x6 x3) Q))) ∧ (0 < (zcmp (zL s 61 (x6 - 1)) u4) → (0 ≤ x6 ∧ x6 < 12) ∧ (wp S 147 34 [(0, rf 2), (1, iv x1), (2, iv x2), (3, iv x3), (4, .long u4), (6, iv (x6 + (-1)))] [] (zwI (zwL s 61 x6 (zL s 61 (x6 - 1))) 60 x6 (zI s 60 (x6 - 1))) Q)))) ∧ (x2 ≠ 0 → (0 ≤ (x6 - 1) ∧ (x6 - 1) < 12) ∧ ((0 ≤ (zcmp (zL s 61 (x6 - 1)) u4) → (0 ≤ x6 ∧ x6 < 12) ∧ (rng x3 ∧ (wp S 147 2 [(0, rf 2), (1, iv x1), (2, iv x2), (3, iv (x3 + 1))] [] (zwI (zwL s 61 x6 u4) 60 x6 x3) Q))) ∧ ((zcmp (zL s 61 (x6 - 1)) u4) < 0 → (0 ≤ x6 ∧ x6 < 12) ∧ (wp S 147 34 [(0, rf 2), (1, iv x1), (2, iv x2), (3, iv x3), (4, .long u4), (6, iv (x6 + (-1)))] [] (zwI (zwL s 61 x6 (zL s 61 (x6 - 1))) 60 x6 (zI s 60 (x6 - 1))) Q)))))))) :
    wp S 147 34 [(0, rf 2), (1, iv x1), (2, iv x2), (3, iv x3), (4, .long u4), (6, iv x6)] [] s Q := by
  refine i_iload (x := x6) r_147_34 rfl rfl ?_
  obtain ⟨g1, h⟩ := h
  refine i_if (t := 114) r_147_36 (n_147_36 _) rfl (T_le g1 ⟨by omega, by omega⟩) (fun c2 => ?_) (fun c2 => ?_)
  · replace h := h.1 c2
    refine i_aload_n (a := 2) r_147_114 (n_147_114 _) rfl ?_
    refine i_getR (a := 2) (b := 61) r_147_115 (n_147_115 _) rfl rfl rfl (by omega) lf_2 (by omega) ?_
    refine i_iload (x := x6) r_147_118 (n_147_118 _) rfl ?_
    refine i_lload (u := u4) r_147_120 (n_147_120 _) rfl ?_
    obtain ⟨g3, h⟩ := h
    refine i_lastore (a := 61) (j := x6) r_147_122 (n_147_122 _) lf_61 ⟨by omega, by omega⟩ (by omega) (by omega) ?_
    refine i_aload_n (a := 2) r_147_123 (n_147_123 _) rfl ?_
    refine i_getR (a := 2) (b := 60) r_147_124 (n_147_124 _) rfl rfl rfl (by omega) lf_2 (by omega) ?_
    refine i_iload (x := x6) r_147_127 (n_147_127 _) rfl ?_
    refine i_iload_n (x := x3) r_147_129 (n_147_129 _) rfl ?_
    obtain ⟨g4, h⟩ := h
    refine i_iastore (a := 60) (j := x6) (x := x3) r_147_130 (n_147_130 _) lf_60 ⟨by omega, by omega⟩ (by omega) (by omega) g4 ?_
    refine i_iinc (x := x3) (l' := [(0, rf 2), (1, iv x1), (2, iv x2), (3, iv (x3 + 1)), (4, .long u4), (6, iv x6)]) r_147_131 (n_147_131 _) (by decide) rfl rfl ?_
    refine i_goto (t := 2) r_147_134 (n_147_134 _) rfl ?_
    exact wp_pr (l' := [(0, rf 2), (1, iv x1), (2, iv x2), (3, iv (x3 + 1))]) rfl h
  · replace h := h.2 c2
    refine i_iload_n (x := x2) r_147_39 (n_147_39 _) rfl ?_
    obtain ⟨g5, h⟩ := h
    refine i_if (t := 61) r_147_40 (n_147_40 _) rfl (T_eq g5 ⟨by omega, by omega⟩) (fun c6 => ?_) (fun c6 => ?_)
    · replace h := h.1 c6
      refine i_aload_n (a := 2) r_147_61 (n_147_61 _) rfl ?_
      refine i_getR (a := 2) (b := 61) r_147_62 (n_147_62 _) rfl rfl rfl (by omega) lf_2 (by omega) ?_
      refine i_iload (x := x6) r_147_65 (n_147_65 _) rfl ?_
      refine i_iconst r_147_67 (n_147_67 _) ?_
      refine i_isub r_147_68 (n_147_68 _) ?_
      obtain ⟨g7, h⟩ := h
      refine i_laload (a := 61) (j := x6 - 1) r_147_69 (n_147_69 _) lf_61 ⟨by omega, by omega⟩ (by omega) (by omega) ?_
      refine i_lload (u := u4) r_147_70 (n_147_70 _) rfl ?_
      refine i_lcmp r_147_72 (n_147_72 _) ?_
      refine i_if (t := 114) r_147_73 (n_147_73 _) rfl (T_le (zcmp_rng _ _) ⟨by omega, by omega⟩) (fun c8 => ?_) (fun c8 => ?_)
      · replace h := h.1 c8
        refine i_aload_n (a := 2) r_147_114 (n_147_114 _) rfl ?_
        refine i_getR (a := 2) (b := 61) r_147_115 (n_147_115 _) rfl rfl rfl (by omega) lf_2 (by omega) ?_
        refine i_iload (x := x6) r_147_118 (n_147_118 _) rfl ?_
        refine i_lload (u := u4) r_147_120 (n_147_120 _) rfl ?_
        obtain ⟨g9, h⟩ := h
        refine i_lastore (a := 61) (j := x6) r_147_122 (n_147_122 _) lf_61 ⟨by omega, by omega⟩ (by omega) (by omega) ?_
        refine i_aload_n (a := 2) r_147_123 (n_147_123 _) rfl ?_
        refine i_getR (a := 2) (b := 60) r_147_124 (n_147_124 _) rfl rfl rfl (by omega) lf_2 (by omega) ?_
        refine i_iload (x := x6) r_147_127 (n_147_127 _) rfl ?_
        refine i_iload_n (x := x3) r_147_129 (n_147_129 _) rfl ?_
        obtain ⟨g10, h⟩ := h
        refine i_iastore (a := 60) (j := x6) (x := x3) r_147_130 (n_147_130 _) lf_60 ⟨by omega, by omega⟩ (by omega) (by omega) g10 ?_
        refine i_iinc (x := x3) (l' := [(0, rf 2), (1, iv x1), (2, iv x2), (3, iv (x3 + 1)), (4, .long u4), (6, iv x6)]) r_147_131 (n_147_131 _) (by decide) rfl rfl ?_
        refine i_goto (t := 2) r_147_134 (n_147_134 _) rfl ?_
        exact wp_pr (l' := [(0, rf 2), (1, iv x1), (2, iv x2), (3, iv (x3 + 1))]) rfl h
      · replace h := h.2 c8
        refine i_aload_n (a := 2) r_147_76 (n_147_76 _) rfl ?_
        refine i_getR (a := 2) (b := 61) r_147_77 (n_147_77 _) rfl rfl rfl (by omega) lf_2 (by omega) ?_
        refine i_iload (x := x6) r_147_80 (n_147_80 _) rfl ?_
        refine i_aload_n (a := 2) r_147_82 (n_147_82 _) rfl ?_
        refine i_getR (a := 2) (b := 61) r_147_83 (n_147_83 _) rfl rfl rfl (by omega) lf_2 (by omega) ?_
        refine i_iload (x := x6) r_147_86 (n_147_86 _) rfl ?_
        refine i_iconst r_147_88 (n_147_88 _) ?_
        refine i_isub r_147_89 (n_147_89 _) ?_
        refine i_laload (a := 61) (j := x6 - 1) r_147_90 (n_147_90 _) lf_61 ⟨by omega, by omega⟩ (by omega) (by omega) ?_
        obtain ⟨g11, h⟩ := h
        refine i_lastore (a := 61) (j := x6) r_147_91 (n_147_91 _) lf_61 ⟨by omega, by omega⟩ (by omega) (by omega) ?_
        refine i_aload_n (a := 2) r_147_92 (n_147_92 _) rfl ?_
        refine i_getR (a := 2) (b := 60) r_147_93 (n_147_93 _) rfl rfl rfl (by omega) lf_2 (by omega) ?_
        refine i_iload (x := x6) r_147_96 (n_147_96 _) rfl ?_
        refine i_aload_n (a := 2) r_147_98 (n_147_98 _) rfl ?_
        refine i_getR (a := 2) (b := 60) r_147_99 (n_147_99 _) rfl rfl rfl (by omega) lf_2 (by omega) ?_
        refine i_iload (x := x6) r_147_102 (n_147_102 _) rfl ?_
        refine i_iconst r_147_104 (n_147_104 _) ?_
        refine i_isub r_147_105 (n_147_105 _) ?_
        refine i_iaload (a := 60) (j := x6 - 1) r_147_106 (n_147_106 _) lf_60 ⟨by omega, by omega⟩ (by omega) (by omega) (fun q12 => ?_)
        have e13 : zI (zwL s 61 x6 (zL s 61 (x6 - 1))) 60 (x6 - 1) = zI s 60 (x6 - 1) := zI_wL _ _ _ _ _ _
        rw [e13] at q12 ⊢
        refine i_iastore (a := 60) (j := x6) (x := zI s 60 (x6 - 1)) r_147_107 (n_147_107 _) lf_60 ⟨by omega, by omega⟩ (by omega) (by omega) q12 ?_
        refine i_iinc (x := x6) (l' := [(0, rf 2), (1, iv x1), (2, iv x2), (3, iv x3), (4, .long u4), (6, iv (x6 + (-1)))]) r_147_108 (n_147_108 _) (by decide) rfl rfl ?_
        refine i_goto (t := 34) r_147_111 (n_147_111 _) rfl ?_
        exact wp_pr (l' := [(0, rf 2), (1, iv x1), (2, iv x2), (3, iv x3), (4, .long u4), (6, iv (x6 + (-1)))]) rfl h
    · replace h := h.2 c6
      refine i_aload_n (a := 2) r_147_43 (n_147_43 _) rfl ?_
      refine i_getR (a := 2) (b := 61) r_147_44 (n_147_44 _) rfl rfl rfl (by omega) lf_2 (by omega) ?_
      refine i_iload (x := x6) r_147_47 (n_147_47 _) rfl ?_
      refine i_iconst r_147_49 (n_147_49 _) ?_
      refine i_isub r_147_50 (n_147_50 _) ?_
      obtain ⟨g14, h⟩ := h
      refine i_laload (a := 61) (j := x6 - 1) r_147_51 (n_147_51 _) lf_61 ⟨by omega, by omega⟩ (by omega) (by omega) ?_
      refine i_lload (u := u4) r_147_52 (n_147_52 _) rfl ?_
      refine i_lcmp r_147_54 (n_147_54 _) ?_
      refine i_if (t := 114) r_147_55 (n_147_55 _) rfl (T_ge (zcmp_rng _ _) ⟨by omega, by omega⟩) (fun c15 => ?_) (fun c15 => ?_)
      · replace h := h.1 c15
        refine i_aload_n (a := 2) r_147_114 (n_147_114 _) rfl ?_
        refine i_getR (a := 2) (b := 61) r_147_115 (n_147_115 _) rfl rfl rfl (by omega) lf_2 (by omega) ?_
        refine i_iload (x := x6) r_147_118 (n_147_118 _) rfl ?_
        refine i_lload (u := u4) r_147_120 (n_147_120 _) rfl ?_
        obtain ⟨g16, h⟩ := h
        refine i_lastore (a := 61) (j := x6) r_147_122 (n_147_122 _) lf_61 ⟨by omega, by omega⟩ (by omega) (by omega) ?_
        refine i_aload_n (a := 2) r_147_123 (n_147_123 _) rfl ?_
        refine i_getR (a := 2) (b := 60) r_147_124 (n_147_124 _) rfl rfl rfl (by omega) lf_2 (by omega) ?_
        refine i_iload (x := x6) r_147_127 (n_147_127 _) rfl ?_
        refine i_iload_n (x := x3) r_147_129 (n_147_129 _) rfl ?_
        obtain ⟨g17, h⟩ := h
        refine i_iastore (a := 60) (j := x6) (x := x3) r_147_130 (n_147_130 _) lf_60 ⟨by omega, by omega⟩ (by omega) (by omega) g17 ?_
        refine i_iinc (x := x3) (l' := [(0, rf 2), (1, iv x1), (2, iv x2), (3, iv (x3 + 1)), (4, .long u4), (6, iv x6)]) r_147_131 (n_147_131 _) (by decide) rfl rfl ?_
        refine i_goto (t := 2) r_147_134 (n_147_134 _) rfl ?_
        exact wp_pr (l' := [(0, rf 2), (1, iv x1), (2, iv x2), (3, iv (x3 + 1))]) rfl h
      · replace h := h.2 c15
        refine i_goto (t := 76) r_147_58 (n_147_58 _) rfl ?_
        refine i_aload_n (a := 2) r_147_76 (n_147_76 _) rfl ?_
        refine i_getR (a := 2) (b := 61) r_147_77 (n_147_77 _) rfl rfl rfl (by omega) lf_2 (by omega) ?_
        refine i_iload (x := x6) r_147_80 (n_147_80 _) rfl ?_
        refine i_aload_n (a := 2) r_147_82 (n_147_82 _) rfl ?_
        refine i_getR (a := 2) (b := 61) r_147_83 (n_147_83 _) rfl rfl rfl (by omega) lf_2 (by omega) ?_
        refine i_iload (x := x6) r_147_86 (n_147_86 _) rfl ?_
        refine i_iconst r_147_88 (n_147_88 _) ?_
        refine i_isub r_147_89 (n_147_89 _) ?_
        refine i_laload (a := 61) (j := x6 - 1) r_147_90 (n_147_90 _) lf_61 ⟨by omega, by omega⟩ (by omega) (by omega) ?_
        obtain ⟨g18, h⟩ := h
        refine i_lastore (a := 61) (j := x6) r_147_91 (n_147_91 _) lf_61 ⟨by omega, by omega⟩ (by omega) (by omega) ?_
        refine i_aload_n (a := 2) r_147_92 (n_147_92 _) rfl ?_
        refine i_getR (a := 2) (b := 60) r_147_93 (n_147_93 _) rfl rfl rfl (by omega) lf_2 (by omega) ?_
        refine i_iload (x := x6) r_147_96 (n_147_96 _) rfl ?_
        refine i_aload_n (a := 2) r_147_98 (n_147_98 _) rfl ?_
        refine i_getR (a := 2) (b := 60) r_147_99 (n_147_99 _) rfl rfl rfl (by omega) lf_2 (by omega) ?_
        refine i_iload (x := x6) r_147_102 (n_147_102 _) rfl ?_
        refine i_iconst r_147_104 (n_147_104 _) ?_
        refine i_isub r_147_105 (n_147_105 _) ?_
        refine i_iaload (a := 60) (j := x6 - 1) r_147_106 (n_147_106 _) lf_60 ⟨by omega, by omega⟩ (by omega) (by omega) (fun q19 => ?_)
        have e20 : zI (zwL s 61 x6 (zL s 61 (x6 - 1))) 60 (x6 - 1) = zI s 60 (x6 - 1) := zI_wL _ _ _ _ _ _
        rw [e20] at q19 ⊢
        refine i_iastore (a := 60) (j := x6) (x := zI s 60 (x6 - 1)) r_147_107 (n_147_107 _) lf_60 ⟨by omega, by omega⟩ (by omega) (by omega) q19 ?_
        refine i_iinc (x := x6) (l' := [(0, rf 2), (1, iv x1), (2, iv x2), (3, iv x3), (4, .long u4), (6, iv (x6 + (-1)))]) r_147_108 (n_147_108 _) (by decide) rfl rfl ?_
        refine i_goto (t := 34) r_147_111 (n_147_111 _) rfl ?_
        exact wp_pr (l' := [(0, rf 2), (1, iv x1), (2, iv x2), (3, iv x3), (4, .long u4), (6, iv (x6 + (-1)))]) rfl h
theorem r_148_0 : xfetch 148 0 = some (.iconst 0, 1) := by decide +kernel
theorem n_148_0 : ∀ l, xpr 148 0 l = l := xpr_no (by decide +kernel)
theorem r_148_1 : xfetch 148 1 = some (.istore_n 2, 1) := by decide +kernel
theorem n_148_1 : ∀ l, xpr 148 1 l = l := xpr_no (by decide +kernel)
theorem r_148_2 : xfetch 148 2 = some (.iload_n 2, 1) := by decide +kernel
theorem r_148_3 : xfetch 148 3 = some (.aload_n 0, 1) := by decide +kernel
theorem n_148_3 : ∀ l, xpr 148 3 l = l := xpr_no (by decide +kernel)
theorem r_148_4 : xfetch 148 4 = some (.getfield 47, 3) := by decide +kernel
theorem n_148_4 : ∀ l, xpr 148 4 l = l := xpr_no (by decide +kernel)
theorem r_148_7 : xfetch 148 7 = some (.getfield 350, 3) := by decide +kernel
theorem n_148_7 : ∀ l, xpr 148 7 l = l := xpr_no (by decide +kernel)
theorem r_148_10 : xfetch 148 10 = some (.if_icmp .ge 36, 3) := by decide +kernel
theorem n_148_10 : ∀ l, xpr 148 10 l = l := xpr_no (by decide +kernel)
theorem r_148_13 : xfetch 148 13 = some (.aload_n 0, 1) := by decide +kernel
theorem n_148_13 : ∀ l, xpr 148 13 l = l := xpr_no (by decide +kernel)
theorem r_148_14 : xfetch 148 14 = some (.getfield 65, 3) := by decide +kernel
theorem n_148_14 : ∀ l, xpr 148 14 l = l := xpr_no (by decide +kernel)
theorem r_148_17 : xfetch 148 17 = some (.iload_n 2, 1) := by decide +kernel
theorem n_148_17 : ∀ l, xpr 148 17 l = l := xpr_no (by decide +kernel)
theorem r_148_18 : xfetch 148 18 = some (.aload_n 0, 1) := by decide +kernel
theorem n_148_18 : ∀ l, xpr 148 18 l = l := xpr_no (by decide +kernel)
theorem r_148_19 : xfetch 148 19 = some (.getfield 47, 3) := by decide +kernel
theorem n_148_19 : ∀ l, xpr 148 19 l = l := xpr_no (by decide +kernel)
theorem r_148_22 : xfetch 148 22 = some (.aload_n 0, 1) := by decide +kernel
theorem n_148_22 : ∀ l, xpr 148 22 l = l := xpr_no (by decide +kernel)
theorem r_148_23 : xfetch 148 23 = some (.getfield 10, 3) := by decide +kernel
theorem n_148_23 : ∀ l, xpr 148 23 l = l := xpr_no (by decide +kernel)
theorem r_148_26 : xfetch 148 26 = some (.getfield 299, 3) := by decide +kernel
theorem n_148_26 : ∀ l, xpr 148 26 l = l := xpr_no (by decide +kernel)
theorem r_148_29 : xfetch 148 29 = some (.aload_n 0, 1) := by decide +kernel
theorem n_148_29 : ∀ l, xpr 148 29 l = l := xpr_no (by decide +kernel)
theorem r_148_30 : xfetch 148 30 = some (.getfield 61, 3) := by decide +kernel
theorem n_148_30 : ∀ l, xpr 148 30 l = l := xpr_no (by decide +kernel)
theorem r_148_33 : xfetch 148 33 = some (.iload_n 2, 1) := by decide +kernel
theorem n_148_33 : ∀ l, xpr 148 33 l = l := xpr_no (by decide +kernel)
theorem r_148_34 : xfetch 148 34 = some (.iaload, 1) := by decide +kernel
theorem n_148_34 : ∀ l, xpr 148 34 l = l := xpr_no (by decide +kernel)
theorem r_148_35 : xfetch 148 35 = some (.iload_n 1, 1) := by decide +kernel
theorem n_148_35 : ∀ l, xpr 148 35 l = l := xpr_no (by decide +kernel)
theorem r_148_36 : xfetch 148 36 = some (.invokevirtual 303, 3) := by decide +kernel
theorem n_148_36 : ∀ l, xpr 148 36 l = l := xpr_no (by decide +kernel)
theorem r_148_39 : xfetch 148 39 = some (.lastore, 1) := by decide +kernel
theorem n_148_39 : ∀ l, xpr 148 39 l = l := xpr_no (by decide +kernel)
theorem r_148_40 : xfetch 148 40 = some (.iinc 2 1, 3) := by decide +kernel
theorem n_148_40 : ∀ l, xpr 148 40 l = l := xpr_no (by decide +kernel)
theorem r_148_43 : xfetch 148 43 = some (.goto (-41), 3) := by decide +kernel
theorem n_148_43 : ∀ l, xpr 148 43 l = l := xpr_no (by decide +kernel)
theorem r_148_46 : xfetch 148 46 = some (.iconst 0, 1) := by decide +kernel
theorem n_148_46 : ∀ l, xpr 148 46 l = l := xpr_no (by decide +kernel)
theorem r_148_47 : xfetch 148 47 = some (.istore_n 2, 1) := by decide +kernel
theorem n_148_47 : ∀ l, xpr 148 47 l = l := xpr_no (by decide +kernel)
theorem r_148_48 : xfetch 148 48 = some (.iload_n 2, 1) := by decide +kernel
theorem r_148_49 : xfetch 148 49 = some (.aload_n 0, 1) := by decide +kernel
theorem n_148_49 : ∀ l, xpr 148 49 l = l := xpr_no (by decide +kernel)
theorem r_148_50 : xfetch 148 50 = some (.getfield 47, 3) := by decide +kernel
theorem n_148_50 : ∀ l, xpr 148 50 l = l := xpr_no (by decide +kernel)
theorem r_148_53 : xfetch 148 53 = some (.getfield 350, 3) := by decide +kernel
theorem n_148_53 : ∀ l, xpr 148 53 l = l := xpr_no (by decide +kernel)
theorem r_148_56 : xfetch 148 56 = some (.if_icmp .ge 31, 3) := by decide +kernel
theorem n_148_56 : ∀ l, xpr 148 56 l = l := xpr_no (by decide +kernel)
theorem r_148_59 : xfetch 148 59 = some (.aload_n 0, 1) := by decide +kernel
theorem n_148_59 : ∀ l, xpr 148 59 l = l := xpr_no (by decide +kernel)
theorem r_148_60 : xfetch 148 60 = some (.getfield 47, 3) := by decide +kernel
theorem n_148_60 : ∀ l, xpr 148 60 l = l := xpr_no (by decide +kernel)
theorem r_148_63 : xfetch 148 63 = some (.aload_n 0, 1) := by decide +kernel
theorem n_148_63 : ∀ l, xpr 148 63 l = l := xpr_no (by decide +kernel)
theorem r_148_64 : xfetch 148 64 = some (.getfield 10, 3) := by decide +kernel
theorem n_148_64 : ∀ l, xpr 148 64 l = l := xpr_no (by decide +kernel)
theorem r_148_67 : xfetch 148 67 = some (.getfield 299, 3) := by decide +kernel
theorem n_148_67 : ∀ l, xpr 148 67 l = l := xpr_no (by decide +kernel)
theorem r_148_70 : xfetch 148 70 = some (.iload_n 2, 1) := by decide +kernel
theorem n_148_70 : ∀ l, xpr 148 70 l = l := xpr_no (by decide +kernel)
theorem r_148_71 : xfetch 148 71 = some (.iload_n 1, 1) := by decide +kernel
theorem n_148_71 : ∀ l, xpr 148 71 l = l := xpr_no (by decide +kernel)
theorem r_148_72 : xfetch 148 72 = some (.aload_n 0, 1) := by decide +kernel
theorem n_148_72 : ∀ l, xpr 148 72 l = l := xpr_no (by decide +kernel)
theorem r_148_73 : xfetch 148 73 = some (.getfield 65, 3) := by decide +kernel
theorem n_148_73 : ∀ l, xpr 148 73 l = l := xpr_no (by decide +kernel)
theorem r_148_76 : xfetch 148 76 = some (.iload_n 2, 1) := by decide +kernel
theorem n_148_76 : ∀ l, xpr 148 76 l = l := xpr_no (by decide +kernel)
theorem r_148_77 : xfetch 148 77 = some (.laload, 1) := by decide +kernel
theorem n_148_77 : ∀ l, xpr 148 77 l = l := xpr_no (by decide +kernel)
theorem r_148_78 : xfetch 148 78 = some (.invokevirtual 307, 3) := by decide +kernel
theorem n_148_78 : ∀ l, xpr 148 78 l = l := xpr_no (by decide +kernel)
theorem r_148_81 : xfetch 148 81 = some (.iinc 2 1, 3) := by decide +kernel
theorem n_148_81 : ∀ l, xpr 148 81 l = l := xpr_no (by decide +kernel)
theorem r_148_84 : xfetch 148 84 = some (.goto (-36), 3) := by decide +kernel
theorem n_148_84 : ∀ l, xpr 148 84 l = l := xpr_no (by decide +kernel)
theorem r_148_87 : xfetch 148 87 = some (.return_, 1) := by decide +kernel
theorem n_148_87 : ∀ l, xpr 148 87 l = l := xpr_no (by decide +kernel)
theorem v_RL_reorderColumn_0 {S : Option (Nat × (Nat → Int32))} {s : zSt} {Q : Option Value ⊕ Nat → zSt → Prop} {x1 : Int} 
    (h : wp S 148 2 [(0, rf 2), (1, iv x1), (2, iv 0)] [] s Q) :
    wp S 148 0 [(0, rf 2), (1, iv x1)] [] s Q := by
  refine i_iconst r_148_0 (n_148_0 _) ?_
  refine i_istore_n (l' := [(0, rf 2), (1, iv x1), (2, iv 0)]) r_148_1 (n_148_1 _) (by decide) rfl ?_
  exact wp_pr (l' := [(0, rf 2), (1, iv x1), (2, iv 0)]) rfl h
theorem v_RL_reorderColumn_2 {S : Option (Nat × (Nat → Int32))} {s : zSt} {Q : Option Value ⊕ Nat → zSt → Prop} {x1 : Int} {x2 : Int} 
    (h : rng x2 ∧ (((zI s 48 2) ≤ x2 → wp S 148 48 [(0, rf 2), (1, iv x1), (2, iv 0)] [] s Q) ∧ (x2 < (zI s 48 2) → (0 ≤ x2 ∧ x2 < 12) ∧ (wp S 126 0 [(0, rf 48), (1, rf 6), (2, iv (zI s 60 x2)), (3, iv x1)] [] s (fun o6 s6 => zkL (fun y6 => wp S 148 2 [(0, rf 2), (1, iv x1), (2, iv (x2 + 1))] [] (zwL s6 61 x2 y6) Q) (fun e6 => False) o6))))) :
    wp S 148 2 [(0, rf 2), (1, iv x1), (2, iv x2)] [] s Q := by
  refine i_iload_n (x := x2) r_148_2 rfl rfl ?_
  refine i_aload_n (a := 2) r_148_3 (n_148_3 _) rfl ?_
  refine i_getR (a := 2) (b := 48) r_148_4 (n_148_4 _) rfl rfl rfl (by omega) lf_2 (by omega) ?_
  refine i_getI (a := 48) r_148_7 (n_148_7 _) rfl (by decide) lf_48 (fun q1 => ?_)
  obtain ⟨g2, h⟩ := h
  refine i_icmp (t := 46) r_148_10 (n_148_10 _) rfl (T_ge g2 q1) (fun c3 => ?_) (fun c3 => ?_)
  · replace h := h.1 c3
    refine i_iconst r_148_46 (n_148_46 _) ?_
    refine i_istore_n (l' := [(0, rf 2), (1, iv x1), (2, iv 0)]) r_148_47 (n_148_47 _) (by decide) rfl ?_
    exact wp_pr (l' := [(0, rf 2), (1, iv x1), (2, iv 0)]) rfl h
  · replace h := h.2 c3
    refine i_aload_n (a := 2) r_148_13 (n_148_13 _) rfl ?_
    refine i_getR (a := 2) (b := 61) r_148_14 (n_148_14 _) rfl rfl rfl (by omega) lf_2 (by omega) ?_
    refine i_iload_n (x := x2) r_148_17 (n_148_17 _) rfl ?_
    refine i_aload_n (a := 2) r_148_18 (n_148_18 _) rfl ?_
    refine i_getR (a := 2) (b := 48) r_148_19 (n_148_19 _) rfl rfl rfl (by omega) lf_2 (by omega) ?_
    refine i_aload_n (a := 2) r_148_22 (n_148_22 _) rfl ?_
    refine i_getR (a := 2) (b := 3) r_148_23 (n_148_23 _) rfl rfl rfl (by omega) lf_2 (by omega) ?_
    refine i_getR (a := 3) (b := 6) r_148_26 (n_148_26 _) rfl rfl rfl (by omega) lf_3 (by omega) ?_
    refine i_aload_n (a := 2) r_148_29 (n_148_29 _) rfl ?_
    refine i_getR (a := 2) (b := 60) r_148_30 (n_148_30 _) rfl rfl rfl (by omega) lf_2 (by omega) ?_
    refine i_iload_n (x := x2) r_148_33 (n_148_33 _) rfl ?_
    obtain ⟨g4, h⟩ := h
    refine i_iaload (a := 60) (j := x2) r_148_34 (n_148_34 _) lf_60 ⟨by omega, by omega⟩ (by omega) (by omega) (fun q5 => ?_)
    refine i_iload_n (x := x1) r_148_35 (n_148_35 _) rfl ?_
    refine wp_virt (b := 48) (rest := [iv x2, rf 61]) (Ls := [(0, rf 48), (1, rf 6), (2, iv (zI s 60 x2)), (3, iv x1)]) r_148_36 (n_148_36 _) rfl ⟨rfl, rfl, by decide, by decide⟩ rfl rfl lf_48 ⟨rfl, Nat.le_of_ble_eq_true rfl, Nat.le_of_ble_eq_true rfl⟩ rfl h ?_
    intro o6 s6 h
    rcases h with ⟨y6, rfl, h⟩ | ⟨e6, rfl, h⟩
    · refine .inl ⟨some (.long y6), rfl, ?_⟩
      show wp S 148 39 [(0, rf 2), (1, iv x1), (2, iv x2)] [.long y6, iv x2, rf 61] s6 Q
      refine i_lastore (a := 61) (j := x2) r_148_39 (n_148_39 _) lf_61 ⟨by omega, by omega⟩ (by omega) (by omega) ?_
      refine i_iinc (x := x2) (l' := [(0, rf 2), (1, iv x1), (2, iv (x2 + 1))]) r_148_40 (n_148_40 _) (by decide) rfl rfl ?_
      refine i_goto (t := 2) r_148_43 (n_148_43 _) rfl ?_
      exact wp_pr (l' := [(0, rf 2), (1, iv x1), (2, iv (x2 + 1))]) rfl h
    · skip
      exact h.elim
theorem v_RL_reorderColumn_48 {S : Option (Nat × (Nat → Int32))} {s : zSt} {Q : Option Value ⊕ Nat → zSt → Prop} {x1 : Int} {x2 : Int} 
    (h : rng x2 ∧ (((zI s 48 2) ≤ x2 → Q rU s) ∧ (x2 < (zI s 48 2) → (0 ≤ x2 ∧ x2 < 12) ∧ (wp S 131 0 [(0, rf 48), (1, rf 6), (2, iv x2), (3, iv x1), (4, .long (zL s 61 x2))] [] s (fun o5 s5 => zkU (wp S 148 48 [(0, rf 2), (1, iv x1), (2, iv (x2 + 1))] [] s5 Q) (fun e5 => False) o5))))) :
    wp S 148 48 [(0, rf 2), (1, iv x1), (2, iv x2)] [] s Q := by
  refine i_iload_n (x := x2) r_148_48 rfl rfl ?_
  refine i_aload_n (a := 2) r_148_49 (n_148_49 _) rfl ?_
  refine i_getR (a := 2) (b := 48) r_148_50 (n_148_50 _) rfl rfl rfl (by omega) lf_2 (by omega) ?_
  refine i_getI (a := 48) r_148_53 (n_148_53 _) rfl (by decide) lf_48 (fun q1 => ?_)
  obtain ⟨g2, h⟩ := h
  refine i_icmp (t := 87) r_148_56 (n_148_56 _) rfl (T_ge g2 q1) (fun c3 => ?_) (fun c3 => ?_)
  · replace h := h.1 c3
    exact i_return r_148_87 (n_148_87 _) rfl h
  · replace h := h.2 c3
    refine i_aload_n (a := 2) r_148_59 (n_148_59 _) rfl ?_
    refine i_getR (a := 2) (b := 48) r_148_60 (n_148_60 _) rfl rfl rfl (by omega) lf_2 (by omega) ?_
    refine i_aload_n (a := 2) r_148_63 (n_148_63 _) rfl ?_
    refine i_getR (a := 2) (b := 3) r_148_64 (n_148_64 _) rfl rfl rfl (by omega) lf_2 (by omega) ?_
    refine i_getR (a := 3) (b := 6) r_148_67 (n_148_67 _) rfl rfl rfl (by omega) lf_3 (by omega) ?_
    refine i_iload_n (x := x2) r_148_70 (n_148_70 _) rfl ?_
    refine i_iload_n (x := x1) r_148_71 (n_148_71 _) rfl ?_
    refine i_aload_n (a := 2) r_148_72 (n_148_72 _) rfl ?_
    refine i_getR (a := 2) (b := 61) r_148_73 (n_148_73 _) rfl rfl rfl (by omega) lf_2 (by omega) ?_
    refine i_iload_n (x := x2) r_148_76 (n_148_76 _) rfl ?_
    obtain ⟨g4, h⟩ := h
    refine i_laload (a := 61) (j := x2) r_148_77 (n_148_77 _) lf_61 ⟨by omega, by omega⟩ (by omega) (by omega) ?_
    refine wp_virt (b := 48) (rest := []) (Ls := [(0, rf 48), (1, rf 6), (2, iv x2), (3, iv x1), (4, .long (zL s 61 x2))]) r_148_78 (n_148_78 _) rfl ⟨rfl, rfl, by decide, by decide⟩ rfl rfl lf_48 ⟨rfl, Nat.le_of_ble_eq_true rfl, Nat.le_of_ble_eq_true rfl⟩ rfl h ?_
    intro o5 s5 h
    rcases h with ⟨rfl, h⟩ | ⟨e5, rfl, h⟩
    · refine .inl ⟨none, rfl, ?_⟩
      refine i_iinc (x := x2) (l' := [(0, rf 2), (1, iv x1), (2, iv (x2 + 1))]) r_148_81 (n_148_81 _) (by decide) rfl rfl ?_
      refine i_goto (t := 48) r_148_84 (n_148_84 _) rfl ?_
      exact wp_pr (l' := [(0, rf 2), (1, iv x1), (2, iv (x2 + 1))]) rfl h
    · skip
      exact h.elim
theorem r_150_0 : xfetch 150 0 = some (.aload_n 0, 1) := by decide +kernel
theorem n_150_0 : ∀ l, xpr 150 0 l = l := xpr_no (by decide +kernel)
theorem r_150_1 : xfetch 150 1 = some (.iload_n 1, 1) := by decide +kernel
theorem n_150_1 : ∀ l, xpr 150 1 l = l := xpr_no (by decide +kernel)
theorem r_150_2 : xfetch 150 2 = some (.iload_n 2, 1) := by decide +kernel
theorem n_150_2 : ∀ l, xpr 150 2 l = l := xpr_no (by decide +kernel)
theorem r_150_3 : xfetch 150 3 = some (.invokevirtual 338, 3) := by decide +kernel
theorem n_150_3 : ∀ l, xpr 150 3 l = l := xpr_no (by decide +kernel)
theorem r_150_6 : xfetch 150 6 = some (.aload_n 0, 1) := by decide +kernel
theorem n_150_6 : ∀ l, xpr 150 6 l = l := xpr_no (by decide +kernel)
theorem r_150_7 : xfetch 150 7 = some (.invokevirtual 77, 3) := by decide +kernel
theorem n_150_7 : ∀ l, xpr 150 7 l = l := xpr_no (by decide +kernel)
theorem r_150_10 : xfetch 150 10 = some (.aload_n 0, 1) := by decide +kernel
theorem n_150_10 : ∀ l, xpr 150 10 l = l := xpr_no (by decide +kernel)
theorem r_150_11 : xfetch 150 11 = some (.iload_n 1, 1) := by decide +kernel
theorem n_150_11 : ∀ l, xpr 150 11 l = l := xpr_no (by decide +kernel)
theorem r_150_12 : xfetch 150 12 = some (.invokevirtual 293, 3) := by decide +kernel
theorem n_150_12 : ∀ l, xpr 150 12 l = l := xpr_no (by decide +kernel)
theorem r_150_15 : xfetch 150 15 = some (.iconst 0, 1) := by decide +kernel
theorem n_150_15 : ∀ l, xpr 150 15 l = l := xpr_no (by decide +kernel)
theorem r_150_16 : xfetch 150 16 = some (.istore 7, 2) := by decide +kernel
theorem n_150_16 : ∀ l, xpr 150 16 l = l := xpr_no (by decide +kernel)
theorem r_150_18 : xfetch 150 18 = some (.iload 7, 2) := by decide +kernel
theorem r_150_20 : xfetch 150 20 = some (.aload_n 0, 1) := by decide +kernel
theorem n_150_20 : ∀ l, xpr 150 20 l = l := xpr_no (by decide +kernel)
theorem r_150_21 : xfetch 150 21 = some (.getfield 47, 3) := by decide +kernel
theorem n_150_21 : ∀ l, xpr 150 21 l = l := xpr_no (by decide +kernel)
theorem r_150_24 : xfetch 150 24 = some (.getfield 350, 3) := by decide +kernel
theorem n_150_24 : ∀ l, xpr 150 24 l = l := xpr_no (by decide +kernel)
theorem r_150_27 : xfetch 150 27 = some (.if_icmp .ge 34, 3) := by decide +kernel
theorem n_150_27 : ∀ l, xpr 150 27 l = l := xpr_no (by decide +kernel)
theorem r_150_30 : xfetch 150 30 = some (.aload_n 0, 1) := by decide +kernel
theorem n_150_30 : ∀ l, xpr 150 30 l = l := xpr_no (by decide +kernel)
theorem r_150_31 : xfetch 150 31 = some (.getfield 47, 3) := by decide +kernel
theorem n_150_31 : ∀ l, xpr 150 31 l = l := xpr_no (by decide +kernel)
theorem r_150_34 : xfetch 150 34 = some (.aload_n 0, 1) := by decide +kernel
theorem n_150_34 : ∀ l, xpr 150 34 l = l := xpr_no (by decide +kernel)
theorem r_150_35 : xfetch 150 35 = some (.getfield 10, 3) := by decide +kernel
theorem n_150_35 : ∀ l, xpr 150 35 l = l := xpr_no (by decide +kernel)
theorem r_150_38 : xfetch 150 38 = some (.getfield 299, 3) := by decide +kernel
theorem n_150_38 : ∀ l, xpr 150 38 l = l := xpr_no (by decide +kernel)
theorem r_150_41 : xfetch 150 41 = some (.iload 7, 2) := by decide +kernel
theorem n_150_41 : ∀ l, xpr 150 41 l = l := xpr_no (by decide +kernel)
theorem r_150_43 : xfetch 150 43 = some (.iload_n 2, 1) := by decide +kernel
theorem n_150_43 : ∀ l, xpr 150 43 l = l := xpr_no (by decide +kernel)
theorem r_150_44 : xfetch 150 44 = some (.lload_n 3, 1) := by decide +kernel
theorem n_150_44 : ∀ l, xpr 150 44 l = l := xpr_no (by decide +kernel)
theorem r_150_45 : xfetch 150 45 = some (.iload 7, 2) := by decide +kernel
theorem n_150_45 : ∀ l, xpr 150 45 l = l := xpr_no (by decide +kernel)
theorem r_150_47 : xfetch 150 47 = some (.i2l, 1) := by decide +kernel
theorem n_150_47 : ∀ l, xpr 150 47 l = l := xpr_no (by decide +kernel)
theorem r_150_48 : xfetch 150 48 = some (.lload 5, 2) := by decide +kernel
theorem n_150_48 : ∀ l, xpr 150 48 l = l := xpr_no (by decide +kernel)
theorem r_150_50 : xfetch 150 50 = some (.lmul, 1) := by decide +kernel
theorem n_150_50 : ∀ l, xpr 150 50 l = l := xpr_no (by decide +kernel)
theorem r_150_51 : xfetch 150 51 = some (.ladd, 1) := by decide +kernel
theorem n_150_51 : ∀ l, xpr 150 51 l = l := xpr_no (by decide +kernel)
theorem r_150_52 : xfetch 150 52 = some (.invokevirtual 307, 3) := by decide +kernel
theorem n_150_52 : ∀ l, xpr 150 52 l = l := xpr_no (by decide +kernel)
theorem r_150_55 : xfetch 150 55 = some (.iinc 7 1, 3) := by decide +kernel
theorem n_150_55 : ∀ l, xpr 150 55 l = l := xpr_no (by decide +kernel)
theorem r_150_58 : xfetch 150 58 = some (.goto (-40), 3) := by decide +kernel
theorem n_150_58 : ∀ l, xpr 150 58 l = l := xpr_no (by decide +kernel)
theorem r_150_61 : xfetch 150 61 = some (.aload_n 0, 1) := by decide +kernel
theorem n_150_61 : ∀ l, xpr 150 61 l = l := xpr_no (by decide +kernel)
theorem r_150_62 : xfetch 150 62 = some (.getfield 47, 3) := by decide +kernel
theorem n_150_62 : ∀ l, xpr 150 62 l = l := xpr_no (by decide +kernel)
theorem r_150_65 : xfetch 150 65 = some (.getfield 350, 3) := by decide +kernel
theorem n_150_65 : ∀ l, xpr 150 65 l = l := xpr_no (by decide +kernel)
theorem r_150_68 : xfetch 150 68 = some (.ireturn, 1) := by decide +kernel
theorem n_150_68 : ∀ l, xpr 150 68 l = l := xpr_no (by decide +kernel)
theorem v_RL_fill_0 {S : Option (Nat × (Nat → Int32))} {s : zSt} {Q : Option Value ⊕ Nat → zSt → Prop} {x1 : Int} {x2 : Int} {u3 : Int64} {u5 : Int64} 
    (h : rng x1 ∧ (rng x2 ∧ ((0 ≤ x1 → x1 < 3 → zI s (31 + x1) 0 ≠ 0 → 0 ≤ zI s (31 + x1) 1 ∧ zI s (31 + x1) 1 < zI s 3 0 ∧ zI s (31 + x1) 1 < 6) ∧ (((0 ≤ x1 ∧ x1 < 3 ∧ zI s (31 + x1) 0 ≠ 0) ∧ 0 ≤ x2 ∧ x2 < zI s (67 + 11 * zI s (31 + x1) 1) 0 → wp S 18 0 [(0, rf 2)] [] s (fun o5 s5 => zkU (wp S 120 0 [(0, rf 2), (1, iv x1)] [] s5 (fun o7 s7 => zkU (wp S 150 18 [(0, rf 2), (2, iv x2), (3, .long u3), (5, .long u5), (7, iv 0)] [] s7 Q) (fun e7 => False) o7)) (fun e5 => False) o5)) ∧ ((¬ ((0 ≤ x1 ∧ x1 < 3 ∧ zI s (31 + x1) 0 ≠ 0) ∧ 0 ≤ x2 ∧ x2 < zI s (67 + 11 * zI s (31 + x1) 1) 0) → Q (rT 2) (zbump s))))))) :
    wp S 150 0 [(0, rf 2), (1, iv x1), (2, iv x2), (3, .long u3), (5, .long u5)] [] s Q := by
  refine i_aload_n (a := 2) r_150_0 (n_150_0 _) rfl ?_
  refine i_iload_n (x := x1) r_150_1 (n_150_1 _) rfl ?_
  refine i_iload_n (x := x2) r_150_2 (n_150_2 _) rfl ?_
  obtain ⟨g1, h⟩ := h
  obtain ⟨g2, h⟩ := h
  obtain ⟨g3, h⟩ := h
  refine wp_virt (b := 2) (rest := []) (Ls := [(0, rf 2), (1, iv x1), (2, iv x2)]) r_150_3 (n_150_3 _) rfl ⟨rfl, rfl, by decide, by decide⟩ rfl rfl lf_2 ⟨rfl, Nat.le_of_ble_eq_true rfl, Nat.le_of_ble_eq_true rfl⟩ rfl (K_RL_checkLeafOfTable g1 g2 g3) ?_
  rintro _ _ (⟨c4, rfl, rfl⟩ | ⟨c4, rfl, rfl⟩)
  · replace h := h.1 c4
    refine .inl ⟨none, rfl, ?_⟩
    show wp S 150 6 [(0, rf 2), (1, iv x1), (2, iv x2), (3, .long u3), (5, .long u5)] [] s Q
    refine i_aload_n (a := 2) r_150_6 (n_150_6 _) rfl ?_
    refine wp_virt (b := 2) (rest := []) (Ls := [(0, rf 2)]) r_150_7 (n_150_7 _) rfl ⟨rfl, rfl, by decide, by decide⟩ rfl rfl lf_2 ⟨rfl, Nat.le_of_ble_eq_true rfl, Nat.le_of_ble_eq_true rfl⟩ rfl h ?_
    intro o5 s5 h
    rcases h with ⟨rfl, h⟩ | ⟨e5, rfl, h⟩
    · refine .inl ⟨none, rfl, ?_⟩
      refine i_aload_n (a := 2) r_150_10 (n_150_10 _) rfl ?_
      refine i_iload_n (x := x1) r_150_11 (n_150_11 _) rfl ?_
      refine wp_virt (b := 2) (rest := []) (Ls := [(0, rf 2), (1, iv x1)]) r_150_12 (n_150_12 _) rfl ⟨rfl, rfl, by decide, by decide⟩ rfl rfl lf_2 ⟨rfl, Nat.le_of_ble_eq_true rfl, Nat.le_of_ble_eq_true rfl⟩ rfl h ?_
      intro o7 s7 h
      rcases h with ⟨rfl, h⟩ | ⟨e7, rfl, h⟩
      · refine .inl ⟨none, rfl, ?_⟩
        refine i_iconst r_150_15 (n_150_15 _) ?_
        refine i_istore (l' := [(0, rf 2), (1, iv x1), (2, iv x2), (3, .long u3), (5, .long u5), (7, iv 0)]) r_150_16 (n_150_16 _) (by decide) rfl ?_
        exact wp_pr (l' := [(0, rf 2), (2, iv x2), (3, .long u3), (5, .long u5), (7, iv 0)]) rfl h
      · skip
        exact h.elim
    · skip
      exact h.elim
  · replace h := h.2 c4
    exact .inr ⟨_, rfl, .inl ⟨rfl, h⟩⟩
theorem v_RL_fill_18 {S : Option (Nat × (Nat → Int32))} {s : zSt} {Q : Option Value ⊕ Nat → zSt → Prop} {x2 : Int} {u3 : Int64} {u5 : Int64} {x7 : Int} 
    (h : rng x7 ∧ (((zI s 48 2) ≤ x7 → Q (rI (zI s 48 2)) s) ∧ (x7 < (zI s 48 2) → wp S 131 0 [(0, rf 48), (1, rf 6), (2, iv x7), (3, iv x2), (4, .long (u3 + ((zi2l x7) * u5)))] [] s (fun o5 s5 => zkU (wp S 150 18 [(0, rf 2), (2, iv x2), (3, .long u3), (5, .long u5), (7, iv (x7 + 1))] [] s5 Q) (fun e5 => False) o5)))) :
    wp S 150 18 [(0, rf 2), (2, iv x2), (3, .long u3), (5, .long u5), (7, iv x7)] [] s Q := by
  refine i_iload (x := x7) r_150_18 rfl rfl ?_
  refine i_aload_n (a := 2) r_150_20 (n_150_20 _) rfl ?_
  refine i_getR (a := 2) (b := 48) r_150_21 (n_150_21 _) rfl rfl rfl (by omega) lf_2 (by omega) ?_
  refine i_getI (a := 48) r_150_24 (n_150_24 _) rfl (by decide) lf_48 (fun q1 => ?_)
  obtain ⟨g2, h⟩ := h
  refine i_icmp (t := 61) r_150_27 (n_150_27 _) rfl (T_ge g2 q1) (fun c3 => ?_) (fun c3 => ?_)
  · replace h := h.1 c3
    refine i_aload_n (a := 2) r_150_61 (n_150_61 _) rfl ?_
    refine i_getR (a := 2) (b := 48) r_150_62 (n_150_62 _) rfl rfl rfl (by omega) lf_2 (by omega) ?_
    refine i_getI (a := 48) r_150_65 (n_150_65 _) rfl (by decide) lf_48 (fun q4 => ?_)
    exact i_ireturn r_150_68 (n_150_68 _) rfl h
  · replace h := h.2 c3
    refine i_aload_n (a := 2) r_150_30 (n_150_30 _) rfl ?_
    refine i_getR (a := 2) (b := 48) r_150_31 (n_150_31 _) rfl rfl rfl (by omega) lf_2 (by omega) ?_
    refine i_aload_n (a := 2) r_150_34 (n_150_34 _) rfl ?_
    refine i_getR (a := 2) (b := 3) r_150_35 (n_150_35 _) rfl rfl rfl (by omega) lf_2 (by omega) ?_
    refine i_getR (a := 3) (b := 6) r_150_38 (n_150_38 _) rfl rfl rfl (by omega) lf_3 (by omega) ?_
    refine i_iload (x := x7) r_150_41 (n_150_41 _) rfl ?_
    refine i_iload_n (x := x2) r_150_43 (n_150_43 _) rfl ?_
    refine i_lload_n (u := u3) r_150_44 (n_150_44 _) rfl ?_
    refine i_iload (x := x7) r_150_45 (n_150_45 _) rfl ?_
    refine i_i2l r_150_47 (n_150_47 _) ?_
    refine i_lload (u := u5) r_150_48 (n_150_48 _) rfl ?_
    refine i_lmul r_150_50 (n_150_50 _) ?_
    refine i_ladd r_150_51 (n_150_51 _) ?_
    refine wp_virt (b := 48) (rest := []) (Ls := [(0, rf 48), (1, rf 6), (2, iv x7), (3, iv x2), (4, .long (u3 + ((zi2l x7) * u5)))]) r_150_52 (n_150_52 _) rfl ⟨rfl, rfl, by decide, by decide⟩ rfl rfl lf_48 ⟨rfl, Nat.le_of_ble_eq_true rfl, Nat.le_of_ble_eq_true rfl⟩ rfl h ?_
    intro o5 s5 h
    rcases h with ⟨rfl, h⟩ | ⟨e5, rfl, h⟩
    · refine .inl ⟨none, rfl, ?_⟩
      refine i_iinc (x := x7) (l' := [(0, rf 2), (2, iv x2), (3, .long u3), (5, .long u5), (7, iv (x7 + 1))]) r_150_55 (n_150_55 _) (by decide) rfl rfl ?_
      refine i_goto (t := 18) r_150_58 (n_150_58 _) rfl ?_
      exact wp_pr (l' := [(0, rf 2), (2, iv x2), (3, .long u3), (5, .long u5), (7, iv (x7 + 1))]) rfl h
    · skip
      exact h.elim
theorem r_152_0 : xfetch 152 0 = some (.aload_n 0, 1) := by decide +kernel
theorem n_152_0 : ∀ l, xpr 152 0 l = l := xpr_no (by decide +kernel)
theorem r_152_1 : xfetch 152 1 = some (.iload_n 1, 1) := by decide +kernel
theorem n_152_1 : ∀ l, xpr 152 1 l = l := xpr_no (by decide +kernel)
theorem r_152_2 : xfetch 152 2 = some (.iload_n 2, 1) := by decide +kernel
theorem n_152_2 : ∀ l, xpr 152 2 l = l := xpr_no (by decide +kernel)
theorem r_152_3 : xfetch 152 3 = some (.invokevirtual 351, 3) := by decide +kernel
theorem n_152_3 : ∀ l, xpr 152 3 l = l := xpr_no (by decide +kernel)
theorem r_152_6 : xfetch 152 6 = some (.aload_n 0, 1) := by decide +kernel
theorem n_152_6 : ∀ l, xpr 152 6 l = l := xpr_no (by decide +kernel)
theorem r_152_7 : xfetch 152 7 = some (.iload_n 1, 1) := by decide +kernel
theorem n_152_7 : ∀ l, xpr 152 7 l = l := xpr_no (by decide +kernel)
theorem r_152_8 : xfetch 152 8 = some (.iload_n 3, 1) := by decide +kernel
theorem n_152_8 : ∀ l, xpr 152 8 l = l := xpr_no (by decide +kernel)
theorem r_152_9 : xfetch 152 9 = some (.invokevirtual 351, 3) := by decide +kernel
theorem n_152_9 : ∀ l, xpr 152 9 l = l := xpr_no (by decide +kernel)
theorem r_152_12 : xfetch 152 12 = some (.aload_n 0, 1) := by decide +kernel
theorem n_152_12 : ∀ l, xpr 152 12 l = l := xpr_no (by decide +kernel)
theorem r_152_13 : xfetch 152 13 = some (.invokevirtual 77, 3) := by decide +kernel
theorem n_152_13 : ∀ l, xpr 152 13 l = l := xpr_no (by decide +kernel)
theorem r_152_16 : xfetch 152 16 = some (.aload_n 0, 1) := by decide +kernel
theorem n_152_16 : ∀ l, xpr 152 16 l = l := xpr_no (by decide +kernel)
theorem r_152_17 : xfetch 152 17 = some (.iload_n 1, 1) := by decide +kernel
theorem n_152_17 : ∀ l, xpr 152 17 l = l := xpr_no (by decide +kernel)
theorem r_152_18 : xfetch 152 18 = some (.invokevirtual 293, 3) := by decide +kernel
theorem n_152_18 : ∀ l, xpr 152 18 l = l := xpr_no (by decide +kernel)
theorem r_152_21 : xfetch 152 21 = some (.iconst 0, 1) := by decide +kernel
theorem n_152_21 : ∀ l, xpr 152 21 l = l := xpr_no (by decide +kernel)
theorem r_152_22 : xfetch 152 22 = some (.istore 4, 2) := by decide +kernel
theorem n_152_22 : ∀ l, xpr 152 22 l = l := xpr_no (by decide +kernel)
theorem r_152_24 : xfetch 152 24 = some (.iconst 0, 1) := by decide +kernel
theorem n_152_24 : ∀ l, xpr 152 24 l = l := xpr_no (by decide +kernel)
theorem r_152_25 : xfetch 152 25 = some (.istore 5, 2) := by decide +kernel
theorem n_152_25 : ∀ l, xpr 152 25 l = l := xpr_no (by decide +kernel)
theorem r_152_27 : xfetch 152 27 = some (.iload 5, 2) := by decide +kernel
theorem r_152_29 : xfetch 152 29 = some (.aload_n 0, 1) := by decide +kernel
theorem n_152_29 : ∀ l, xpr 152 29 l = l := xpr_no (by decide +kernel)
theorem r_152_30 : xfetch 152 30 = some (.getfield 47, 3) := by decide +kernel
theorem n_152_30 : ∀ l, xpr 152 30 l = l := xpr_no (by decide +kernel)
theorem r_152_33 : xfetch 152 33 = some (.getfield 345, 3) := by decide +kernel
theorem n_152_33 : ∀ l, xpr 152 33 l = l := xpr_no (by decide +kernel)
theorem r_152_36 : xfetch 152 36 = some (.if_icmp .ge 73, 3) := by decide +kernel
theorem n_152_36 : ∀ l, xpr 152 36 l = l := xpr_no (by decide +kernel)
theorem r_152_39 : xfetch 152 39 = some (.aload_n 0, 1) := by decide +kernel
theorem n_152_39 : ∀ l, xpr 152 39 l = l := xpr_no (by decide +kernel)
theorem r_152_40 : xfetch 152 40 = some (.getfield 47, 3) := by decide +kernel
theorem n_152_40 : ∀ l, xpr 152 40 l = l := xpr_no (by decide +kernel)
theorem r_152_43 : xfetch 152 43 = some (.aload_n 0, 1) := by decide +kernel
theorem n_152_43 : ∀ l, xpr 152 43 l = l := xpr_no (by decide +kernel)
theorem r_152_44 : xfetch 152 44 = some (.getfield 10, 3) := by decide +kernel
theorem n_152_44 : ∀ l, xpr 152 44 l = l := xpr_no (by decide +kernel)
theorem r_152_47 : xfetch 152 47 = some (.getfield 299, 3) := by decide +kernel
theorem n_152_47 : ∀ l, xpr 152 47 l = l := xpr_no (by decide +kernel)
theorem r_152_50 : xfetch 152 50 = some (.iload_n 2, 1) := by decide +kernel
theorem n_152_50 : ∀ l, xpr 152 50 l = l := xpr_no (by decide +kernel)
theorem r_152_51 : xfetch 152 51 = some (.iload 5, 2) := by decide +kernel
theorem n_152_51 : ∀ l, xpr 152 51 l = l := xpr_no (by decide +kernel)
theorem r_152_53 : xfetch 152 53 = some (.invokevirtual 303, 3) := by decide +kernel
theorem n_152_53 : ∀ l, xpr 152 53 l = l := xpr_no (by decide +kernel)
theorem r_152_56 : xfetch 152 56 = some (.lstore 6, 2) := by decide +kernel
theorem n_152_56 : ∀ l, xpr 152 56 l = l := xpr_no (by decide +kernel)
theorem r_152_58 : xfetch 152 58 = some (.lload 6, 2) := by decide +kernel
theorem n_152_58 : ∀ l, xpr 152 58 l = l := xpr_no (by decide +kernel)
theorem r_152_60 : xfetch 152 60 = some (.aload_n 0, 1) := by decide +kernel
theorem n_152_60 : ∀ l, xpr 152 60 l = l := xpr_no (by decide +kernel)
theorem r_152_61 : xfetch 152 61 = some (.getfield 47, 3) := by decide +kernel
theorem n_152_61 : ∀ l, xpr 152 61 l = l := xpr_no (by decide +kernel)
theorem r_152_64 : xfetch 152 64 = some (.aload_n 0, 1) := by decide +kernel
theorem n_152_64 : ∀ l, xpr 152 64 l = l := xpr_no (by decide +kernel)
theorem r_152_65 : xfetch 152 65 = some (.getfield 10, 3) := by decide +kernel
theorem n_152_65 : ∀ l, xpr 152 65 l = l := xpr_no (by decide +kernel)
theorem r_152_68 : xfetch 152 68 = some (.getfield 299, 3) := by decide +kernel
theorem n_152_68 : ∀ l, xpr 152 68 l = l := xpr_no (by decide +kernel)
theorem r_152_71 : xfetch 152 71 = some (.iload_n 3, 1) := by decide +kernel
theorem n_152_71 : ∀ l, xpr 152 71 l = l := xpr_no (by decide +kernel)
theorem r_152_72 : xfetch 152 72 = some (.iload 5, 2) := by decide +kernel
theorem n_152_72 : ∀ l, xpr 152 72 l = l := xpr_no (by decide +kernel)
theorem r_152_74 : xfetch 152 74 = some (.invokevirtual 303, 3) := by decide +kernel
theorem n_152_74 : ∀ l, xpr 152 74 l = l := xpr_no (by decide +kernel)
theorem r_152_77 : xfetch 152 77 = some (.lcmp, 1) := by decide +kernel
theorem n_152_77 : ∀ l, xpr 152 77 l = l := xpr_no (by decide +kernel)
theorem r_152_78 : xfetch 152 78 = some (.ifCond .eq 6, 3) := by decide +kernel
theorem n_152_78 : ∀ l, xpr 152 78 l = l := xpr_no (by decide +kernel)
theorem r_152_81 : xfetch 152 81 = some (.iinc 4 1, 3) := by decide +kernel
theorem n_152_81 : ∀ l, xpr 152 81 l = l := xpr_no (by decide +kernel)
theorem r_152_84 : xfetch 152 84 = some (.aload_n 0, 1) := by decide +kernel
theorem n_152_84 : ∀ l, xpr 152 84 l = l := xpr_no (by decide +kernel)
theorem r_152_85 : xfetch 152 85 = some (.getfield 47, 3) := by decide +kernel
theorem n_152_85 : ∀ l, xpr 152 85 l = l := xpr_no (by decide +kernel)
theorem r_152_88 : xfetch 152 88 = some (.aload_n 0, 1) := by decide +kernel
theorem n_152_88 : ∀ l, xpr 152 88 l = l := xpr_no (by decide +kernel)
theorem r_152_89 : xfetch 152 89 = some (.getfield 10, 3) := by decide +kernel
theorem n_152_89 : ∀ l, xpr 152 89 l = l := xpr_no (by decide +kernel)
theorem r_152_92 : xfetch 152 92 = some (.getfield 299, 3) := by decide +kernel
theorem n_152_92 : ∀ l, xpr 152 92 l = l := xpr_no (by decide +kernel)
theorem r_152_95 : xfetch 152 95 = some (.iload_n 3, 1) := by decide +kernel
theorem n_152_95 : ∀ l, xpr 152 95 l = l := xpr_no (by decide +kernel)
theorem r_152_96 : xfetch 152 96 = some (.iload 5, 2) := by decide +kernel
theorem n_152_96 : ∀ l, xpr 152 96 l = l := xpr_no (by decide +kernel)
theorem r_152_98 : xfetch 152 98 = some (.lload 6, 2) := by decide +kernel
theorem n_152_98 : ∀ l, xpr 152 98 l = l := xpr_no (by decide +kernel)
theorem r_152_100 : xfetch 152 100 = some (.invokevirtual 307, 3) := by decide +kernel
theorem n_152_100 : ∀ l, xpr 152 100 l = l := xpr_no (by decide +kernel)
theorem r_152_103 : xfetch 152 103 = some (.iinc 5 1, 3) := by decide +kernel
theorem n_152_103 : ∀ l, xpr 152 103 l = l := xpr_no (by decide +kernel)
theorem r_152_106 : xfetch 152 106 = some (.goto (-79), 3) := by decide +kernel
theorem n_152_106 : ∀ l, xpr 152 106 l = l := xpr_no (by decide +kernel)
theorem r_152_109 : xfetch 152 109 = some (.iload 4, 2) := by decide +kernel
theorem n_152_109 : ∀ l, xpr 152 109 l = l := xpr_no (by decide +kernel)
theorem r_152_111 : xfetch 152 111 = some (.ireturn, 1) := by decide +kernel
theorem n_152_111 : ∀ l, xpr 152 111 l = l := xpr_no (by decide +kernel)
theorem v_RL_copyRow_0 {S : Option (Nat × (Nat → Int32))} {s : zSt} {Q : Option Value ⊕ Nat → zSt → Prop} {x1 : Int} {x2 : Int} {x3 : Int} 
    (h : rng x1 ∧ (rng x2 ∧ (((0 ≤ x1 ∧ x1 < 3 ∧ zI s (31 + x1) 0 ≠ 0) ∧ 0 ≤ x2 ∧ x2 < zI s (31 + x1) 2 → rng x3 ∧ (((0 ≤ x1 ∧ x1 < 3 ∧ zI s (31 + x1) 0 ≠ 0) ∧ 0 ≤ x3 ∧ x3 < zI s (31 + x1) 2 → wp S 18 0 [(0, rf 2)] [] s (fun o6 s6 => zkU (wp S 120 0 [(0, rf 2), (1, iv x1)] [] s6 (fun o8 s8 => zkU (wp S 152 27 [(0, rf 2), (2, iv x2), (3, iv x3), (4, iv 0), (5, iv 0)] [] s8 Q) (fun e8 => False) o8)) (fun e6 => False) o6)) ∧ ((¬ ((0 ≤ x1 ∧ x1 < 3 ∧ zI s (31 + x1) 0 ≠ 0) ∧ 0 ≤ x3 ∧ x3 < zI s (31 + x1) 2) → Q (rT 2) (zbump s))))) ∧ ((¬ ((0 ≤ x1 ∧ x1 < 3 ∧ zI s (31 + x1) 0 ≠ 0) ∧ 0 ≤ x2 ∧ x2 < zI s (31 + x1) 2) → Q (rT 2) (zbump s)))))) :
    wp S 152 0 [(0, rf 2), (1, iv x1), (2, iv x2), (3, iv x3)] [] s Q := by
  refine i_aload_n (a := 2) r_152_0 (n_152_0 _) rfl ?_
  refine i_iload_n (x := x1) r_152_1 (n_152_1 _) rfl ?_
  refine i_iload_n (x := x2) r_152_2 (n_152_2 _) rfl ?_
  obtain ⟨g1, h⟩ := h
  obtain ⟨g2, h⟩ := h
  refine wp_virt (b := 2) (rest := []) (Ls := [(0, rf 2), (1, iv x1), (2, iv x2)]) r_152_3 (n_152_3 _) rfl ⟨rfl, rfl, by decide, by decide⟩ rfl rfl lf_2 ⟨rfl, Nat.le_of_ble_eq_true rfl, Nat.le_of_ble_eq_true rfl⟩ rfl (K_RL_checkRow g1 g2) ?_
  rintro _ _ (⟨c3, rfl, rfl⟩ | ⟨c3, rfl, rfl⟩)
  · replace h := h.1 c3
    refine .inl ⟨none, rfl, ?_⟩
    show wp S 152 6 [(0, rf 2), (1, iv x1), (2, iv x2), (3, iv x3)] [] s Q
    refine i_aload_n (a := 2) r_152_6 (n_152_6 _) rfl ?_
    refine i_iload_n (x := x1) r_152_7 (n_152_7 _) rfl ?_
    refine i_iload_n (x := x3) r_152_8 (n_152_8 _) rfl ?_
    obtain ⟨g4, h⟩ := h
    refine wp_virt (b := 2) (rest := []) (Ls := [(0, rf 2), (1, iv x1), (2, iv x3)]) r_152_9 (n_152_9 _) rfl ⟨rfl, rfl, by decide, by decide⟩ rfl rfl lf_2 ⟨rfl, Nat.le_of_ble_eq_true rfl, Nat.le_of_ble_eq_true rfl⟩ rfl (K_RL_checkRow g1 g4) ?_
    rintro _ _ (⟨c5, rfl, rfl⟩ | ⟨c5, rfl, rfl⟩)
    · replace h := h.1 c5
      refine .inl ⟨none, rfl, ?_⟩
      show wp S 152 12 [(0, rf 2), (1, iv x1), (2, iv x2), (3, iv x3)] [] s Q
      refine i_aload_n (a := 2) r_152_12 (n_152_12 _) rfl ?_
      refine wp_virt (b := 2) (rest := []) (Ls := [(0, rf 2)]) r_152_13 (n_152_13 _) rfl ⟨rfl, rfl, by decide, by decide⟩ rfl rfl lf_2 ⟨rfl, Nat.le_of_ble_eq_true rfl, Nat.le_of_ble_eq_true rfl⟩ rfl h ?_
      intro o6 s6 h
      rcases h with ⟨rfl, h⟩ | ⟨e6, rfl, h⟩
      · refine .inl ⟨none, rfl, ?_⟩
        refine i_aload_n (a := 2) r_152_16 (n_152_16 _) rfl ?_
        refine i_iload_n (x := x1) r_152_17 (n_152_17 _) rfl ?_
        refine wp_virt (b := 2) (rest := []) (Ls := [(0, rf 2), (1, iv x1)]) r_152_18 (n_152_18 _) rfl ⟨rfl, rfl, by decide, by decide⟩ rfl rfl lf_2 ⟨rfl, Nat.le_of_ble_eq_true rfl, Nat.le_of_ble_eq_true rfl⟩ rfl h ?_
        intro o8 s8 h
        rcases h with ⟨rfl, h⟩ | ⟨e8, rfl, h⟩
        · refine .inl ⟨none, rfl, ?_⟩
          refine i_iconst r_152_21 (n_152_21 _) ?_
          refine i_istore (l' := [(0, rf 2), (1, iv x1), (2, iv x2), (3, iv x3), (4, iv 0)]) r_152_22 (n_152_22 _) (by decide) rfl ?_
          refine i_iconst r_152_24 (n_152_24 _) ?_
          refine i_istore (l' := [(0, rf 2), (1, iv x1), (2, iv x2), (3, iv x3), (4, iv 0), (5, iv 0)]) r_152_25 (n_152_25 _) (by decide) rfl ?_
          exact wp_pr (l' := [(0, rf 2), (2, iv x2), (3, iv x3), (4, iv 0), (5, iv 0)]) rfl h
        · skip
          exact h.elim
      · skip
        exact h.elim
    · replace h := h.2 c5
      exact .inr ⟨_, rfl, .inl ⟨rfl, h⟩⟩
  · replace h := h.2 c3
    exact .inr ⟨_, rfl, .inl ⟨rfl, h⟩⟩
theorem v_RL_copyRow_27 {S : Option (Nat × (Nat → Int32))} {s : zSt} {Q : Option Value ⊕ Nat → zSt → Prop} {x2 : Int} {x3 : Int} {x4 : Int} {x5 : Int} 
    (h : rng x5 ∧ (((zI s 48 3) ≤ x5 → Q (rI x4) s) ∧ (x5 < (zI s 48 3) → wp S 126 0 [(0, rf 48), (1, rf 6), (2, iv x2), (3, iv x5)] [] s (fun o4 s4 => zkL (fun y4 => wp S 126 0 [(0, rf 48), (1, rf 6), (2, iv x3), (3, iv x5)] [] s4 (fun o6 s6 => zkL (fun y6 => ((zcmp y4 y6) = 0 → wp S 131 0 [(0, rf 48), (1, rf 6), (2, iv x3), (3, iv x5), (4, .long y4)] [] s6 (fun o9 s9 => zkU (wp S 152 27 [(0, rf 2), (2, iv x2), (3, iv x3), (4, iv x4), (5, iv (x5 + 1))] [] s9 Q) (fun e9 => False) o9)) ∧ ((zcmp y4 y6) ≠ 0 → wp S 131 0 [(0, rf 48), (1, rf 6), (2, iv x3), (3, iv x5), (4, .long y4)] [] s6 (fun o11 s11 => zkU (wp S 152 27 [(0, rf 2), (2, iv x2), (3, iv x3), (4, iv (x4 + 1)), (5, iv (x5 + 1))] [] s11 Q) (fun e11 => False) o11))) (fun e6 => False) o6)) (fun e4 => False) o4)))) :
    wp S 152 27 [(0, rf 2), (2, iv x2), (3, iv x3), (4, iv x4), (5, iv x5)] [] s Q := by
  refine i_iload (x := x5) r_152_27 rfl rfl ?_
  refine i_aload_n (a := 2) r_152_29 (n_152_29 _) rfl ?_
  refine i_getR (a := 2) (b := 48) r_152_30 (n_152_30 _) rfl rfl rfl (by omega) lf_2 (by omega) ?_
  refine i_getI (a := 48) r_152_33 (n_152_33 _) rfl (by decide) lf_48 (fun q1 => ?_)
  obtain ⟨g2, h⟩ := h
  refine i_icmp (t := 109) r_152_36 (n_152_36 _) rfl (T_ge g2 q1) (fun c3 => ?_) (fun c3 => ?_)
  · replace h := h.1 c3
    refine i_iload (x := x4) r_152_109 (n_152_109 _) rfl ?_
    exact i_ireturn r_152_111 (n_152_111 _) rfl h
  · replace h := h.2 c3
    refine i_aload_n (a := 2) r_152_39 (n_152_39 _) rfl ?_
    refine i_getR (a := 2) (b := 48) r_152_40 (n_152_40 _) rfl rfl rfl (by omega) lf_2 (by omega) ?_
    refine i_aload_n (a := 2) r_152_43 (n_152_43 _) rfl ?_
    refine i_getR (a := 2) (b := 3) r_152_44 (n_152_44 _) rfl rfl rfl (by omega) lf_2 (by omega) ?_
    refine i_getR (a := 3) (b := 6) r_152_47 (n_152_47 _) rfl rfl rfl (by omega) lf_3 (by omega) ?_
    refine i_iload_n (x := x2) r_152_50 (n_152_50 _) rfl ?_
    refine i_iload (x := x5) r_152_51 (n_152_51 _) rfl ?_
    refine wp_virt (b := 48) (rest := []) (Ls := [(0, rf 48), (1, rf 6), (2, iv x2), (3, iv x5)]) r_152_53 (n_152_53 _) rfl ⟨rfl, rfl, by decide, by decide⟩ rfl rfl lf_48 ⟨rfl, Nat.le_of_ble_eq_true rfl, Nat.le_of_ble_eq_true rfl⟩ rfl h ?_
    intro o4 s4 h
    rcases h with ⟨y4, rfl, h⟩ | ⟨e4, rfl, h⟩
    · refine .inl ⟨some (.long y4), rfl, ?_⟩
      show wp S 152 56 [(0, rf 2), (2, iv x2), (3, iv x3), (4, iv x4), (5, iv x5)] [.long y4] s4 Q
      refine i_lstore (l' := [(0, rf 2), (2, iv x2), (3, iv x3), (4, iv x4), (5, iv x5), (6, .long y4)]) r_152_56 (n_152_56 _) (by decide) rfl ?_
      refine i_lload (u := y4) r_152_58 (n_152_58 _) rfl ?_
      refine i_aload_n (a := 2) r_152_60 (n_152_60 _) rfl ?_
      refine i_getR (a := 2) (b := 48) r_152_61 (n_152_61 _) rfl rfl rfl (by omega) lf_2 (by omega) ?_
      refine i_aload_n (a := 2) r_152_64 (n_152_64 _) rfl ?_
      refine i_getR (a := 2) (b := 3) r_152_65 (n_152_65 _) rfl rfl rfl (by omega) lf_2 (by omega) ?_
      refine i_getR (a := 3) (b := 6) r_152_68 (n_152_68 _) rfl rfl rfl (by omega) lf_3 (by omega) ?_
      refine i_iload_n (x := x3) r_152_71 (n_152_71 _) rfl ?_
      refine i_iload (x := x5) r_152_72 (n_152_72 _) rfl ?_
      refine wp_virt (b := 48) (rest := [.long y4]) (Ls := [(0, rf 48), (1, rf 6), (2, iv x3), (3, iv x5)]) r_152_74 (n_152_74 _) rfl ⟨rfl, rfl, by decide, by decide⟩ rfl rfl lf_48 ⟨rfl, Nat.le_of_ble_eq_true rfl, Nat.le_of_ble_eq_true rfl⟩ rfl h ?_
      intro o6 s6 h
      rcases h with ⟨y6, rfl, h⟩ | ⟨e6, rfl, h⟩
      · refine .inl ⟨some (.long y6), rfl, ?_⟩
        show wp S 152 77 [(0, rf 2), (2, iv x2), (3, iv x3), (4, iv x4), (5, iv x5), (6, .long y4)] [.long y6, .long y4] s6 Q
        refine i_lcmp r_152_77 (n_152_77 _) ?_
        refine i_if (t := 84) r_152_78 (n_152_78 _) rfl (T_eq (zcmp_rng _ _) ⟨by omega, by omega⟩) (fun c8 => ?_) (fun c8 => ?_)
        · replace h := h.1 c8
          refine i_aload_n (a := 2) r_152_84 (n_152_84 _) rfl ?_
          refine i_getR (a := 2) (b := 48) r_152_85 (n_152_85 _) rfl rfl rfl (by omega) lf_2 (by omega) ?_
          refine i_aload_n (a := 2) r_152_88 (n_152_88 _) rfl ?_
          refine i_getR (a := 2) (b := 3) r_152_89 (n_152_89 _) rfl rfl rfl (by omega) lf_2 (by omega) ?_
          refine i_getR (a := 3) (b := 6) r_152_92 (n_152_92 _) rfl rfl rfl (by omega) lf_3 (by omega) ?_
          refine i_iload_n (x := x3) r_152_95 (n_152_95 _) rfl ?_
          refine i_iload (x := x5) r_152_96 (n_152_96 _) rfl ?_
          refine i_lload (u := y4) r_152_98 (n_152_98 _) rfl ?_
          refine wp_virt (b := 48) (rest := []) (Ls := [(0, rf 48), (1, rf 6), (2, iv x3), (3, iv x5), (4, .long y4)]) r_152_100 (n_152_100 _) rfl ⟨rfl, rfl, by decide, by decide⟩ rfl rfl lf_48 ⟨rfl, Nat.le_of_ble_eq_true rfl, Nat.le_of_ble_eq_true rfl⟩ rfl h ?_
          intro o9 s9 h
          rcases h with ⟨rfl, h⟩ | ⟨e9, rfl, h⟩
          · refine .inl ⟨none, rfl, ?_⟩
            refine i_iinc (x := x5) (l' := [(0, rf 2), (2, iv x2), (3, iv x3), (4, iv x4), (5, iv (x5 + 1)), (6, .long y4)]) r_152_103 (n_152_103 _) (by decide) rfl rfl ?_
            refine i_goto (t := 27) r_152_106 (n_152_106 _) rfl ?_
            exact wp_pr (l' := [(0, rf 2), (2, iv x2), (3, iv x3), (4, iv x4), (5, iv (x5 + 1))]) rfl h
          · skip
            exact h.elim
        · replace h := h.2 c8
          refine i_iinc (x := x4) (l' := [(0, rf 2), (2, iv x2), (3, iv x3), (4, iv (x4 + 1)), (5, iv x5), (6, .long y4)]) r_152_81 (n_152_81 _) (by decide) rfl rfl ?_
          refine i_aload_n (a := 2) r_152_84 (n_152_84 _) rfl ?_
          refine i_getR (a := 2) (b := 48) r_152_85 (n_152_85 _) rfl rfl rfl (by omega) lf_2 (by omega) ?_
          refine i_aload_n (a := 2) r_152_88 (n_152_88 _) rfl ?_
          refine i_getR (a := 2) (b := 3) r_152_89 (n_152_89 _) rfl rfl rfl (by omega) lf_2 (by omega) ?_
          refine i_getR (a := 3) (b := 6) r_152_92 (n_152_92 _) rfl rfl rfl (by omega) lf_3 (by omega) ?_
          refine i_iload_n (x := x3) r_152_95 (n_152_95 _) rfl ?_
          refine i_iload (x := x5) r_152_96 (n_152_96 _) rfl ?_
          refine i_lload (u := y4) r_152_98 (n_152_98 _) rfl ?_
          refine wp_virt (b := 48) (rest := []) (Ls := [(0, rf 48), (1, rf 6), (2, iv x3), (3, iv x5), (4, .long y4)]) r_152_100 (n_152_100 _) rfl ⟨rfl, rfl, by decide, by decide⟩ rfl rfl lf_48 ⟨rfl, Nat.le_of_ble_eq_true rfl, Nat.le_of_ble_eq_true rfl⟩ rfl h ?_
          intro o11 s11 h
          rcases h with ⟨rfl, h⟩ | ⟨e11, rfl, h⟩
          · refine .inl ⟨none, rfl, ?_⟩
            refine i_iinc (x := x5) (l' := [(0, rf 2), (2, iv x2), (3, iv x3), (4, iv (x4 + 1)), (5, iv (x5 + 1)), (6, .long y4)]) r_152_103 (n_152_103 _) (by decide) rfl rfl ?_
            refine i_goto (t := 27) r_152_106 (n_152_106 _) rfl ?_
            exact wp_pr (l' := [(0, rf 2), (2, iv x2), (3, iv x3), (4, iv (x4 + 1)), (5, iv (x5 + 1))]) rfl h
          · skip
            exact h.elim
      · skip
        exact h.elim
    · skip
      exact h.elim
theorem r_154_0 : xfetch 154 0 = some (.aload_n 0, 1) := by decide +kernel
theorem n_154_0 : ∀ l, xpr 154 0 l = l := xpr_no (by decide +kernel)
theorem r_154_1 : xfetch 154 1 = some (.iload_n 1, 1) := by decide +kernel
theorem n_154_1 : ∀ l, xpr 154 1 l = l := xpr_no (by decide +kernel)
theorem r_154_2 : xfetch 154 2 = some (.iload_n 2, 1) := by decide +kernel
theorem n_154_2 : ∀ l, xpr 154 2 l = l := xpr_no (by decide +kernel)
theorem r_154_3 : xfetch 154 3 = some (.invokevirtual 338, 3) := by decide +kernel
theorem n_154_3 : ∀ l, xpr 154 3 l = l := xpr_no (by decide +kernel)
theorem r_154_6 : xfetch 154 6 = some (.iload_n 3, 1) := by decide +kernel
theorem n_154_6 : ∀ l, xpr 154 6 l = l := xpr_no (by decide +kernel)
theorem r_154_7 : xfetch 154 7 = some (.ifCond .lt 8, 3) := by decide +kernel
theorem n_154_7 : ∀ l, xpr 154 7 l = l := xpr_no (by decide +kernel)
theorem r_154_10 : xfetch 154 10 = some (.iload_n 3, 1) := by decide +kernel
theorem n_154_10 : ∀ l, xpr 154 10 l = l := xpr_no (by decide +kernel)
theorem r_154_11 : xfetch 154 11 = some (.iconst 2, 1) := by decide +kernel
theorem n_154_11 : ∀ l, xpr 154 11 l = l := xpr_no (by decide +kernel)
theorem r_154_12 : xfetch 154 12 = some (.if_icmp .le 14, 3) := by decide +kernel
theorem n_154_12 : ∀ l, xpr 154 12 l = l := xpr_no (by decide +kernel)
theorem r_154_15 : xfetch 154 15 = some (.new 102, 3) := by decide +kernel
theorem n_154_15 : ∀ l, xpr 154 15 l = l := xpr_no (by decide +kernel)
theorem r_154_26 : xfetch 154 26 = some (.aload_n 0, 1) := by decide +kernel
theorem n_154_26 : ∀ l, xpr 154 26 l = l := xpr_no (by decide +kernel)
theorem r_154_27 : xfetch 154 27 = some (.iload_n 1, 1) := by decide +kernel
theorem n_154_27 : ∀ l, xpr 154 27 l = l := xpr_no (by decide +kernel)
theorem r_154_28 : xfetch 154 28 = some (.invokevirtual 293, 3) := by decide +kernel
theorem n_154_28 : ∀ l, xpr 154 28 l = l := xpr_no (by decide +kernel)
theorem r_154_31 : xfetch 154 31 = some (.iconst 0, 1) := by decide +kernel
theorem n_154_31 : ∀ l, xpr 154 31 l = l := xpr_no (by decide +kernel)
theorem r_154_32 : xfetch 154 32 = some (.istore 6, 2) := by decide +kernel
theorem n_154_32 : ∀ l, xpr 154 32 l = l := xpr_no (by decide +kernel)
theorem r_154_34 : xfetch 154 34 = some (.iconst 0, 1) := by decide +kernel
theorem n_154_34 : ∀ l, xpr 154 34 l = l := xpr_no (by decide +kernel)
theorem r_154_35 : xfetch 154 35 = some (.istore 7, 2) := by decide +kernel
theorem n_154_35 : ∀ l, xpr 154 35 l = l := xpr_no (by decide +kernel)
theorem r_154_37 : xfetch 154 37 = some (.iload 7, 2) := by decide +kernel
theorem r_154_39 : xfetch 154 39 = some (.aload_n 0, 1) := by decide +kernel
theorem n_154_39 : ∀ l, xpr 154 39 l = l := xpr_no (by decide +kernel)
theorem r_154_40 : xfetch 154 40 = some (.getfield 47, 3) := by decide +kernel
theorem n_154_40 : ∀ l, xpr 154 40 l = l := xpr_no (by decide +kernel)
theorem r_154_43 : xfetch 154 43 = some (.getfield 350, 3) := by decide +kernel
theorem n_154_43 : ∀ l, xpr 154 43 l = l := xpr_no (by decide +kernel)
theorem r_154_46 : xfetch 154 46 = some (.if_icmp .ge 64, 3) := by decide +kernel
theorem n_154_46 : ∀ l, xpr 154 46 l = l := xpr_no (by decide +kernel)
theorem r_154_49 : xfetch 154 49 = some (.aload_n 0, 1) := by decide +kernel
theorem n_154_49 : ∀ l, xpr 154 49 l = l := xpr_no (by decide +kernel)
theorem r_154_50 : xfetch 154 50 = some (.getfield 47, 3) := by decide +kernel
theorem n_154_50 : ∀ l, xpr 154 50 l = l := xpr_no (by decide +kernel)
theorem r_154_53 : xfetch 154 53 = some (.aload_n 0, 1) := by decide +kernel
theorem n_154_53 : ∀ l, xpr 154 53 l = l := xpr_no (by decide +kernel)
theorem r_154_54 : xfetch 154 54 = some (.getfield 10, 3) := by decide +kernel
theorem n_154_54 : ∀ l, xpr 154 54 l = l := xpr_no (by decide +kernel)
theorem r_154_57 : xfetch 154 57 = some (.getfield 299, 3) := by decide +kernel
theorem n_154_57 : ∀ l, xpr 154 57 l = l := xpr_no (by decide +kernel)
theorem r_154_60 : xfetch 154 60 = some (.iload 7, 2) := by decide +kernel
theorem n_154_60 : ∀ l, xpr 154 60 l = l := xpr_no (by decide +kernel)
theorem r_154_62 : xfetch 154 62 = some (.iload_n 2, 1) := by decide +kernel
theorem n_154_62 : ∀ l, xpr 154 62 l = l := xpr_no (by decide +kernel)
theorem r_154_63 : xfetch 154 63 = some (.invokevirtual 303, 3) := by decide +kernel
theorem n_154_63 : ∀ l, xpr 154 63 l = l := xpr_no (by decide +kernel)
theorem r_154_66 : xfetch 154 66 = some (.lstore 8, 2) := by decide +kernel
theorem n_154_66 : ∀ l, xpr 154 66 l = l := xpr_no (by decide +kernel)
theorem r_154_68 : xfetch 154 68 = some (.lload 8, 2) := by decide +kernel
theorem n_154_68 : ∀ l, xpr 154 68 l = l := xpr_no (by decide +kernel)
theorem r_154_70 : xfetch 154 70 = some (.lload 4, 2) := by decide +kernel
theorem n_154_70 : ∀ l, xpr 154 70 l = l := xpr_no (by decide +kernel)
theorem r_154_72 : xfetch 154 72 = some (.lcmp, 1) := by decide +kernel
theorem n_154_72 : ∀ l, xpr 154 72 l = l := xpr_no (by decide +kernel)
theorem r_154_73 : xfetch 154 73 = some (.ifCond .ge 7, 3) := by decide +kernel
theorem n_154_73 : ∀ l, xpr 154 73 l = l := xpr_no (by decide +kernel)
theorem r_154_76 : xfetch 154 76 = some (.iconst 0, 1) := by decide +kernel
theorem n_154_76 : ∀ l, xpr 154 76 l = l := xpr_no (by decide +kernel)
theorem r_154_77 : xfetch 154 77 = some (.goto 16, 3) := by decide +kernel
theorem n_154_77 : ∀ l, xpr 154 77 l = l := xpr_no (by decide +kernel)
theorem r_154_80 : xfetch 154 80 = some (.lload 8, 2) := by decide +kernel
theorem n_154_80 : ∀ l, xpr 154 80 l = l := xpr_no (by decide +kernel)
theorem r_154_82 : xfetch 154 82 = some (.lload 4, 2) := by decide +kernel
theorem n_154_82 : ∀ l, xpr 154 82 l = l := xpr_no (by decide +kernel)
theorem r_154_84 : xfetch 154 84 = some (.lcmp, 1) := by decide +kernel
theorem n_154_84 : ∀ l, xpr 154 84 l = l := xpr_no (by decide +kernel)
theorem r_154_85 : xfetch 154 85 = some (.ifCond .ne 7, 3) := by decide +kernel
theorem n_154_85 : ∀ l, xpr 154 85 l = l := xpr_no (by decide +kernel)
theorem r_154_88 : xfetch 154 88 = some (.iconst 1, 1) := by decide +kernel
theorem n_154_88 : ∀ l, xpr 154 88 l = l := xpr_no (by decide +kernel)
theorem r_154_89 : xfetch 154 89 = some (.goto 4, 3) := by decide +kernel
theorem n_154_89 : ∀ l, xpr 154 89 l = l := xpr_no (by decide +kernel)
theorem r_154_92 : xfetch 154 92 = some (.iconst 2, 1) := by decide +kernel
theorem n_154_92 : ∀ l, xpr 154 92 l = l := xpr_no (by decide +kernel)
theorem r_154_93 : xfetch 154 93 = some (.istore 10, 2) := by decide +kernel
theorem n_154_93 : ∀ l, xpr 154 93 l = l := xpr_no (by decide +kernel)
theorem r_154_95 : xfetch 154 95 = some (.iload 10, 2) := by decide +kernel
theorem n_154_95 : ∀ l, xpr 154 95 l = l := xpr_no (by decide +kernel)
theorem r_154_97 : xfetch 154 97 = some (.iload_n 3, 1) := by decide +kernel
theorem n_154_97 : ∀ l, xpr 154 97 l = l := xpr_no (by decide +kernel)
theorem r_154_98 : xfetch 154 98 = some (.if_icmp .ne 6, 3) := by decide +kernel
theorem n_154_98 : ∀ l, xpr 154 98 l = l := xpr_no (by decide +kernel)
theorem r_154_101 : xfetch 154 101 = some (.iinc 6 1, 3) := by decide +kernel
theorem n_154_101 : ∀ l, xpr 154 101 l = l := xpr_no (by decide +kernel)
theorem r_154_104 : xfetch 154 104 = some (.iinc 7 1, 3) := by decide +kernel
theorem n_154_104 : ∀ l, xpr 154 104 l = l := xpr_no (by decide +kernel)
theorem r_154_107 : xfetch 154 107 = some (.goto (-70), 3) := by decide +kernel
theorem n_154_107 : ∀ l, xpr 154 107 l = l := xpr_no (by decide +kernel)
theorem r_154_110 : xfetch 154 110 = some (.iload 6, 2) := by decide +kernel
theorem n_154_110 : ∀ l, xpr 154 110 l = l := xpr_no (by decide +kernel)
theorem r_154_112 : xfetch 154 112 = some (.ireturn, 1) := by decide +kernel
theorem n_154_112 : ∀ l, xpr 154 112 l = l := xpr_no (by decide +kernel)
theorem v_RL_count_0 {S : Option (Nat × (Nat → Int32))} {s : zSt} {Q : Option Value ⊕ Nat → zSt → Prop} {x1 : Int} {x2 : Int} {x3 : Int} {u4 : Int64} 
    (h : rng x1 ∧ (rng x2 ∧ ((0 ≤ x1 → x1 < 3 → zI s (31 + x1) 0 ≠ 0 → 0 ≤ zI s (31 + x1) 1 ∧ zI s (31 + x1) 1 < zI s 3 0 ∧ zI s (31 + x1) 1 < 6) ∧ (((0 ≤ x1 ∧ x1 < 3 ∧ zI s (31 + x1) 0 ≠ 0) ∧ 0 ≤ x2 ∧ x2 < zI s (67 + 11 * zI s (31 + x1) 1) 0 → rng x3 ∧ ((x3 < 0 → Q (rT 0) (zbump s)) ∧ (0 ≤ x3 → (x3 ≤ 2 → wp S 120 0 [(0, rf 2), (1, iv x1)] [] s (fun o8 s8 => zkU (wp S 154 37 [(0, rf 2), (2, iv x2), (3, iv x3), (4, .long u4), (6, iv 0), (7, iv 0)] [] s8 Q) (fun e8 => False) o8)) ∧ (2 < x3 → Q (rT 0) (zbump s))))) ∧ ((¬ ((0 ≤ x1 ∧ x1 < 3 ∧ zI s (31 + x1) 0 ≠ 0) ∧ 0 ≤ x2 ∧ x2 < zI s (67 + 11 * zI s (31 + x1) 1) 0) → Q (rT 2) (zbump s))))))) :
    wp S 154 0 [(0, rf 2), (1, iv x1), (2, iv x2), (3, iv x3), (4, .long u4)] [] s Q := by
  refine i_aload_n (a := 2) r_154_0 (n_154_0 _) rfl ?_
  refine i_iload_n (x := x1) r_154_1 (n_154_1 _) rfl ?_
  refine i_iload_n (x := x2) r_154_2 (n_154_2 _) rfl ?_
  obtain ⟨g1, h⟩ := h
  obtain ⟨g2, h⟩ := h
  obtain ⟨g3, h⟩ := h
  refine wp_virt (b := 2) (rest := []) (Ls := [(0, rf 2), (1, iv x1), (2, iv x2)]) r_154_3 (n_154_3 _) rfl ⟨rfl, rfl, by decide, by decide⟩ rfl rfl lf_2 ⟨rfl, Nat.le_of_ble_eq_true rfl, Nat.le_of_ble_eq_true rfl⟩ rfl (K_RL_checkLeafOfTable g1 g2 g3) ?_
  rintro _ _ (⟨c4, rfl, rfl⟩ | ⟨c4, rfl, rfl⟩)
  · replace h := h.1 c4
    refine .inl ⟨none, rfl, ?_⟩
    show wp S 154 6 [(0, rf 2), (1, iv x1), (2, iv x2), (3, iv x3), (4, .long u4)] [] s Q
    refine i_iload_n (x := x3) r_154_6 (n_154_6 _) rfl ?_
    obtain ⟨g5, h⟩ := h
    refine i_if (t := 15) r_154_7 (n_154_7 _) rfl (T_lt g5 ⟨by omega, by omega⟩) (fun c6 => ?_) (fun c6 => ?_)
    · replace h := h.1 c6
      exact i_throw r_154_15 (n_154_15 _) rfl (by decide) h
    · replace h := h.2 c6
      refine i_iload_n (x := x3) r_154_10 (n_154_10 _) rfl ?_
      refine i_iconst r_154_11 (n_154_11 _) ?_
      refine i_icmp (t := 26) r_154_12 (n_154_12 _) rfl (T_le g5 ⟨by omega, by omega⟩) (fun c7 => ?_) (fun c7 => ?_)
      · replace h := h.1 c7
        refine i_aload_n (a := 2) r_154_26 (n_154_26 _) rfl ?_
        refine i_iload_n (x := x1) r_154_27 (n_154_27 _) rfl ?_
        refine wp_virt (b := 2) (rest := []) (Ls := [(0, rf 2), (1, iv x1)]) r_154_28 (n_154_28 _) rfl ⟨rfl, rfl, by decide, by decide⟩ rfl rfl lf_2 ⟨rfl, Nat.le_of_ble_eq_true rfl, Nat.le_of_ble_eq_true rfl⟩ rfl h ?_
        intro o8 s8 h
        rcases h with ⟨rfl, h⟩ | ⟨e8, rfl, h⟩
        · refine .inl ⟨none, rfl, ?_⟩
          refine i_iconst r_154_31 (n_154_31 _) ?_
          refine i_istore (l' := [(0, rf 2), (1, iv x1), (2, iv x2), (3, iv x3), (4, .long u4), (6, iv 0)]) r_154_32 (n_154_32 _) (by decide) rfl ?_
          refine i_iconst r_154_34 (n_154_34 _) ?_
          refine i_istore (l' := [(0, rf 2), (1, iv x1), (2, iv x2), (3, iv x3), (4, .long u4), (6, iv 0), (7, iv 0)]) r_154_35 (n_154_35 _) (by decide) rfl ?_
          exact wp_pr (l' := [(0, rf 2), (2, iv x2), (3, iv x3), (4, .long u4), (6, iv 0), (7, iv 0)]) rfl h
        · skip
          exact h.elim
      · replace h := h.2 c7
        exact i_throw r_154_15 (n_154_15 _) rfl (by decide) h
  · replace h := h.2 c4
    exact .inr ⟨_, rfl, .inl ⟨rfl, h⟩⟩
theorem v_RL_count_37 {S : Option (Nat × (Nat → Int32))} {s : zSt} {Q : Option Value ⊕ Nat → zSt → Prop} {x2 : Int} {x3 : Int} {u4 : Int64} {x6 : Int} {x7 : Int} 
    (h : rng x7 ∧ (((zI s 48 2) ≤ x7 → Q (rI x6) s) ∧ (x7 < (zI s 48 2) → wp S 126 0 [(0, rf 48), (1, rf 6), (2, iv x7), (3, iv x2)] [] s (fun o4 s4 => zkL (fun y4 => (0 ≤ (zcmp y4 u4) → ((zcmp y4 u4) ≠ 0 → rng x3 ∧ ((2 ≠ x3 → wp S 154 37 [(0, rf 2), (2, iv x2), (3, iv x3), (4, .long u4), (6, iv x6), (7, iv (x7 + 1))] [] s4 Q) ∧ (2 = x3 → wp S 154 37 [(0, rf 2), (2, iv x2), (3, iv x3), (4, .long u4), (6, iv (x6 + 1)), (7, iv (x7 + 1))] [] s4 Q))) ∧ ((zcmp y4 u4) = 0 → rng x3 ∧ ((1 ≠ x3 → wp S 154 37 [(0, rf 2), (2, iv x2), (3, iv x3), (4, .long u4), (6, iv x6), (7, iv (x7 + 1))] [] s4 Q) ∧ (1 = x3 → wp S 154 37 [(0, rf 2), (2, iv x2), (3, iv x3), (4, .long u4), (6, iv (x6 + 1)), (7, iv (x7 + 1))] [] s4 Q)))) ∧ ((zcmp y4 u4) < 0 → rng x3 ∧ ((0 ≠ x3 → wp S 154 37 [(0, rf 2), (2, iv x2), (3, iv x3), (4, .long u4), (6, iv x6), (7, iv (x7 + 1))] [] s4 Q) ∧ (0 = x3 → wp S 154 37 [(0, rf 2), (2, iv x2), (3, iv x3), (4, .long u4), (6, iv (x6 + 1)), (7, iv (x7 + 1))] [] s4 Q)))) (fun e4 => False) o4)))) :
    wp S 154 37 [(0, rf 2), (2, iv x2), (3, iv x3), (4, .long u4), (6, iv x6), (7, iv x7)] [] s Q := by
  refine i_iload (x := x7) r_154_37 rfl rfl ?_
  refine i_aload_n (a := 2) r_154_39 (n_154_39 _) rfl ?_
  refine i_getR (a := 2) (b := 48) r_154_40 (n_154_40 _) rfl rfl rfl (by omega) lf_2 (by omega) ?_
  refine i_getI (a := 48) r_154_43 (n_154_43 _) rfl (by decide) lf_48 (fun q1 => ?_)
  obtain ⟨g2, h⟩ := h
  refine i_icmp (t := 110) r_154_46 (n_154_46 _) rfl (T_ge g2 q1) (fun c3 => ?_) (fun c3 => ?_)
  · replace h := h.1 c3
    refine i_iload (x := x6) r_154_110 (n_154_110 _) rfl ?_
    exact i_ireturn r_154_112 (n_154_112 _) rfl h
  · replace h := h.2 c3
    refine i_aload_n (a := 2) r_154_49 (n_154_49 _) rfl ?_
    refine i_getR (a := 2) (b := 48) r_154_50 (n_154_50 _) rfl rfl rfl (by omega) lf_2 (by omega) ?_
    refine i_aload_n (a := 2) r_154_53 (n_154_53 _) rfl ?_
    refine i_getR (a := 2) (b := 3) r_154_54 (n_154_54 _) rfl rfl rfl (by omega) lf_2 (by omega) ?_
    refine i_getR (a := 3) (b := 6) r_154_57 (n_154_57 _) rfl rfl rfl (by omega) lf_3 (by omega) ?_
    refine i_iload (x := x7) r_154_60 (n_154_60 _) rfl ?_
    refine i_iload_n (x := x2) r_154_62 (n_154_62 _) rfl ?_
    refine wp_virt (b := 48) (rest := []) (Ls := [(0, rf 48), (1, rf 6), (2, iv x7), (3, iv x2)]) r_154_63 (n_154_63 _) rfl ⟨rfl, rfl, by decide, by decide⟩ rfl rfl lf_48 ⟨rfl, Nat.le_of_ble_eq_true rfl, Nat.le_of_ble_eq_true rfl⟩ rfl h ?_
    intro o4 s4 h
    rcases h with ⟨y4, rfl, h⟩ | ⟨e4, rfl, h⟩
    · refine .inl ⟨some (.long y4), rfl, ?_⟩
      show wp S 154 66 [(0, rf 2), (2, iv x2), (3, iv x3), (4, .long u4), (6, iv x6), (7, iv x7)] [.long y4] s4 Q
      refine i_lstore (l' := [(0, rf 2), (2, iv x2), (3, iv x3), (4, .long u4), (6, iv x6), (7, iv x7), (8, .long y4)]) r_154_66 (n_154_66 _) (by decide) rfl ?_
      refine i_lload (u := y4) r_154_68 (n_154_68 _) rfl ?_
      refine i_lload (u := u4) r_154_70 (n_154_70 _) rfl ?_
      refine i_lcmp r_154_72 (n_154_72 _) ?_
      refine i_if (t := 80) r_154_73 (n_154_73 _) rfl (T_ge (zcmp_rng _ _) ⟨by omega, by omega⟩) (fun c6 => ?_) (fun c6 => ?_)
      · replace h := h.1 c6
        refine i_lload (u := y4) r_154_80 (n_154_80 _) rfl ?_
        refine i_lload (u := u4) r_154_82 (n_154_82 _) rfl ?_
        refine i_lcmp r_154_84 (n_154_84 _) ?_
        refine i_if (t := 92) r_154_85 (n_154_85 _) rfl (T_ne (zcmp_rng _ _) ⟨by omega, by omega⟩) (fun c7 => ?_) (fun c7 => ?_)
        · replace h := h.1 c7
          refine i_iconst r_154_92 (n_154_92 _) ?_
          refine i_istore (l' := [(0, rf 2), (2, iv x2), (3, iv x3), (4, .long u4), (6, iv x6), (7, iv x7), (8, .long y4), (10, iv 2)]) r_154_93 (n_154_93 _) (by decide) rfl ?_
          refine i_iload (x := 2) r_154_95 (n_154_95 _) rfl ?_
          refine i_iload_n (x := x3) r_154_97 (n_154_97 _) rfl ?_
          obtain ⟨g8, h⟩ := h
          refine i_icmp (t := 104) r_154_98 (n_154_98 _) rfl (T_ne ⟨by omega, by omega⟩ g8) (fun c9 => ?_) (fun c9 => ?_)
          · replace h := h.1 c9
            refine i_iinc (x := x7) (l' := [(0, rf 2), (2, iv x2), (3, iv x3), (4, .long u4), (6, iv x6), (7, iv (x7 + 1)), (8, .long y4), (10, iv 2)]) r_154_104 (n_154_104 _) (by decide) rfl rfl ?_
            refine i_goto (t := 37) r_154_107 (n_154_107 _) rfl ?_
            exact wp_pr (l' := [(0, rf 2), (2, iv x2), (3, iv x3), (4, .long u4), (6, iv x6), (7, iv (x7 + 1))]) rfl h
          · replace h := h.2 c9
            refine i_iinc (x := x6) (l' := [(0, rf 2), (2, iv x2), (3, iv x3), (4, .long u4), (6, iv (x6 + 1)), (7, iv x7), (8, .long y4), (10, iv 2)]) r_154_101 (n_154_101 _) (by decide) rfl rfl ?_
            refine i_iinc (x := x7) (l' := [(0, rf 2), (2, iv x2), (3, iv x3), (4, .long u4), (6, iv (x6 + 1)), (7, iv (x7 + 1)), (8, .long y4), (10, iv 2)]) r_154_104 (n_154_104 _) (by decide) rfl rfl ?_
            refine i_goto (t := 37) r_154_107 (n_154_107 _) rfl ?_
            exact wp_pr (l' := [(0, rf 2), (2, iv x2), (3, iv x3), (4, .long u4), (6, iv (x6 + 1)), (7, iv (x7 + 1))]) rfl h
        · replace h := h.2 c7
          refine i_iconst r_154_88 (n_154_88 _) ?_
          refine i_goto (t := 93) r_154_89 (n_154_89 _) rfl ?_
          refine i_istore (l' := [(0, rf 2), (2, iv x2), (3, iv x3), (4, .long u4), (6, iv x6), (7, iv x7), (8, .long y4), (10, iv 1)]) r_154_93 (n_154_93 _) (by decide) rfl ?_
          refine i_iload (x := 1) r_154_95 (n_154_95 _) rfl ?_
          refine i_iload_n (x := x3) r_154_97 (n_154_97 _) rfl ?_
          obtain ⟨g10, h⟩ := h
          refine i_icmp (t := 104) r_154_98 (n_154_98 _) rfl (T_ne ⟨by omega, by omega⟩ g10) (fun c11 => ?_) (fun c11 => ?_)
          · replace h := h.1 c11
            refine i_iinc (x := x7) (l' := [(0, rf 2), (2, iv x2), (3, iv x3), (4, .long u4), (6, iv x6), (7, iv (x7 + 1)), (8, .long y4), (10, iv 1)]) r_154_104 (n_154_104 _) (by decide) rfl rfl ?_
            refine i_goto (t := 37) r_154_107 (n_154_107 _) rfl ?_
            exact wp_pr (l' := [(0, rf 2), (2, iv x2), (3, iv x3), (4, .long u4), (6, iv x6), (7, iv (x7 + 1))]) rfl h
          · replace h := h.2 c11
            refine i_iinc (x := x6) (l' := [(0, rf 2), (2, iv x2), (3, iv x3), (4, .long u4), (6, iv (x6 + 1)), (7, iv x7), (8, .long y4), (10, iv 1)]) r_154_101 (n_154_101 _) (by decide) rfl rfl ?_
            refine i_iinc (x := x7) (l' := [(0, rf 2), (2, iv x2), (3, iv x3), (4, .long u4), (6, iv (x6 + 1)), (7, iv (x7 + 1)), (8, .long y4), (10, iv 1)]) r_154_104 (n_154_104 _) (by decide) rfl rfl ?_
            refine i_goto (t := 37) r_154_107 (n_154_107 _) rfl ?_
            exact wp_pr (l' := [(0, rf 2), (2, iv x2), (3, iv x3), (4, .long u4), (6, iv (x6 + 1)), (7, iv (x7 + 1))]) rfl h
      · replace h := h.2 c6
        refine i_iconst r_154_76 (n_154_76 _) ?_
        refine i_goto (t := 93) r_154_77 (n_154_77 _) rfl ?_
        refine i_istore (l' := [(0, rf 2), (2, iv x2), (3, iv x3), (4, .long u4), (6, iv x6), (7, iv x7), (8, .long y4), (10, iv 0)]) r_154_93 (n_154_93 _) (by decide) rfl ?_
        refine i_iload (x := 0) r_154_95 (n_154_95 _) rfl ?_
        refine i_iload_n (x := x3) r_154_97 (n_154_97 _) rfl ?_
        obtain ⟨g12, h⟩ := h
        refine i_icmp (t := 104) r_154_98 (n_154_98 _) rfl (T_ne ⟨by omega, by omega⟩ g12) (fun c13 => ?_) (fun c13 => ?_)
        · replace h := h.1 c13
          refine i_iinc (x := x7) (l' := [(0, rf 2), (2, iv x2), (3, iv x3), (4, .long u4), (6, iv x6), (7, iv (x7 + 1)), (8, .long y4), (10, iv 0)]) r_154_104 (n_154_104 _) (by decide) rfl rfl ?_
          refine i_goto (t := 37) r_154_107 (n_154_107 _) rfl ?_
          exact wp_pr (l' := [(0, rf 2), (2, iv x2), (3, iv x3), (4, .long u4), (6, iv x6), (7, iv (x7 + 1))]) rfl h
        · replace h := h.2 c13
          refine i_iinc (x := x6) (l' := [(0, rf 2), (2, iv x2), (3, iv x3), (4, .long u4), (6, iv (x6 + 1)), (7, iv x7), (8, .long y4), (10, iv 0)]) r_154_101 (n_154_101 _) (by decide) rfl rfl ?_
          refine i_iinc (x := x7) (l' := [(0, rf 2), (2, iv x2), (3, iv x3), (4, .long u4), (6, iv (x6 + 1)), (7, iv (x7 + 1)), (8, .long y4), (10, iv 0)]) r_154_104 (n_154_104 _) (by decide) rfl rfl ?_
          refine i_goto (t := 37) r_154_107 (n_154_107 _) rfl ?_
          exact wp_pr (l' := [(0, rf 2), (2, iv x2), (3, iv x3), (4, .long u4), (6, iv (x6 + 1)), (7, iv (x7 + 1))]) rfl h
    · skip
      exact h.elim
theorem r_156_0 : xfetch 156 0 = some (.aload_n 0, 1) := by decide +kernel
theorem n_156_0 : ∀ l, xpr 156 0 l = l := xpr_no (by decide +kernel)
theorem r_156_1 : xfetch 156 1 = some (.iload_n 1, 1) := by decide +kernel
theorem n_156_1 : ∀ l, xpr 156 1 l = l := xpr_no (by decide +kernel)
theorem r_156_2 : xfetch 156 2 = some (.iload 5, 2) := by decide +kernel
theorem n_156_2 : ∀ l, xpr 156 2 l = l := xpr_no (by decide +kernel)
theorem r_156_4 : xfetch 156 4 = some (.iload_n 2, 1) := by decide +kernel
theorem n_156_4 : ∀ l, xpr 156 4 l = l := xpr_no (by decide +kernel)
theorem r_156_5 : xfetch 156 5 = some (.invokevirtual 290, 3) := by decide +kernel
theorem n_156_5 : ∀ l, xpr 156 5 l = l := xpr_no (by decide +kernel)
theorem r_156_8 : xfetch 156 8 = some (.aload_n 0, 1) := by decide +kernel
theorem n_156_8 : ∀ l, xpr 156 8 l = l := xpr_no (by decide +kernel)
theorem r_156_9 : xfetch 156 9 = some (.iload_n 1, 1) := by decide +kernel
theorem n_156_9 : ∀ l, xpr 156 9 l = l := xpr_no (by decide +kernel)
theorem r_156_10 : xfetch 156 10 = some (.invokevirtual 293, 3) := by decide +kernel
theorem n_156_10 : ∀ l, xpr 156 10 l = l := xpr_no (by decide +kernel)
theorem r_156_13 : xfetch 156 13 = some (.iload 5, 2) := by decide +kernel
theorem n_156_13 : ∀ l, xpr 156 13 l = l := xpr_no (by decide +kernel)
theorem r_156_15 : xfetch 156 15 = some (.istore 6, 2) := by decide +kernel
theorem n_156_15 : ∀ l, xpr 156 15 l = l := xpr_no (by decide +kernel)
theorem r_156_17 : xfetch 156 17 = some (.iload 6, 2) := by decide +kernel
theorem r_156_19 : xfetch 156 19 = some (.aload_n 0, 1) := by decide +kernel
theorem n_156_19 : ∀ l, xpr 156 19 l = l := xpr_no (by decide +kernel)
theorem r_156_20 : xfetch 156 20 = some (.getfield 47, 3) := by decide +kernel
theorem n_156_20 : ∀ l, xpr 156 20 l = l := xpr_no (by decide +kernel)
theorem r_156_23 : xfetch 156 23 = some (.getfield 350, 3) := by decide +kernel
theorem n_156_23 : ∀ l, xpr 156 23 l = l := xpr_no (by decide +kernel)
theorem r_156_26 : xfetch 156 26 = some (.if_icmp .ge 34, 3) := by decide +kernel
theorem n_156_26 : ∀ l, xpr 156 26 l = l := xpr_no (by decide +kernel)
theorem r_156_29 : xfetch 156 29 = some (.aload_n 0, 1) := by decide +kernel
theorem n_156_29 : ∀ l, xpr 156 29 l = l := xpr_no (by decide +kernel)
theorem r_156_30 : xfetch 156 30 = some (.getfield 47, 3) := by decide +kernel
theorem n_156_30 : ∀ l, xpr 156 30 l = l := xpr_no (by decide +kernel)
theorem r_156_33 : xfetch 156 33 = some (.aload_n 0, 1) := by decide +kernel
theorem n_156_33 : ∀ l, xpr 156 33 l = l := xpr_no (by decide +kernel)
theorem r_156_34 : xfetch 156 34 = some (.getfield 10, 3) := by decide +kernel
theorem n_156_34 : ∀ l, xpr 156 34 l = l := xpr_no (by decide +kernel)
theorem r_156_37 : xfetch 156 37 = some (.getfield 299, 3) := by decide +kernel
theorem n_156_37 : ∀ l, xpr 156 37 l = l := xpr_no (by decide +kernel)
theorem r_156_40 : xfetch 156 40 = some (.iload 6, 2) := by decide +kernel
theorem n_156_40 : ∀ l, xpr 156 40 l = l := xpr_no (by decide +kernel)
theorem r_156_42 : xfetch 156 42 = some (.iload_n 2, 1) := by decide +kernel
theorem n_156_42 : ∀ l, xpr 156 42 l = l := xpr_no (by decide +kernel)
theorem r_156_43 : xfetch 156 43 = some (.invokevirtual 303, 3) := by decide +kernel
theorem n_156_43 : ∀ l, xpr 156 43 l = l := xpr_no (by decide +kernel)
theorem r_156_46 : xfetch 156 46 = some (.lload_n 3, 1) := by decide +kernel
theorem n_156_46 : ∀ l, xpr 156 46 l = l := xpr_no (by decide +kernel)
theorem r_156_47 : xfetch 156 47 = some (.lcmp, 1) := by decide +kernel
theorem n_156_47 : ∀ l, xpr 156 47 l = l := xpr_no (by decide +kernel)
theorem r_156_48 : xfetch 156 48 = some (.ifCond .ne 6, 3) := by decide +kernel
theorem n_156_48 : ∀ l, xpr 156 48 l = l := xpr_no (by decide +kernel)
theorem r_156_51 : xfetch 156 51 = some (.iload 6, 2) := by decide +kernel
theorem n_156_51 : ∀ l, xpr 156 51 l = l := xpr_no (by decide +kernel)
theorem r_156_53 : xfetch 156 53 = some (.ireturn, 1) := by decide +kernel
theorem n_156_53 : ∀ l, xpr 156 53 l = l := xpr_no (by decide +kernel)
theorem r_156_54 : xfetch 156 54 = some (.iinc 6 1, 3) := by decide +kernel
theorem n_156_54 : ∀ l, xpr 156 54 l = l := xpr_no (by decide +kernel)
theorem r_156_57 : xfetch 156 57 = some (.goto (-40), 3) := by decide +kernel
theorem n_156_57 : ∀ l, xpr 156 57 l = l := xpr_no (by decide +kernel)
theorem r_156_60 : xfetch 156 60 = some (.iconst (-1), 1) := by decide +kernel
theorem n_156_60 : ∀ l, xpr 156 60 l = l := xpr_no (by decide +kernel)
theorem r_156_61 : xfetch 156 61 = some (.ireturn, 1) := by decide +kernel
theorem n_156_61 : ∀ l, xpr 156 61 l = l := xpr_no (by decide +kernel)
theorem v_RL_findRow_0 {S : Option (Nat × (Nat → Int32))} {s : zSt} {Q : Option Value ⊕ Nat → zSt → Prop} {x1 : Int} {x2 : Int} {u3 : Int64} {x5 : Int} 
    (h : rng x1 ∧ (rng x5 ∧ (rng x2 ∧ ((0 ≤ x1 → x1 < 3 → zI s (31 + x1) 0 ≠ 0 → 0 ≤ zI s (31 + x1) 1 ∧ zI s (31 + x1) 1 < zI s 3 0 ∧ zI s (31 + x1) 1 < 6) ∧ ((((0 ≤ x1 ∧ x1 < 3 ∧ zI s (31 + x1) 0 ≠ 0) ∧ 0 ≤ x5 ∧ x5 < zI s (31 + x1) 2) ∧ 0 ≤ x2 ∧ x2 < zI s (67 + 11 * zI s (31 + x1) 1) 0 → wp S 120 0 [(0, rf 2), (1, iv x1)] [] s (fun o6 s6 => zkU (wp S 156 17 [(0, rf 2), (2, iv x2), (3, .long u3), (6, iv x5)] [] s6 Q) (fun e6 => False) o6)) ∧ ((¬ (((0 ≤ x1 ∧ x1 < 3 ∧ zI s (31 + x1) 0 ≠ 0) ∧ 0 ≤ x5 ∧ x5 < zI s (31 + x1) 2) ∧ 0 ≤ x2 ∧ x2 < zI s (67 + 11 * zI s (31 + x1) 1) 0) → Q (rT 2) (zbump s)))))))) :
    wp S 156 0 [(0, rf 2), (1, iv x1), (2, iv x2), (3, .long u3), (5, iv x5)] [] s Q := by
  refine i_aload_n (a := 2) r_156_0 (n_156_0 _) rfl ?_
  refine i_iload_n (x := x1) r_156_1 (n_156_1 _) rfl ?_
  refine i_iload (x := x5) r_156_2 (n_156_2 _) rfl ?_
  refine i_iload_n (x := x2) r_156_4 (n_156_4 _) rfl ?_
  obtain ⟨g1, h⟩ := h
  obtain ⟨g2, h⟩ := h
  obtain ⟨g3, h⟩ := h
  obtain ⟨g4, h⟩ := h
  refine wp_virt (b := 2) (rest := []) (Ls := [(0, rf 2), (1, iv x1), (2, iv x5), (3, iv x2)]) r_156_5 (n_156_5 _) rfl ⟨rfl, rfl, by decide, by decide⟩ rfl rfl lf_2 ⟨rfl, Nat.le_of_ble_eq_true rfl, Nat.le_of_ble_eq_true rfl⟩ rfl (K_RL_checkPlace g1 g2 g3 g4) ?_
  rintro _ _ (⟨c5, rfl, rfl⟩ | ⟨c5, rfl, rfl⟩)
  · replace h := h.1 c5
    refine .inl ⟨none, rfl, ?_⟩
    show wp S 156 8 [(0, rf 2), (1, iv x1), (2, iv x2), (3, .long u3), (5, iv x5)] [] s Q
    refine i_aload_n (a := 2) r_156_8 (n_156_8 _) rfl ?_
    refine i_iload_n (x := x1) r_156_9 (n_156_9 _) rfl ?_
    refine wp_virt (b := 2) (rest := []) (Ls := [(0, rf 2), (1, iv x1)]) r_156_10 (n_156_10 _) rfl ⟨rfl, rfl, by decide, by decide⟩ rfl rfl lf_2 ⟨rfl, Nat.le_of_ble_eq_true rfl, Nat.le_of_ble_eq_true rfl⟩ rfl h ?_
    intro o6 s6 h
    rcases h with ⟨rfl, h⟩ | ⟨e6, rfl, h⟩
    · refine .inl ⟨none, rfl, ?_⟩
      refine i_iload (x := x5) r_156_13 (n_156_13 _) rfl ?_
      refine i_istore (l' := [(0, rf 2), (1, iv x1), (2, iv x2), (3, .long u3), (5, iv x5), (6, iv x5)]) r_156_15 (n_156_15 _) (by decide) rfl ?_
      exact wp_pr (l' := [(0, rf 2), (2, iv x2), (3, .long u3), (6, iv x5)]) rfl h
    · skip
      exact h.elim
  · replace h := h.2 c5
    exact .inr ⟨_, rfl, .inl ⟨rfl, h⟩⟩
theorem v_RL_findRow_17 {S : Option (Nat × (Nat → Int32))} {s : zSt} {Q : Option Value ⊕ Nat → zSt → Prop} {x2 : Int} {u3 : Int64} {x6 : Int} 
    (h : rng x6 ∧ (((zI s 48 2) ≤ x6 → Q (rI (-1)) s) ∧ (x6 < (zI s 48 2) → wp S 126 0 [(0, rf 48), (1, rf 6), (2, iv x6), (3, iv x2)] [] s (fun o4 s4 => zkL (fun y4 => ((zcmp y4 u3) ≠ 0 → wp S 156 17 [(0, rf 2), (2, iv x2), (3, .long u3), (6, iv (x6 + 1))] [] s4 Q) ∧ ((zcmp y4 u3) = 0 → Q (rI x6) s4)) (fun e4 => False) o4)))) :
    wp S 156 17 [(0, rf 2), (2, iv x2), (3, .long u3), (6, iv x6)] [] s Q := by
  refine i_iload (x := x6) r_156_17 rfl rfl ?_
  refine i_aload_n (a := 2) r_156_19 (n_156_19 _) rfl ?_
  refine i_getR (a := 2) (b := 48) r_156_20 (n_156_20 _) rfl rfl rfl (by omega) lf_2 (by omega) ?_
  refine i_getI (a := 48) r_156_23 (n_156_23 _) rfl (by decide) lf_48 (fun q1 => ?_)
  obtain ⟨g2, h⟩ := h
  refine i_icmp (t := 60) r_156_26 (n_156_26 _) rfl (T_ge g2 q1) (fun c3 => ?_) (fun c3 => ?_)
  · replace h := h.1 c3
    refine i_iconst r_156_60 (n_156_60 _) ?_
    exact i_ireturn r_156_61 (n_156_61 _) rfl h
  · replace h := h.2 c3
    refine i_aload_n (a := 2) r_156_29 (n_156_29 _) rfl ?_
    refine i_getR (a := 2) (b := 48) r_156_30 (n_156_30 _) rfl rfl rfl (by omega) lf_2 (by omega) ?_
    refine i_aload_n (a := 2) r_156_33 (n_156_33 _) rfl ?_
    refine i_getR (a := 2) (b := 3) r_156_34 (n_156_34 _) rfl rfl rfl (by omega) lf_2 (by omega) ?_
    refine i_getR (a := 3) (b := 6) r_156_37 (n_156_37 _) rfl rfl rfl (by omega) lf_3 (by omega) ?_
    refine i_iload (x := x6) r_156_40 (n_156_40 _) rfl ?_
    refine i_iload_n (x := x2) r_156_42 (n_156_42 _) rfl ?_
    refine wp_virt (b := 48) (rest := []) (Ls := [(0, rf 48), (1, rf 6), (2, iv x6), (3, iv x2)]) r_156_43 (n_156_43 _) rfl ⟨rfl, rfl, by decide, by decide⟩ rfl rfl lf_48 ⟨rfl, Nat.le_of_ble_eq_true rfl, Nat.le_of_ble_eq_true rfl⟩ rfl h ?_
    intro o4 s4 h
    rcases h with ⟨y4, rfl, h⟩ | ⟨e4, rfl, h⟩
    · refine .inl ⟨some (.long y4), rfl, ?_⟩
      show wp S 156 46 [(0, rf 2), (2, iv x2), (3, .long u3), (6, iv x6)] [.long y4] s4 Q
      refine i_lload_n (u := u3) r_156_46 (n_156_46 _) rfl ?_
      refine i_lcmp r_156_47 (n_156_47 _) ?_
      refine i_if (t := 54) r_156_48 (n_156_48 _) rfl (T_ne (zcmp_rng _ _) ⟨by omega, by omega⟩) (fun c6 => ?_) (fun c6 => ?_)
      · replace h := h.1 c6
        refine i_iinc (x := x6) (l' := [(0, rf 2), (2, iv x2), (3, .long u3), (6, iv (x6 + 1))]) r_156_54 (n_156_54 _) (by decide) rfl rfl ?_
        refine i_goto (t := 17) r_156_57 (n_156_57 _) rfl ?_
        exact wp_pr (l' := [(0, rf 2), (2, iv x2), (3, .long u3), (6, iv (x6 + 1))]) rfl h
      · replace h := h.2 c6
        refine i_iload (x := x6) r_156_51 (n_156_51 _) rfl ?_
        exact i_ireturn r_156_53 (n_156_53 _) rfl h
    · skip
      exact h.elim
theorem r_158_0 : xfetch 158 0 = some (.aload_n 0, 1) := by decide +kernel
theorem n_158_0 : ∀ l, xpr 158 0 l = l := xpr_no (by decide +kernel)
theorem r_158_1 : xfetch 158 1 = some (.iload_n 1, 1) := by decide +kernel
theorem n_158_1 : ∀ l, xpr 158 1 l = l := xpr_no (by decide +kernel)
theorem r_158_2 : xfetch 158 2 = some (.iload_n 2, 1) := by decide +kernel
theorem n_158_2 : ∀ l, xpr 158 2 l = l := xpr_no (by decide +kernel)
theorem r_158_3 : xfetch 158 3 = some (.invokevirtual 338, 3) := by decide +kernel
theorem n_158_3 : ∀ l, xpr 158 3 l = l := xpr_no (by decide +kernel)
theorem r_158_6 : xfetch 158 6 = some (.aload_n 0, 1) := by decide +kernel
theorem n_158_6 : ∀ l, xpr 158 6 l = l := xpr_no (by decide +kernel)
theorem r_158_7 : xfetch 158 7 = some (.iload_n 1, 1) := by decide +kernel
theorem n_158_7 : ∀ l, xpr 158 7 l = l := xpr_no (by decide +kernel)
theorem r_158_8 : xfetch 158 8 = some (.invokevirtual 293, 3) := by decide +kernel
theorem n_158_8 : ∀ l, xpr 158 8 l = l := xpr_no (by decide +kernel)
theorem r_158_11 : xfetch 158 11 = some (.lconst 0, 1) := by decide +kernel
theorem n_158_11 : ∀ l, xpr 158 11 l = l := xpr_no (by decide +kernel)
theorem r_158_12 : xfetch 158 12 = some (.lstore_n 3, 1) := by decide +kernel
theorem n_158_12 : ∀ l, xpr 158 12 l = l := xpr_no (by decide +kernel)
theorem r_158_13 : xfetch 158 13 = some (.iconst 0, 1) := by decide +kernel
theorem n_158_13 : ∀ l, xpr 158 13 l = l := xpr_no (by decide +kernel)
theorem r_158_14 : xfetch 158 14 = some (.istore 5, 2) := by decide +kernel
theorem n_158_14 : ∀ l, xpr 158 14 l = l := xpr_no (by decide +kernel)
theorem r_158_16 : xfetch 158 16 = some (.iload 5, 2) := by decide +kernel
theorem r_158_18 : xfetch 158 18 = some (.aload_n 0, 1) := by decide +kernel
theorem n_158_18 : ∀ l, xpr 158 18 l = l := xpr_no (by decide +kernel)
theorem r_158_19 : xfetch 158 19 = some (.getfield 47, 3) := by decide +kernel
theorem n_158_19 : ∀ l, xpr 158 19 l = l := xpr_no (by decide +kernel)
theorem r_158_22 : xfetch 158 22 = some (.getfield 350, 3) := by decide +kernel
theorem n_158_22 : ∀ l, xpr 158 22 l = l := xpr_no (by decide +kernel)
theorem r_158_25 : xfetch 158 25 = some (.if_icmp .ge 29, 3) := by decide +kernel
theorem n_158_25 : ∀ l, xpr 158 25 l = l := xpr_no (by decide +kernel)
theorem r_158_28 : xfetch 158 28 = some (.lload_n 3, 1) := by decide +kernel
theorem n_158_28 : ∀ l, xpr 158 28 l = l := xpr_no (by decide +kernel)
theorem r_158_29 : xfetch 158 29 = some (.aload_n 0, 1) := by decide +kernel
theorem n_158_29 : ∀ l, xpr 158 29 l = l := xpr_no (by decide +kernel)
theorem r_158_30 : xfetch 158 30 = some (.getfield 47, 3) := by decide +kernel
theorem n_158_30 : ∀ l, xpr 158 30 l = l := xpr_no (by decide +kernel)
theorem r_158_33 : xfetch 158 33 = some (.aload_n 0, 1) := by decide +kernel
theorem n_158_33 : ∀ l, xpr 158 33 l = l := xpr_no (by decide +kernel)
theorem r_158_34 : xfetch 158 34 = some (.getfield 10, 3) := by decide +kernel
theorem n_158_34 : ∀ l, xpr 158 34 l = l := xpr_no (by decide +kernel)
theorem r_158_37 : xfetch 158 37 = some (.getfield 299, 3) := by decide +kernel
theorem n_158_37 : ∀ l, xpr 158 37 l = l := xpr_no (by decide +kernel)
theorem r_158_40 : xfetch 158 40 = some (.iload 5, 2) := by decide +kernel
theorem n_158_40 : ∀ l, xpr 158 40 l = l := xpr_no (by decide +kernel)
theorem r_158_42 : xfetch 158 42 = some (.iload_n 2, 1) := by decide +kernel
theorem n_158_42 : ∀ l, xpr 158 42 l = l := xpr_no (by decide +kernel)
theorem r_158_43 : xfetch 158 43 = some (.invokevirtual 303, 3) := by decide +kernel
theorem n_158_43 : ∀ l, xpr 158 43 l = l := xpr_no (by decide +kernel)
theorem r_158_46 : xfetch 158 46 = some (.ladd, 1) := by decide +kernel
theorem n_158_46 : ∀ l, xpr 158 46 l = l := xpr_no (by decide +kernel)
theorem r_158_47 : xfetch 158 47 = some (.lstore_n 3, 1) := by decide +kernel
theorem n_158_47 : ∀ l, xpr 158 47 l = l := xpr_no (by decide +kernel)
theorem r_158_48 : xfetch 158 48 = some (.iinc 5 1, 3) := by decide +kernel
theorem n_158_48 : ∀ l, xpr 158 48 l = l := xpr_no (by decide +kernel)
theorem r_158_51 : xfetch 158 51 = some (.goto (-35), 3) := by decide +kernel
theorem n_158_51 : ∀ l, xpr 158 51 l = l := xpr_no (by decide +kernel)
theorem r_158_54 : xfetch 158 54 = some (.lload_n 3, 1) := by decide +kernel
theorem n_158_54 : ∀ l, xpr 158 54 l = l := xpr_no (by decide +kernel)
theorem r_158_55 : xfetch 158 55 = some (.lreturn, 1) := by decide +kernel
theorem n_158_55 : ∀ l, xpr 158 55 l = l := xpr_no (by decide +kernel)
theorem v_RL_sum_0 {S : Option (Nat × (Nat → Int32))} {s : zSt} {Q : Option Value ⊕ Nat → zSt → Prop} {x1 : Int} {x2 : Int} 
    (h : rng x1 ∧ (rng x2 ∧ ((0 ≤ x1 → x1 < 3 → zI s (31 + x1) 0 ≠ 0 → 0 ≤ zI s (31 + x1) 1 ∧ zI s (31 + x1) 1 < zI s 3 0 ∧ zI s (31 + x1) 1 < 6) ∧ (((0 ≤ x1 ∧ x1 < 3 ∧ zI s (31 + x1) 0 ≠ 0) ∧ 0 ≤ x2 ∧ x2 < zI s (67 + 11 * zI s (31 + x1) 1) 0 → wp S 120 0 [(0, rf 2), (1, iv x1)] [] s (fun o5 s5 => zkU (wp S 158 16 [(0, rf 2), (2, iv x2), (3, .long 0), (5, iv 0)] [] s5 Q) (fun e5 => False) o5)) ∧ ((¬ ((0 ≤ x1 ∧ x1 < 3 ∧ zI s (31 + x1) 0 ≠ 0) ∧ 0 ≤ x2 ∧ x2 < zI s (67 + 11 * zI s (31 + x1) 1) 0) → Q (rT 2) (zbump s))))))) :
    wp S 158 0 [(0, rf 2), (1, iv x1), (2, iv x2)] [] s Q := by
  refine i_aload_n (a := 2) r_158_0 (n_158_0 _) rfl ?_
  refine i_iload_n (x := x1) r_158_1 (n_158_1 _) rfl ?_
  refine i_iload_n (x := x2) r_158_2 (n_158_2 _) rfl ?_
  obtain ⟨g1, h⟩ := h
  obtain ⟨g2, h⟩ := h
  obtain ⟨g3, h⟩ := h
  refine wp_virt (b := 2) (rest := []) (Ls := [(0, rf 2), (1, iv x1), (2, iv x2)]) r_158_3 (n_158_3 _) rfl ⟨rfl, rfl, by decide, by decide⟩ rfl rfl lf_2 ⟨rfl, Nat.le_of_ble_eq_true rfl, Nat.le_of_ble_eq_true rfl⟩ rfl (K_RL_checkLeafOfTable g1 g2 g3) ?_
  rintro _ _ (⟨c4, rfl, rfl⟩ | ⟨c4, rfl, rfl⟩)
  · replace h := h.1 c4
    refine .inl ⟨none, rfl, ?_⟩
    show wp S 158 6 [(0, rf 2), (1, iv x1), (2, iv x2)] [] s Q
    refine i_aload_n (a := 2) r_158_6 (n_158_6 _) rfl ?_
    refine i_iload_n (x := x1) r_158_7 (n_158_7 _) rfl ?_
    refine wp_virt (b := 2) (rest := []) (Ls := [(0, rf 2), (1, iv x1)]) r_158_8 (n_158_8 _) rfl ⟨rfl, rfl, by decide, by decide⟩ rfl rfl lf_2 ⟨rfl, Nat.le_of_ble_eq_true rfl, Nat.le_of_ble_eq_true rfl⟩ rfl h ?_
    intro o5 s5 h
    rcases h with ⟨rfl, h⟩ | ⟨e5, rfl, h⟩
    · refine .inl ⟨none, rfl, ?_⟩
      refine i_lconst r_158_11 (n_158_11 _) ?_
      refine i_lstore_n (l' := [(0, rf 2), (1, iv x1), (2, iv x2), (3, .long 0)]) r_158_12 (n_158_12 _) (by decide) rfl ?_
      refine i_iconst r_158_13 (n_158_13 _) ?_
      refine i_istore (l' := [(0, rf 2), (1, iv x1), (2, iv x2), (3, .long 0), (5, iv 0)]) r_158_14 (n_158_14 _) (by decide) rfl ?_
      exact wp_pr (l' := [(0, rf 2), (2, iv x2), (3, .long 0), (5, iv 0)]) rfl h
    · skip
      exact h.elim
  · replace h := h.2 c4
    exact .inr ⟨_, rfl, .inl ⟨rfl, h⟩⟩
theorem v_RL_sum_16 {S : Option (Nat × (Nat → Int32))} {s : zSt} {Q : Option Value ⊕ Nat → zSt → Prop} {x2 : Int} {u3 : Int64} {x5 : Int} 
    (h : rng x5 ∧ (((zI s 48 2) ≤ x5 → Q (rL u3) s) ∧ (x5 < (zI s 48 2) → wp S 126 0 [(0, rf 48), (1, rf 6), (2, iv x5), (3, iv x2)] [] s (fun o4 s4 => zkL (fun y4 => wp S 158 16 [(0, rf 2), (2, iv x2), (3, .long (u3 + y4)), (5, iv (x5 + 1))] [] s4 Q) (fun e4 => False) o4)))) :
    wp S 158 16 [(0, rf 2), (2, iv x2), (3, .long u3), (5, iv x5)] [] s Q := by
  refine i_iload (x := x5) r_158_16 rfl rfl ?_
  refine i_aload_n (a := 2) r_158_18 (n_158_18 _) rfl ?_
  refine i_getR (a := 2) (b := 48) r_158_19 (n_158_19 _) rfl rfl rfl (by omega) lf_2 (by omega) ?_
  refine i_getI (a := 48) r_158_22 (n_158_22 _) rfl (by decide) lf_48 (fun q1 => ?_)
  obtain ⟨g2, h⟩ := h
  refine i_icmp (t := 54) r_158_25 (n_158_25 _) rfl (T_ge g2 q1) (fun c3 => ?_) (fun c3 => ?_)
  · replace h := h.1 c3
    refine i_lload_n (u := u3) r_158_54 (n_158_54 _) rfl ?_
    exact i_lreturn r_158_55 (n_158_55 _) rfl h
  · replace h := h.2 c3
    refine i_lload_n (u := u3) r_158_28 (n_158_28 _) rfl ?_
    refine i_aload_n (a := 2) r_158_29 (n_158_29 _) rfl ?_
    refine i_getR (a := 2) (b := 48) r_158_30 (n_158_30 _) rfl rfl rfl (by omega) lf_2 (by omega) ?_
    refine i_aload_n (a := 2) r_158_33 (n_158_33 _) rfl ?_
    refine i_getR (a := 2) (b := 3) r_158_34 (n_158_34 _) rfl rfl rfl (by omega) lf_2 (by omega) ?_
    refine i_getR (a := 3) (b := 6) r_158_37 (n_158_37 _) rfl rfl rfl (by omega) lf_3 (by omega) ?_
    refine i_iload (x := x5) r_158_40 (n_158_40 _) rfl ?_
    refine i_iload_n (x := x2) r_158_42 (n_158_42 _) rfl ?_
    refine wp_virt (b := 48) (rest := [.long u3]) (Ls := [(0, rf 48), (1, rf 6), (2, iv x5), (3, iv x2)]) r_158_43 (n_158_43 _) rfl ⟨rfl, rfl, by decide, by decide⟩ rfl rfl lf_48 ⟨rfl, Nat.le_of_ble_eq_true rfl, Nat.le_of_ble_eq_true rfl⟩ rfl h ?_
    intro o4 s4 h
    rcases h with ⟨y4, rfl, h⟩ | ⟨e4, rfl, h⟩
    · refine .inl ⟨some (.long y4), rfl, ?_⟩
      show wp S 158 46 [(0, rf 2), (2, iv x2), (3, .long u3), (5, iv x5)] [.long y4, .long u3] s4 Q
      refine i_ladd r_158_46 (n_158_46 _) ?_
      refine i_lstore_n (l' := [(0, rf 2), (2, iv x2), (3, .long (u3 + y4)), (5, iv x5)]) r_158_47 (n_158_47 _) (by decide) rfl ?_
      refine i_iinc (x := x5) (l' := [(0, rf 2), (2, iv x2), (3, .long (u3 + y4)), (5, iv (x5 + 1))]) r_158_48 (n_158_48 _) (by decide) rfl rfl ?_
      refine i_goto (t := 16) r_158_51 (n_158_51 _) rfl ?_
      exact wp_pr (l' := [(0, rf 2), (2, iv x2), (3, .long (u3 + y4)), (5, iv (x5 + 1))]) rfl h
    · skip
      exact h.elim
theorem r_160_0 : xfetch 160 0 = some (.aload_n 0, 1) := by decide +kernel
theorem n_160_0 : ∀ l, xpr 160 0 l = l := xpr_no (by decide +kernel)
theorem r_160_1 : xfetch 160 1 = some (.iload_n 1, 1) := by decide +kernel
theorem n_160_1 : ∀ l, xpr 160 1 l = l := xpr_no (by decide +kernel)
theorem r_160_2 : xfetch 160 2 = some (.iload 4, 2) := by decide +kernel
theorem n_160_2 : ∀ l, xpr 160 2 l = l := xpr_no (by decide +kernel)
theorem r_160_4 : xfetch 160 4 = some (.iload 5, 2) := by decide +kernel
theorem n_160_4 : ∀ l, xpr 160 4 l = l := xpr_no (by decide +kernel)
theorem r_160_6 : xfetch 160 6 = some (.invokevirtual 356, 3) := by decide +kernel
theorem n_160_6 : ∀ l, xpr 160 6 l = l := xpr_no (by decide +kernel)
theorem r_160_9 : xfetch 160 9 = some (.iload 6, 2) := by decide +kernel
theorem n_160_9 : ∀ l, xpr 160 9 l = l := xpr_no (by decide +kernel)
theorem r_160_11 : xfetch 160 11 = some (.invokestatic 359, 3) := by decide +kernel
theorem n_160_11 : ∀ l, xpr 160 11 l = l := xpr_no (by decide +kernel)
theorem r_160_14 : xfetch 160 14 = some (.aload_n 0, 1) := by decide +kernel
theorem n_160_14 : ∀ l, xpr 160 14 l = l := xpr_no (by decide +kernel)
theorem r_160_15 : xfetch 160 15 = some (.iload_n 1, 1) := by decide +kernel
theorem n_160_15 : ∀ l, xpr 160 15 l = l := xpr_no (by decide +kernel)
theorem r_160_16 : xfetch 160 16 = some (.invokevirtual 293, 3) := by decide +kernel
theorem n_160_16 : ∀ l, xpr 160 16 l = l := xpr_no (by decide +kernel)
theorem r_160_19 : xfetch 160 19 = some (.aload_n 0, 1) := by decide +kernel
theorem n_160_19 : ∀ l, xpr 160 19 l = l := xpr_no (by decide +kernel)
theorem r_160_20 : xfetch 160 20 = some (.getfield 47, 3) := by decide +kernel
theorem n_160_20 : ∀ l, xpr 160 20 l = l := xpr_no (by decide +kernel)
theorem r_160_23 : xfetch 160 23 = some (.aload_n 0, 1) := by decide +kernel
theorem n_160_23 : ∀ l, xpr 160 23 l = l := xpr_no (by decide +kernel)
theorem r_160_24 : xfetch 160 24 = some (.getfield 57, 3) := by decide +kernel
theorem n_160_24 : ∀ l, xpr 160 24 l = l := xpr_no (by decide +kernel)
theorem r_160_27 : xfetch 160 27 = some (.lload_n 2, 1) := by decide +kernel
theorem n_160_27 : ∀ l, xpr 160 27 l = l := xpr_no (by decide +kernel)
theorem r_160_28 : xfetch 160 28 = some (.iload 4, 2) := by decide +kernel
theorem n_160_28 : ∀ l, xpr 160 28 l = l := xpr_no (by decide +kernel)
theorem r_160_30 : xfetch 160 30 = some (.iload 5, 2) := by decide +kernel
theorem n_160_30 : ∀ l, xpr 160 30 l = l := xpr_no (by decide +kernel)
theorem r_160_32 : xfetch 160 32 = some (.iload 6, 2) := by decide +kernel
theorem n_160_32 : ∀ l, xpr 160 32 l = l := xpr_no (by decide +kernel)
theorem r_160_34 : xfetch 160 34 = some (.invokevirtual 362, 3) := by decide +kernel
theorem n_160_34 : ∀ l, xpr 160 34 l = l := xpr_no (by decide +kernel)
theorem r_160_37 : xfetch 160 37 = some (.aload_n 0, 1) := by decide +kernel
theorem n_160_37 : ∀ l, xpr 160 37 l = l := xpr_no (by decide +kernel)
theorem r_160_38 : xfetch 160 38 = some (.getfield 57, 3) := by decide +kernel
theorem n_160_38 : ∀ l, xpr 160 38 l = l := xpr_no (by decide +kernel)
theorem r_160_41 : xfetch 160 41 = some (.invokevirtual 366, 3) := by decide +kernel
theorem n_160_41 : ∀ l, xpr 160 41 l = l := xpr_no (by decide +kernel)
theorem r_160_44 : xfetch 160 44 = some (.ireturn, 1) := by decide +kernel
theorem n_160_44 : ∀ l, xpr 160 44 l = l := xpr_no (by decide +kernel)
theorem v_RL_lines_0 {S : Option (Nat × (Nat → Int32))} {s : zSt} {Q : Option Value ⊕ Nat → zSt → Prop} {x1 : Int} {u2 : Int64} {x4 : Int} {x5 : Int} {x6 : Int} 
    (h : wp S 161 0 [(0, rf 2), (1, iv x1), (2, iv x4), (3, iv x5)] [] s (fun o1 s1 => zkU (rng x6 ∧ ((x6 = 16 ∨ x6 = 32 ∨ x6 = 64 → wp S 120 0 [(0, rf 2), (1, iv x1)] [] s1 (fun o5 s5 => zkU (wp S 163 0 [(0, rf 48), (1, rf 58), (2, .long u2), (4, iv x4), (5, iv x5), (6, iv x6)] [] s5 (fun o7 s7 => zkU (wp S 167 0 [(0, rf 58)] [] s7 (fun o9 s9 => zkI (fun y9 => Q (rI y9) s9) (fun e9 => False) o9)) (fun e7 => False) o7)) (fun e5 => False) o5)) ∧ ((¬ (x6 = 16 ∨ x6 = 32 ∨ x6 = 64) → Q (rT 0) (zbump s1))))) (fun e1 => Q (rT e1) s1) o1)) :
    wp S 160 0 [(0, rf 2), (1, iv x1), (2, .long u2), (4, iv x4), (5, iv x5), (6, iv x6)] [] s Q := by
  refine i_aload_n (a := 2) r_160_0 (n_160_0 _) rfl ?_
  refine i_iload_n (x := x1) r_160_1 (n_160_1 _) rfl ?_
  refine i_iload (x := x4) r_160_2 (n_160_2 _) rfl ?_
  refine i_iload (x := x5) r_160_4 (n_160_4 _) rfl ?_
  refine wp_virt (b := 2) (rest := []) (Ls := [(0, rf 2), (1, iv x1), (2, iv x4), (3, iv x5)]) r_160_6 (n_160_6 _) rfl ⟨rfl, rfl, by decide, by decide⟩ rfl rfl lf_2 ⟨rfl, Nat.le_of_ble_eq_true rfl, Nat.le_of_ble_eq_true rfl⟩ rfl h ?_
  intro o1 s1 h
  rcases h with ⟨rfl, h⟩ | ⟨e1, rfl, h⟩
  · refine .inl ⟨none, rfl, ?_⟩
    refine i_iload (x := x6) r_160_9 (n_160_9 _) rfl ?_
    obtain ⟨g3, h⟩ := h
    refine wp_stat (rest := []) (Ls := [(0, iv x6)]) r_160_11 (n_160_11 _) rfl ⟨rfl, by decide, by decide, by decide⟩ rfl rfl ⟨rfl, Nat.le_of_ble_eq_true rfl, Nat.le_of_ble_eq_true rfl⟩ rfl (K_RL_checkLine g3) ?_
    rintro _ _ (⟨c4, rfl, rfl⟩ | ⟨c4, rfl, rfl⟩)
    · replace h := h.1 c4
      refine .inl ⟨none, rfl, ?_⟩
      show wp S 160 14 [(0, rf 2), (1, iv x1), (2, .long u2), (4, iv x4), (5, iv x5), (6, iv x6)] [] s1 Q
      refine i_aload_n (a := 2) r_160_14 (n_160_14 _) rfl ?_
      refine i_iload_n (x := x1) r_160_15 (n_160_15 _) rfl ?_
      refine wp_virt (b := 2) (rest := []) (Ls := [(0, rf 2), (1, iv x1)]) r_160_16 (n_160_16 _) rfl ⟨rfl, rfl, by decide, by decide⟩ rfl rfl lf_2 ⟨rfl, Nat.le_of_ble_eq_true rfl, Nat.le_of_ble_eq_true rfl⟩ rfl h ?_
      intro o5 s5 h
      rcases h with ⟨rfl, h⟩ | ⟨e5, rfl, h⟩
      · refine .inl ⟨none, rfl, ?_⟩
        refine i_aload_n (a := 2) r_160_19 (n_160_19 _) rfl ?_
        refine i_getR (a := 2) (b := 48) r_160_20 (n_160_20 _) rfl rfl rfl (by omega) lf_2 (by omega) ?_
        refine i_aload_n (a := 2) r_160_23 (n_160_23 _) rfl ?_
        refine i_getR (a := 2) (b := 58) r_160_24 (n_160_24 _) rfl rfl rfl (by omega) lf_2 (by omega) ?_
        refine i_lload_n (u := u2) r_160_27 (n_160_27 _) rfl ?_
        refine i_iload (x := x4) r_160_28 (n_160_28 _) rfl ?_
        refine i_iload (x := x5) r_160_30 (n_160_30 _) rfl ?_
        refine i_iload (x := x6) r_160_32 (n_160_32 _) rfl ?_
        refine wp_virt (b := 48) (rest := []) (Ls := [(0, rf 48), (1, rf 58), (2, .long u2), (4, iv x4), (5, iv x5), (6, iv x6)]) r_160_34 (n_160_34 _) rfl ⟨rfl, rfl, by decide, by decide⟩ rfl rfl lf_48 ⟨rfl, Nat.le_of_ble_eq_true rfl, Nat.le_of_ble_eq_true rfl⟩ rfl h ?_
        intro o7 s7 h
        rcases h with ⟨rfl, h⟩ | ⟨e7, rfl, h⟩
        · refine .inl ⟨none, rfl, ?_⟩
          refine i_aload_n (a := 2) r_160_37 (n_160_37 _) rfl ?_
          refine i_getR (a := 2) (b := 58) r_160_38 (n_160_38 _) rfl rfl rfl (by omega) lf_2 (by omega) ?_
          refine wp_virt (b := 58) (rest := []) (Ls := [(0, rf 58)]) r_160_41 (n_160_41 _) rfl ⟨rfl, rfl, by decide, by decide⟩ rfl rfl lf_58 ⟨rfl, Nat.le_of_ble_eq_true rfl, Nat.le_of_ble_eq_true rfl⟩ rfl h ?_
          intro o9 s9 h
          rcases h with ⟨y9, q10, rfl, h⟩ | ⟨e9, rfl, h⟩
          · refine .inl ⟨some (iv y9), rfl, ?_⟩
            show wp S 160 44 [(0, rf 2), (1, iv x1), (2, .long u2), (4, iv x4), (5, iv x5), (6, iv x6)] [iv y9] s9 Q
            exact i_ireturn r_160_44 (n_160_44 _) rfl h
          · skip
            exact h.elim
        · skip
          exact h.elim
      · skip
        exact h.elim
    · replace h := h.2 c4
      exact .inr ⟨_, rfl, rfl, .inl ⟨rfl, h⟩⟩
  · skip
    exact .inr ⟨e1, rfl, .inl ⟨rfl, h⟩⟩
theorem r_161_0 : xfetch 161 0 = some (.aload_n 0, 1) := by decide +kernel
theorem n_161_0 : ∀ l, xpr 161 0 l = l := xpr_no (by decide +kernel)
theorem r_161_1 : xfetch 161 1 = some (.iload_n 1, 1) := by decide +kernel
theorem n_161_1 : ∀ l, xpr 161 1 l = l := xpr_no (by decide +kernel)
theorem r_161_2 : xfetch 161 2 = some (.iload_n 2, 1) := by decide +kernel
theorem n_161_2 : ∀ l, xpr 161 2 l = l := xpr_no (by decide +kernel)
theorem r_161_3 : xfetch 161 3 = some (.invokevirtual 351, 3) := by decide +kernel
theorem n_161_3 : ∀ l, xpr 161 3 l = l := xpr_no (by decide +kernel)
theorem r_161_6 : xfetch 161 6 = some (.aload_n 0, 1) := by decide +kernel
theorem n_161_6 : ∀ l, xpr 161 6 l = l := xpr_no (by decide +kernel)
theorem r_161_7 : xfetch 161 7 = some (.iload_n 1, 1) := by decide +kernel
theorem n_161_7 : ∀ l, xpr 161 7 l = l := xpr_no (by decide +kernel)
theorem r_161_8 : xfetch 161 8 = some (.iload_n 3, 1) := by decide +kernel
theorem n_161_8 : ∀ l, xpr 161 8 l = l := xpr_no (by decide +kernel)
theorem r_161_9 : xfetch 161 9 = some (.invokevirtual 351, 3) := by decide +kernel
theorem n_161_9 : ∀ l, xpr 161 9 l = l := xpr_no (by decide +kernel)
theorem r_161_12 : xfetch 161 12 = some (.iload_n 2, 1) := by decide +kernel
theorem n_161_12 : ∀ l, xpr 161 12 l = l := xpr_no (by decide +kernel)
theorem r_161_13 : xfetch 161 13 = some (.iload_n 3, 1) := by decide +kernel
theorem n_161_13 : ∀ l, xpr 161 13 l = l := xpr_no (by decide +kernel)
theorem r_161_14 : xfetch 161 14 = some (.if_icmp .le 14, 3) := by decide +kernel
theorem n_161_14 : ∀ l, xpr 161 14 l = l := xpr_no (by decide +kernel)
theorem r_161_17 : xfetch 161 17 = some (.new 102, 3) := by decide +kernel
theorem n_161_17 : ∀ l, xpr 161 17 l = l := xpr_no (by decide +kernel)
theorem r_161_28 : xfetch 161 28 = some (.return_, 1) := by decide +kernel
theorem n_161_28 : ∀ l, xpr 161 28 l = l := xpr_no (by decide +kernel)
theorem v_RL_checkRows_0 {S : Option (Nat × (Nat → Int32))} {s : zSt} {Q : Option Value ⊕ Nat → zSt → Prop} {x1 : Int} {x2 : Int} {x3 : Int} 
    (h : rng x1 ∧ (rng x2 ∧ (((0 ≤ x1 ∧ x1 < 3 ∧ zI s (31 + x1) 0 ≠ 0) ∧ 0 ≤ x2 ∧ x2 < zI s (31 + x1) 2 → rng x3 ∧ (((0 ≤ x1 ∧ x1 < 3 ∧ zI s (31 + x1) 0 ≠ 0) ∧ 0 ≤ x3 ∧ x3 < zI s (31 + x1) 2 → (x2 ≤ x3 → Q rU s) ∧ (x3 < x2 → Q (rT 0) (zbump s))) ∧ ((¬ ((0 ≤ x1 ∧ x1 < 3 ∧ zI s (31 + x1) 0 ≠ 0) ∧ 0 ≤ x3 ∧ x3 < zI s (31 + x1) 2) → Q (rT 2) (zbump s))))) ∧ ((¬ ((0 ≤ x1 ∧ x1 < 3 ∧ zI s (31 + x1) 0 ≠ 0) ∧ 0 ≤ x2 ∧ x2 < zI s (31 + x1) 2) → Q (rT 2) (zbump s)))))) :
    wp S 161 0 [(0, rf 2), (1, iv x1), (2, iv x2), (3, iv x3)] [] s Q := by
  refine i_aload_n (a := 2) r_161_0 (n_161_0 _) rfl ?_
  refine i_iload_n (x := x1) r_161_1 (n_161_1 _) rfl ?_
  refine i_iload_n (x := x2) r_161_2 (n_161_2 _) rfl ?_
  obtain ⟨g1, h⟩ := h
  obtain ⟨g2, h⟩ := h
  refine wp_virt (b := 2) (rest := []) (Ls := [(0, rf 2), (1, iv x1), (2, iv x2)]) r_161_3 (n_161_3 _) rfl ⟨rfl, rfl, by decide, by decide⟩ rfl rfl lf_2 ⟨rfl, Nat.le_of_ble_eq_true rfl, Nat.le_of_ble_eq_true rfl⟩ rfl (K_RL_checkRow g1 g2) ?_
  rintro _ _ (⟨c3, rfl, rfl⟩ | ⟨c3, rfl, rfl⟩)
  · replace h := h.1 c3
    refine .inl ⟨none, rfl, ?_⟩
    show wp S 161 6 [(0, rf 2), (1, iv x1), (2, iv x2), (3, iv x3)] [] s Q
    refine i_aload_n (a := 2) r_161_6 (n_161_6 _) rfl ?_
    refine i_iload_n (x := x1) r_161_7 (n_161_7 _) rfl ?_
    refine i_iload_n (x := x3) r_161_8 (n_161_8 _) rfl ?_
    obtain ⟨g4, h⟩ := h
    refine wp_virt (b := 2) (rest := []) (Ls := [(0, rf 2), (1, iv x1), (2, iv x3)]) r_161_9 (n_161_9 _) rfl ⟨rfl, rfl, by decide, by decide⟩ rfl rfl lf_2 ⟨rfl, Nat.le_of_ble_eq_true rfl, Nat.le_of_ble_eq_true rfl⟩ rfl (K_RL_checkRow g1 g4) ?_
    rintro _ _ (⟨c5, rfl, rfl⟩ | ⟨c5, rfl, rfl⟩)
    · replace h := h.1 c5
      refine .inl ⟨none, rfl, ?_⟩
      show wp S 161 12 [(0, rf 2), (1, iv x1), (2, iv x2), (3, iv x3)] [] s Q
      refine i_iload_n (x := x2) r_161_12 (n_161_12 _) rfl ?_
      refine i_iload_n (x := x3) r_161_13 (n_161_13 _) rfl ?_
      refine i_icmp (t := 28) r_161_14 (n_161_14 _) rfl (T_le g2 g4) (fun c6 => ?_) (fun c6 => ?_)
      · replace h := h.1 c6
        exact i_return r_161_28 (n_161_28 _) rfl h
      · replace h := h.2 c6
        exact i_throw r_161_17 (n_161_17 _) rfl (by decide) h
    · replace h := h.2 c5
      exact .inr ⟨_, rfl, .inl ⟨rfl, h⟩⟩
  · replace h := h.2 c3
    exact .inr ⟨_, rfl, .inl ⟨rfl, h⟩⟩
theorem r_163_0 : xfetch 163 0 = some (.aload_n 1, 1) := by decide +kernel
theorem n_163_0 : ∀ l, xpr 163 0 l = l := xpr_no (by decide +kernel)
theorem r_163_1 : xfetch 163 1 = some (.invokevirtual 102, 3) := by decide +kernel
theorem n_163_1 : ∀ l, xpr 163 1 l = l := xpr_no (by decide +kernel)
theorem r_163_4 : xfetch 163 4 = some (.iload 6, 2) := by decide +kernel
theorem n_163_4 : ∀ l, xpr 163 4 l = l := xpr_no (by decide +kernel)
theorem r_163_6 : xfetch 163 6 = some (.iconst 1, 1) := by decide +kernel
theorem n_163_6 : ∀ l, xpr 163 6 l = l := xpr_no (by decide +kernel)
theorem r_163_7 : xfetch 163 7 = some (.if_icmp .ge 4, 3) := by decide +kernel
theorem n_163_7 : ∀ l, xpr 163 7 l = l := xpr_no (by decide +kernel)
theorem r_163_10 : xfetch 163 10 = some (.return_, 1) := by decide +kernel
theorem n_163_10 : ∀ l, xpr 163 10 l = l := xpr_no (by decide +kernel)
theorem r_163_11 : xfetch 163 11 = some (.iconst 0, 1) := by decide +kernel
theorem n_163_11 : ∀ l, xpr 163 11 l = l := xpr_no (by decide +kernel)
theorem r_163_12 : xfetch 163 12 = some (.istore 7, 2) := by decide +kernel
theorem n_163_12 : ∀ l, xpr 163 12 l = l := xpr_no (by decide +kernel)
theorem r_163_14 : xfetch 163 14 = some (.iload 7, 2) := by decide +kernel
theorem r_163_16 : xfetch 163 16 = some (.aload_n 0, 1) := by decide +kernel
theorem n_163_16 : ∀ l, xpr 163 16 l = l := xpr_no (by decide +kernel)
theorem r_163_17 : xfetch 163 17 = some (.getfield 42, 3) := by decide +kernel
theorem n_163_17 : ∀ l, xpr 163 17 l = l := xpr_no (by decide +kernel)
theorem r_163_20 : xfetch 163 20 = some (.if_icmp .ge 89, 3) := by decide +kernel
theorem n_163_20 : ∀ l, xpr 163 20 l = l := xpr_no (by decide +kernel)
theorem r_163_23 : xfetch 163 23 = some (.lload_n 2, 1) := by decide +kernel
theorem n_163_23 : ∀ l, xpr 163 23 l = l := xpr_no (by decide +kernel)
theorem r_163_24 : xfetch 163 24 = some (.iload 7, 2) := by decide +kernel
theorem n_163_24 : ∀ l, xpr 163 24 l = l := xpr_no (by decide +kernel)
theorem r_163_26 : xfetch 163 26 = some (.lushr, 1) := by decide +kernel
theorem n_163_26 : ∀ l, xpr 163 26 l = l := xpr_no (by decide +kernel)
theorem r_163_27 : xfetch 163 27 = some (.lconst 1, 1) := by decide +kernel
theorem n_163_27 : ∀ l, xpr 163 27 l = l := xpr_no (by decide +kernel)
theorem r_163_28 : xfetch 163 28 = some (.land, 1) := by decide +kernel
theorem n_163_28 : ∀ l, xpr 163 28 l = l := xpr_no (by decide +kernel)
theorem r_163_29 : xfetch 163 29 = some (.lconst 0, 1) := by decide +kernel
theorem n_163_29 : ∀ l, xpr 163 29 l = l := xpr_no (by decide +kernel)
theorem r_163_30 : xfetch 163 30 = some (.lcmp, 1) := by decide +kernel
theorem n_163_30 : ∀ l, xpr 163 30 l = l := xpr_no (by decide +kernel)
theorem r_163_31 : xfetch 163 31 = some (.ifCond .ne 6, 3) := by decide +kernel
theorem n_163_31 : ∀ l, xpr 163 31 l = l := xpr_no (by decide +kernel)
theorem r_163_34 : xfetch 163 34 = some (.goto 69, 3) := by decide +kernel
theorem n_163_34 : ∀ l, xpr 163 34 l = l := xpr_no (by decide +kernel)
theorem r_163_37 : xfetch 163 37 = some (.iload 4, 2) := by decide +kernel
theorem n_163_37 : ∀ l, xpr 163 37 l = l := xpr_no (by decide +kernel)
theorem r_163_39 : xfetch 163 39 = some (.istore 8, 2) := by decide +kernel
theorem n_163_39 : ∀ l, xpr 163 39 l = l := xpr_no (by decide +kernel)
theorem r_163_41 : xfetch 163 41 = some (.iload 8, 2) := by decide +kernel
theorem r_163_43 : xfetch 163 43 = some (.iload 5, 2) := by decide +kernel
theorem n_163_43 : ∀ l, xpr 163 43 l = l := xpr_no (by decide +kernel)
theorem r_163_45 : xfetch 163 45 = some (.if_icmp .gt 58, 3) := by decide +kernel
theorem n_163_45 : ∀ l, xpr 163 45 l = l := xpr_no (by decide +kernel)
theorem r_163_48 : xfetch 163 48 = some (.aload_n 0, 1) := by decide +kernel
theorem n_163_48 : ∀ l, xpr 163 48 l = l := xpr_no (by decide +kernel)
theorem r_163_49 : xfetch 163 49 = some (.iload 8, 2) := by decide +kernel
theorem n_163_49 : ∀ l, xpr 163 49 l = l := xpr_no (by decide +kernel)
theorem r_163_51 : xfetch 163 51 = some (.iload 7, 2) := by decide +kernel
theorem n_163_51 : ∀ l, xpr 163 51 l = l := xpr_no (by decide +kernel)
theorem r_163_53 : xfetch 163 53 = some (.invokevirtual 82, 3) := by decide +kernel
theorem n_163_53 : ∀ l, xpr 163 53 l = l := xpr_no (by decide +kernel)
theorem r_163_56 : xfetch 163 56 = some (.istore 9, 2) := by decide +kernel
theorem n_163_56 : ∀ l, xpr 163 56 l = l := xpr_no (by decide +kernel)
theorem r_163_58 : xfetch 163 58 = some (.iload 9, 2) := by decide +kernel
theorem n_163_58 : ∀ l, xpr 163 58 l = l := xpr_no (by decide +kernel)
theorem r_163_60 : xfetch 163 60 = some (.iload 6, 2) := by decide +kernel
theorem n_163_60 : ∀ l, xpr 163 60 l = l := xpr_no (by decide +kernel)
theorem r_163_62 : xfetch 163 62 = some (.idiv, 1) := by decide +kernel
theorem n_163_62 : ∀ l, xpr 163 62 l = l := xpr_no (by decide +kernel)
theorem r_163_63 : xfetch 163 63 = some (.istore 10, 2) := by decide +kernel
theorem n_163_63 : ∀ l, xpr 163 63 l = l := xpr_no (by decide +kernel)
theorem r_163_65 : xfetch 163 65 = some (.iload 10, 2) := by decide +kernel
theorem r_163_67 : xfetch 163 67 = some (.iload 9, 2) := by decide +kernel
theorem n_163_67 : ∀ l, xpr 163 67 l = l := xpr_no (by decide +kernel)
theorem r_163_69 : xfetch 163 69 = some (.aload_n 0, 1) := by decide +kernel
theorem n_163_69 : ∀ l, xpr 163 69 l = l := xpr_no (by decide +kernel)
theorem r_163_70 : xfetch 163 70 = some (.getfield 22, 3) := by decide +kernel
theorem n_163_70 : ∀ l, xpr 163 70 l = l := xpr_no (by decide +kernel)
theorem r_163_73 : xfetch 163 73 = some (.iload 7, 2) := by decide +kernel
theorem n_163_73 : ∀ l, xpr 163 73 l = l := xpr_no (by decide +kernel)
theorem r_163_75 : xfetch 163 75 = some (.iaload, 1) := by decide +kernel
theorem n_163_75 : ∀ l, xpr 163 75 l = l := xpr_no (by decide +kernel)
theorem r_163_76 : xfetch 163 76 = some (.iadd, 1) := by decide +kernel
theorem n_163_76 : ∀ l, xpr 163 76 l = l := xpr_no (by decide +kernel)
theorem r_163_77 : xfetch 163 77 = some (.iconst 1, 1) := by decide +kernel
theorem n_163_77 : ∀ l, xpr 163 77 l = l := xpr_no (by decide +kernel)
theorem r_163_78 : xfetch 163 78 = some (.isub, 1) := by decide +kernel
theorem n_163_78 : ∀ l, xpr 163 78 l = l := xpr_no (by decide +kernel)
theorem r_163_79 : xfetch 163 79 = some (.iload 6, 2) := by decide +kernel
theorem n_163_79 : ∀ l, xpr 163 79 l = l := xpr_no (by decide +kernel)
theorem r_163_81 : xfetch 163 81 = some (.idiv, 1) := by decide +kernel
theorem n_163_81 : ∀ l, xpr 163 81 l = l := xpr_no (by decide +kernel)
theorem r_163_82 : xfetch 163 82 = some (.if_icmp .gt 15, 3) := by decide +kernel
theorem n_163_82 : ∀ l, xpr 163 82 l = l := xpr_no (by decide +kernel)
theorem r_163_85 : xfetch 163 85 = some (.aload_n 1, 1) := by decide +kernel
theorem n_163_85 : ∀ l, xpr 163 85 l = l := xpr_no (by decide +kernel)
theorem r_163_86 : xfetch 163 86 = some (.iload 10, 2) := by decide +kernel
theorem n_163_86 : ∀ l, xpr 163 86 l = l := xpr_no (by decide +kernel)
theorem r_163_88 : xfetch 163 88 = some (.invokevirtual 107, 3) := by decide +kernel
theorem n_163_88 : ∀ l, xpr 163 88 l = l := xpr_no (by decide +kernel)
theorem r_163_91 : xfetch 163 91 = some (.iinc 10 1, 3) := by decide +kernel
theorem n_163_91 : ∀ l, xpr 163 91 l = l := xpr_no (by decide +kernel)
theorem r_163_94 : xfetch 163 94 = some (.goto (-29), 3) := by decide +kernel
theorem n_163_94 : ∀ l, xpr 163 94 l = l := xpr_no (by decide +kernel)
theorem r_163_97 : xfetch 163 97 = some (.iinc 8 1, 3) := by decide +kernel
theorem n_163_97 : ∀ l, xpr 163 97 l = l := xpr_no (by decide +kernel)
theorem r_163_100 : xfetch 163 100 = some (.goto (-59), 3) := by decide +kernel
theorem n_163_100 : ∀ l, xpr 163 100 l = l := xpr_no (by decide +kernel)
theorem r_163_103 : xfetch 163 103 = some (.iinc 7 1, 3) := by decide +kernel
theorem n_163_103 : ∀ l, xpr 163 103 l = l := xpr_no (by decide +kernel)
theorem r_163_106 : xfetch 163 106 = some (.goto (-92), 3) := by decide +kernel
theorem n_163_106 : ∀ l, xpr 163 106 l = l := xpr_no (by decide +kernel)
theorem r_163_109 : xfetch 163 109 = some (.return_, 1) := by decide +kernel
theorem n_163_109 : ∀ l, xpr 163 109 l = l := xpr_no (by decide +kernel)
theorem v_View_markScan_0 {S : Option (Nat × (Nat → Int32))} {s : zSt} {Q : Option Value ⊕ Nat → zSt → Prop} {a0 : Int} {u2 : Int64} {x4 : Int} {x5 : Int} {x6 : Int} (ha0 : isO a0 8)
    (h : wp S 164 0 [(0, rf 58)] [] s (fun o1 s1 => zkU (rng x6 ∧ ((1 ≤ x6 → wp S 163 14 [(0, rf a0), (1, rf 58), (2, .long u2), (4, iv x4), (5, iv x5), (6, iv x6), (7, iv 0)] [] s1 Q) ∧ (x6 < 1 → Q rU s1))) (fun e1 => False) o1)) :
    wp S 163 0 [(0, rf a0), (1, rf 58), (2, .long u2), (4, iv x4), (5, iv x5), (6, iv x6)] [] s Q := by
  refine i_aload_n (a := 58) r_163_0 (n_163_0 _) rfl ?_
  refine wp_virt (b := 58) (rest := []) (Ls := [(0, rf 58)]) r_163_1 (n_163_1 _) rfl ⟨rfl, rfl, by decide, by decide⟩ rfl rfl lf_58 ⟨rfl, Nat.le_of_ble_eq_true rfl, Nat.le_of_ble_eq_true rfl⟩ rfl h ?_
  intro o1 s1 h
  rcases h with ⟨rfl, h⟩ | ⟨e1, rfl, h⟩
  · refine .inl ⟨none, rfl, ?_⟩
    refine i_iload (x := x6) r_163_4 (n_163_4 _) rfl ?_
    refine i_iconst r_163_6 (n_163_6 _) ?_
    obtain ⟨g3, h⟩ := h
    refine i_icmp (t := 11) r_163_7 (n_163_7 _) rfl (T_ge g3 ⟨by omega, by omega⟩) (fun c4 => ?_) (fun c4 => ?_)
    · replace h := h.1 c4
      refine i_iconst r_163_11 (n_163_11 _) ?_
      refine i_istore (l' := [(0, rf a0), (1, rf 58), (2, .long u2), (4, iv x4), (5, iv x5), (6, iv x6), (7, iv 0)]) r_163_12 (n_163_12 _) (by decide) rfl ?_
      exact wp_pr (l' := [(0, rf a0), (1, rf 58), (2, .long u2), (4, iv x4), (5, iv x5), (6, iv x6), (7, iv 0)]) rfl h
    · replace h := h.2 c4
      exact i_return r_163_10 (n_163_10 _) rfl h
  · skip
    exact h.elim
theorem v_View_markScan_14 {S : Option (Nat × (Nat → Int32))} {s : zSt} {Q : Option Value ⊕ Nat → zSt → Prop} {a0 : Int} {u2 : Int64} {x4 : Int} {x5 : Int} {x6 : Int} {x7 : Int} (ha0 : isO a0 8)
    (h : rng x7 ∧ (((zI s a0 3) ≤ x7 → Q rU s) ∧ (x7 < (zI s a0 3) → ((zcmp ((zushrL u2 x7) &&& 1) 0) ≠ 0 → wp S 163 41 [(0, rf a0), (1, rf 58), (2, .long u2), (4, iv x4), (5, iv x5), (6, iv x6), (7, iv x7), (8, iv x4)] [] s Q) ∧ ((zcmp ((zushrL u2 x7) &&& 1) 0) = 0 → wp S 163 14 [(0, rf a0), (1, rf 58), (2, .long u2), (4, iv x4), (5, iv x5), (6, iv x6), (7, iv (x7 + 1))] [] s Q)))) :
    wp S 163 14 [(0, rf a0), (1, rf 58), (2, .long u2), (4, iv x4), (5, iv x5), (6, iv x6), (7, iv x7)] [] s Q := by
  refine i_iload (x := x7) r_163_14 rfl rfl ?_
  refine i_aload_n (a := a0) r_163_16 (n_163_16 _) rfl ?_
  refine i_getI (a := a0) r_163_17 (n_163_17 _) rfl (by decide) ha0 (fun q1 => ?_)
  obtain ⟨g2, h⟩ := h
  refine i_icmp (t := 109) r_163_20 (n_163_20 _) rfl (T_ge g2 q1) (fun c3 => ?_) (fun c3 => ?_)
  · replace h := h.1 c3
    exact i_return r_163_109 (n_163_109 _) rfl h
  · replace h := h.2 c3
    refine i_lload_n (u := u2) r_163_23 (n_163_23 _) rfl ?_
    refine i_iload (x := x7) r_163_24 (n_163_24 _) rfl ?_
    refine i_lushr r_163_26 (n_163_26 _) ?_
    refine i_lconst r_163_27 (n_163_27 _) ?_
    refine i_land r_163_28 (n_163_28 _) ?_
    refine i_lconst r_163_29 (n_163_29 _) ?_
    refine i_lcmp r_163_30 (n_163_30 _) ?_
    refine i_if (t := 37) r_163_31 (n_163_31 _) rfl (T_ne (zcmp_rng _ _) ⟨by omega, by omega⟩) (fun c4 => ?_) (fun c4 => ?_)
    · replace h := h.1 c4
      refine i_iload (x := x4) r_163_37 (n_163_37 _) rfl ?_
      refine i_istore (l' := [(0, rf a0), (1, rf 58), (2, .long u2), (4, iv x4), (5, iv x5), (6, iv x6), (7, iv x7), (8, iv x4)]) r_163_39 (n_163_39 _) (by decide) rfl ?_
      exact wp_pr (l' := [(0, rf a0), (1, rf 58), (2, .long u2), (4, iv x4), (5, iv x5), (6, iv x6), (7, iv x7), (8, iv x4)]) rfl h
    · replace h := h.2 c4
      refine i_goto (t := 103) r_163_34 (n_163_34 _) rfl ?_
      refine i_iinc (x := x7) (l' := [(0, rf a0), (1, rf 58), (2, .long u2), (4, iv x4), (5, iv x5), (6, iv x6), (7, iv (x7 + 1))]) r_163_103 (n_163_103 _) (by decide) rfl rfl ?_
      refine i_goto (t := 14) r_163_106 (n_163_106 _) rfl ?_
      exact wp_pr (l' := [(0, rf a0), (1, rf 58), (2, .long u2), (4, iv x4), (5, iv x5), (6, iv x6), (7, iv (x7 + 1))]) rfl h
theorem v_View_markScan_41 {S : Option (Nat × (Nat → Int32))} {s : zSt} {Q : Option Value ⊕ Nat → zSt → Prop} {a0 : Int} {u2 : Int64} {x4 : Int} {x5 : Int} {x6 : Int} {x7 : Int} {x8 : Int} (ha0 : isO a0 8)
    (h : rng x8 ∧ (rng x5 ∧ ((x5 < x8 → wp S 163 14 [(0, rf a0), (1, rf 58), (2, .long u2), (4, iv x4), (5, iv x5), (6, iv x6), (7, iv (x7 + 1))] [] s Q) ∧ (x8 ≤ x5 → (0 ≤ x7 ∧ x7 < 40) ∧ ((x7 < zI s a0 3) ∧ ((0 < zI s a0 5) ∧ ((0 ≤ x8) ∧ (rng (zI s a0 0 + x8 / zI s a0 5 * zI s a0 6 + zI s (a0 + 2) x7 + x8 % zI s a0 5 * zI s (a0 + 3) x7) ∧ (rng x6 ∧ (0 ≤ (zI s a0 0 + x8 / zI s a0 5 * zI s a0 6 + zI s (a0 + 2) x7 + x8 % zI s a0 5 * zI s (a0 + 3) x7) ∧ (0 < x6 ∧ (wp S 163 65 [(0, rf a0), (1, rf 58), (2, .long u2), (4, iv x4), (5, iv x5), (6, iv x6), (7, iv x7), (8, iv x8), (9, iv (zI s a0 0 + x8 / zI s a0 5 * zI s a0 6 + zI s (a0 + 2) x7 + x8 % zI s a0 5 * zI s (a0 + 3) x7)), (10, iv ((zI s a0 0 + x8 / zI s a0 5 * zI s a0 6 + zI s (a0 + 2) x7 + x8 % zI s a0 5 * zI s (a0 + 3) x7) / x6))] [] s Q)))))))))))) :
    wp S 163 41 [(0, rf a0), (1, rf 58), (2, .long u2), (4, iv x4), (5, iv x5), (6, iv x6), (7, iv x7), (8, iv x8)] [] s Q := by
  refine i_iload (x := x8) r_163_41 rfl rfl ?_
  refine i_iload (x := x5) r_163_43 (n_163_43 _) rfl ?_
  obtain ⟨g1, h⟩ := h
  obtain ⟨g2, h⟩ := h
  refine i_icmp (t := 103) r_163_45 (n_163_45 _) rfl (T_gt g1 g2) (fun c3 => ?_) (fun c3 => ?_)
  · replace h := h.1 c3
    refine i_iinc (x := x7) (l' := [(0, rf a0), (1, rf 58), (2, .long u2), (4, iv x4), (5, iv x5), (6, iv x6), (7, iv (x7 + 1)), (8, iv x8)]) r_163_103 (n_163_103 _) (by decide) rfl rfl ?_
    refine i_goto (t := 14) r_163_106 (n_163_106 _) rfl ?_
    exact wp_pr (l' := [(0, rf a0), (1, rf 58), (2, .long u2), (4, iv x4), (5, iv x5), (6, iv x6), (7, iv (x7 + 1))]) rfl h
  · replace h := h.2 c3
    refine i_aload_n (a := a0) r_163_48 (n_163_48 _) rfl ?_
    refine i_iload (x := x8) r_163_49 (n_163_49 _) rfl ?_
    refine i_iload (x := x7) r_163_51 (n_163_51 _) rfl ?_
    obtain ⟨g4, h⟩ := h
    obtain ⟨g5, h⟩ := h
    obtain ⟨g6, h⟩ := h
    obtain ⟨g7, h⟩ := h
    refine wp_virt (b := a0) (rest := []) (Ls := [(0, rf a0), (1, iv x8), (2, iv x7)]) r_163_53 (n_163_53 _) rfl ⟨rfl, rfl, by decide, by decide⟩ rfl rfl ha0 ⟨rfl, Nat.le_of_ble_eq_true rfl, Nat.le_of_ble_eq_true rfl⟩ rfl (K_View_placeOf ha0 g4 g5 g6 g1 g7) ?_
    rintro _ _ ⟨rfl, rfl⟩
    refine .inl ⟨some (iv (zI s a0 0 + x8 / zI s a0 5 * zI s a0 6 + zI s (a0 + 2) x7 + x8 % zI s a0 5 * zI s (a0 + 3) x7)), rfl, ?_⟩
    show wp S 163 56 [(0, rf a0), (1, rf 58), (2, .long u2), (4, iv x4), (5, iv x5), (6, iv x6), (7, iv x7), (8, iv x8)] [iv (zI s a0 0 + x8 / zI s a0 5 * zI s a0 6 + zI s (a0 + 2) x7 + x8 % zI s a0 5 * zI s (a0 + 3) x7)] s Q
    refine i_istore (l' := [(0, rf a0), (1, rf 58), (2, .long u2), (4, iv x4), (5, iv x5), (6, iv x6), (7, iv x7), (8, iv x8), (9, iv (zI s a0 0 + x8 / zI s a0 5 * zI s a0 6 + zI s (a0 + 2) x7 + x8 % zI s a0 5 * zI s (a0 + 3) x7))]) r_163_56 (n_163_56 _) (by decide) rfl ?_
    refine i_iload (x := zI s a0 0 + x8 / zI s a0 5 * zI s a0 6 + zI s (a0 + 2) x7 + x8 % zI s a0 5 * zI s (a0 + 3) x7) r_163_58 (n_163_58 _) rfl ?_
    refine i_iload (x := x6) r_163_60 (n_163_60 _) rfl ?_
    obtain ⟨g9, h⟩ := h
    obtain ⟨g10, h⟩ := h
    obtain ⟨g11, h⟩ := h
    obtain ⟨g12, h⟩ := h
    refine i_idiv r_163_62 (n_163_62 _) g9 g10 (by omega) (by omega) ?_
    refine i_istore (l' := [(0, rf a0), (1, rf 58), (2, .long u2), (4, iv x4), (5, iv x5), (6, iv x6), (7, iv x7), (8, iv x8), (9, iv (zI s a0 0 + x8 / zI s a0 5 * zI s a0 6 + zI s (a0 + 2) x7 + x8 % zI s a0 5 * zI s (a0 + 3) x7)), (10, iv ((zI s a0 0 + x8 / zI s a0 5 * zI s a0 6 + zI s (a0 + 2) x7 + x8 % zI s a0 5 * zI s (a0 + 3) x7) / x6))]) r_163_63 (n_163_63 _) (by decide) rfl ?_
    exact wp_pr (l' := [(0, rf a0), (1, rf 58), (2, .long u2), (4, iv x4), (5, iv x5), (6, iv x6), (7, iv x7), (8, iv x8), (9, iv (zI s a0 0 + x8 / zI s a0 5 * zI s a0 6 + zI s (a0 + 2) x7 + x8 % zI s a0 5 * zI s (a0 + 3) x7)), (10, iv ((zI s a0 0 + x8 / zI s a0 5 * zI s a0 6 + zI s (a0 + 2) x7 + x8 % zI s a0 5 * zI s (a0 + 3) x7) / x6))]) rfl h
theorem v_View_markScan_65 {S : Option (Nat × (Nat → Int32))} {s : zSt} {Q : Option Value ⊕ Nat → zSt → Prop} {a0 : Int} {u2 : Int64} {x4 : Int} {x5 : Int} {x6 : Int} {x7 : Int} {x8 : Int} {x9 : Int} {x10 : Int} (ha0 : isO a0 8)
    (h : (0 ≤ x7 ∧ x7 < 40) ∧ (rng ((x9 + (zI s (a0 + 3) x7)) - 1) ∧ (rng x6 ∧ (0 ≤ ((x9 + (zI s (a0 + 3) x7)) - 1) ∧ (0 < x6 ∧ (rng x10 ∧ (rng (((x9 + (zI s (a0 + 3) x7)) - 1) / x6) ∧ (((((x9 + (zI s (a0 + 3) x7)) - 1) / x6) < x10 → wp S 163 41 [(0, rf a0), (1, rf 58), (2, .long u2), (4, iv x4), (5, iv x5), (6, iv x6), (7, iv x7), (8, iv (x8 + 1))] [] s Q) ∧ (x10 ≤ (((x9 + (zI s (a0 + 3) x7)) - 1) / x6) → wp S 166 0 [(0, rf 58), (1, iv x10)] [] s (fun o11 s11 => zkU (wp S 163 65 [(0, rf a0), (1, rf 58), (2, .long u2), (4, iv x4), (5, iv x5), (6, iv x6), (7, iv x7), (8, iv x8), (9, iv x9), (10, iv (x10 + 1))] [] s11 Q) (fun e11 => False) o11)))))))))) :
    wp S 163 65 [(0, rf a0), (1, rf 58), (2, .long u2), (4, iv x4), (5, iv x5), (6, iv x6), (7, iv x7), (8, iv x8), (9, iv x9), (10, iv x10)] [] s Q := by
  refine i_iload (x := x10) r_163_65 rfl rfl ?_
  refine i_iload (x := x9) r_163_67 (n_163_67 _) rfl ?_
  refine i_aload_n (a := a0) r_163_69 (n_163_69 _) rfl ?_
  refine i_getR (a := a0) (b := a0 + 3) r_163_70 (n_163_70 _) rfl rfl rfl (by omega) ha0 (by omega) ?_
  have t1 := (t_8_9 ha0)
  refine i_iload (x := x7) r_163_73 (n_163_73 _) rfl ?_
  obtain ⟨g2, h⟩ := h
  refine i_iaload (a := a0 + 3) (j := x7) r_163_75 (n_163_75 _) t1 ⟨by omega, by omega⟩ (by omega) (by omega) (fun q3 => ?_)
  refine i_iadd r_163_76 (n_163_76 _) ?_
  refine i_iconst r_163_77 (n_163_77 _) ?_
  refine i_isub r_163_78 (n_163_78 _) ?_
  refine i_iload (x := x6) r_163_79 (n_163_79 _) rfl ?_
  obtain ⟨g4, h⟩ := h
  obtain ⟨g5, h⟩ := h
  obtain ⟨g6, h⟩ := h
  obtain ⟨g7, h⟩ := h
  refine i_idiv r_163_81 (n_163_81 _) g4 g5 (by omega) (by omega) ?_
  obtain ⟨g8, h⟩ := h
  obtain ⟨g9, h⟩ := h
  refine i_icmp (t := 97) r_163_82 (n_163_82 _) rfl (T_gt g8 g9) (fun c10 => ?_) (fun c10 => ?_)
  · replace h := h.1 c10
    refine i_iinc (x := x8) (l' := [(0, rf a0), (1, rf 58), (2, .long u2), (4, iv x4), (5, iv x5), (6, iv x6), (7, iv x7), (8, iv (x8 + 1)), (9, iv x9), (10, iv x10)]) r_163_97 (n_163_97 _) (by decide) rfl rfl ?_
    refine i_goto (t := 41) r_163_100 (n_163_100 _) rfl ?_
    exact wp_pr (l' := [(0, rf a0), (1, rf 58), (2, .long u2), (4, iv x4), (5, iv x5), (6, iv x6), (7, iv x7), (8, iv (x8 + 1))]) rfl h
  · replace h := h.2 c10
    refine i_aload_n (a := 58) r_163_85 (n_163_85 _) rfl ?_
    refine i_iload (x := x10) r_163_86 (n_163_86 _) rfl ?_
    refine wp_virt (b := 58) (rest := []) (Ls := [(0, rf 58), (1, iv x10)]) r_163_88 (n_163_88 _) rfl ⟨rfl, rfl, by decide, by decide⟩ rfl rfl lf_58 ⟨rfl, Nat.le_of_ble_eq_true rfl, Nat.le_of_ble_eq_true rfl⟩ rfl h ?_
    intro o11 s11 h
    rcases h with ⟨rfl, h⟩ | ⟨e11, rfl, h⟩
    · refine .inl ⟨none, rfl, ?_⟩
      refine i_iinc (x := x10) (l' := [(0, rf a0), (1, rf 58), (2, .long u2), (4, iv x4), (5, iv x5), (6, iv x6), (7, iv x7), (8, iv x8), (9, iv x9), (10, iv (x10 + 1))]) r_163_91 (n_163_91 _) (by decide) rfl rfl ?_
      refine i_goto (t := 65) r_163_94 (n_163_94 _) rfl ?_
      exact wp_pr (l' := [(0, rf a0), (1, rf 58), (2, .long u2), (4, iv x4), (5, iv x5), (6, iv x6), (7, iv x7), (8, iv x8), (9, iv x9), (10, iv (x10 + 1))]) rfl h
    · skip
      exact h.elim
theorem r_164_0 : xfetch 164 0 = some (.aload_n 0, 1) := by decide +kernel
theorem n_164_0 : ∀ l, xpr 164 0 l = l := xpr_no (by decide +kernel)
theorem r_164_1 : xfetch 164 1 = some (.getfield 11, 3) := by decide +kernel
theorem n_164_1 : ∀ l, xpr 164 1 l = l := xpr_no (by decide +kernel)
theorem r_164_4 : xfetch 164 4 = some (.lconst 0, 1) := by decide +kernel
theorem n_164_4 : ∀ l, xpr 164 4 l = l := xpr_no (by decide +kernel)
theorem r_164_5 : xfetch 164 5 = some (.invokestatic 15, 3) := by decide +kernel
theorem n_164_5 : ∀ l, xpr 164 5 l = l := xpr_no (by decide +kernel)
theorem r_164_8 : xfetch 164 8 = some (.return_, 1) := by decide +kernel
theorem n_164_8 : ∀ l, xpr 164 8 l = l := xpr_no (by decide +kernel)
theorem v_Marks_clear_0 {S : Option (Nat × (Nat → Int32))} {s : zSt} {Q : Option Value ⊕ Nat → zSt → Prop}  
    (h : wp S 165 0 [(0, rf 59), (1, .long 0)] [] s (fun o1 s1 => zkU (Q rU s1) (fun e1 => False) o1)) :
    wp S 164 0 [(0, rf 58)] [] s Q := by
  refine i_aload_n (a := 58) r_164_0 (n_164_0 _) rfl ?_
  refine i_getR (a := 58) (b := 59) r_164_1 (n_164_1 _) rfl rfl rfl (by omega) lf_58 (by omega) ?_
  refine i_lconst r_164_4 (n_164_4 _) ?_
  refine wp_stat (rest := []) (Ls := [(0, rf 59), (1, .long 0)]) r_164_5 (n_164_5 _) rfl ⟨rfl, by decide, by decide, by decide⟩ rfl rfl ⟨rfl, Nat.le_of_ble_eq_true rfl, Nat.le_of_ble_eq_true rfl⟩ rfl h ?_
  intro o1 s1 h
  rcases h with ⟨rfl, h⟩ | ⟨e1, rfl, h⟩
  · refine .inl ⟨none, rfl, ?_⟩
    exact i_return r_164_8 (n_164_8 _) rfl h
  · skip
    exact h.elim
theorem r_165_0 : xfetch 165 0 = some (.iconst 0, 1) := by decide +kernel
theorem n_165_0 : ∀ l, xpr 165 0 l = l := xpr_no (by decide +kernel)
theorem r_165_1 : xfetch 165 1 = some (.istore_n 3, 1) := by decide +kernel
theorem n_165_1 : ∀ l, xpr 165 1 l = l := xpr_no (by decide +kernel)
theorem r_165_2 : xfetch 165 2 = some (.aload_n 0, 1) := by decide +kernel
theorem n_165_2 : ∀ l, xpr 165 2 l = l := xpr_no (by decide +kernel)
theorem r_165_3 : xfetch 165 3 = some (.arraylength, 1) := by decide +kernel
theorem n_165_3 : ∀ l, xpr 165 3 l = l := xpr_no (by decide +kernel)
theorem r_165_4 : xfetch 165 4 = some (.istore 4, 2) := by decide +kernel
theorem n_165_4 : ∀ l, xpr 165 4 l = l := xpr_no (by decide +kernel)
theorem r_165_6 : xfetch 165 6 = some (.iload_n 3, 1) := by decide +kernel
theorem r_165_7 : xfetch 165 7 = some (.iload 4, 2) := by decide +kernel
theorem n_165_7 : ∀ l, xpr 165 7 l = l := xpr_no (by decide +kernel)
theorem r_165_9 : xfetch 165 9 = some (.if_icmp .ge 13, 3) := by decide +kernel
theorem n_165_9 : ∀ l, xpr 165 9 l = l := xpr_no (by decide +kernel)
theorem r_165_12 : xfetch 165 12 = some (.aload_n 0, 1) := by decide +kernel
theorem n_165_12 : ∀ l, xpr 165 12 l = l := xpr_no (by decide +kernel)
theorem r_165_13 : xfetch 165 13 = some (.iload_n 3, 1) := by decide +kernel
theorem n_165_13 : ∀ l, xpr 165 13 l = l := xpr_no (by decide +kernel)
theorem r_165_14 : xfetch 165 14 = some (.lload_n 1, 1) := by decide +kernel
theorem n_165_14 : ∀ l, xpr 165 14 l = l := xpr_no (by decide +kernel)
theorem r_165_15 : xfetch 165 15 = some (.lastore, 1) := by decide +kernel
theorem n_165_15 : ∀ l, xpr 165 15 l = l := xpr_no (by decide +kernel)
theorem r_165_16 : xfetch 165 16 = some (.iinc 3 1, 3) := by decide +kernel
theorem n_165_16 : ∀ l, xpr 165 16 l = l := xpr_no (by decide +kernel)
theorem r_165_19 : xfetch 165 19 = some (.goto (-13), 3) := by decide +kernel
theorem n_165_19 : ∀ l, xpr 165 19 l = l := xpr_no (by decide +kernel)
theorem r_165_22 : xfetch 165 22 = some (.return_, 1) := by decide +kernel
theorem n_165_22 : ∀ l, xpr 165 22 l = l := xpr_no (by decide +kernel)
theorem v_Arrays_fill_0 {S : Option (Nat × (Nat → Int32))} {s : zSt} {Q : Option Value ⊕ Nat → zSt → Prop} {u1 : Int64} 
    (h : wp S 165 6 [(0, rf 59), (1, .long u1), (3, iv 0), (4, iv 16)] [] s Q) :
    wp S 165 0 [(0, rf 59), (1, .long u1)] [] s Q := by
  refine i_iconst r_165_0 (n_165_0 _) ?_
  refine i_istore_n (l' := [(0, rf 59), (1, .long u1), (3, iv 0)]) r_165_1 (n_165_1 _) (by decide) rfl ?_
  refine i_aload_n (a := 59) r_165_2 (n_165_2 _) rfl ?_
  refine i_len (a := 59) r_165_3 (n_165_3 _) lf_59 (by decide) ?_
  refine i_istore (l' := [(0, rf 59), (1, .long u1), (3, iv 0), (4, iv 16)]) r_165_4 (n_165_4 _) (by decide) rfl ?_
  exact wp_pr (l' := [(0, rf 59), (1, .long u1), (3, iv 0), (4, iv 16)]) rfl h
theorem v_Arrays_fill_6 {S : Option (Nat × (Nat → Int32))} {s : zSt} {Q : Option Value ⊕ Nat → zSt → Prop} {u1 : Int64} {x3 : Int} {x4 : Int} 
    (h : rng x3 ∧ (rng x4 ∧ ((x4 ≤ x3 → Q rU s) ∧ (x3 < x4 → (0 ≤ x3 ∧ x3 < 16) ∧ (wp S 165 6 [(0, rf 59), (1, .long u1), (3, iv (x3 + 1)), (4, iv x4)] [] (zwL s 59 x3 u1) Q))))) :
    wp S 165 6 [(0, rf 59), (1, .long u1), (3, iv x3), (4, iv x4)] [] s Q := by
  refine i_iload_n (x := x3) r_165_6 rfl rfl ?_
  refine i_iload (x := x4) r_165_7 (n_165_7 _) rfl ?_
  obtain ⟨g1, h⟩ := h
  obtain ⟨g2, h⟩ := h
  refine i_icmp (t := 22) r_165_9 (n_165_9 _) rfl (T_ge g1 g2) (fun c3 => ?_) (fun c3 => ?_)
  · replace h := h.1 c3
    exact i_return r_165_22 (n_165_22 _) rfl h
  · replace h := h.2 c3
    refine i_aload_n (a := 59) r_165_12 (n_165_12 _) rfl ?_
    refine i_iload_n (x := x3) r_165_13 (n_165_13 _) rfl ?_
    refine i_lload_n (u := u1) r_165_14 (n_165_14 _) rfl ?_
    obtain ⟨g4, h⟩ := h
    refine i_lastore (a := 59) (j := x3) r_165_15 (n_165_15 _) lf_59 ⟨by omega, by omega⟩ (by omega) (by omega) ?_
    refine i_iinc (x := x3) (l' := [(0, rf 59), (1, .long u1), (3, iv (x3 + 1)), (4, iv x4)]) r_165_16 (n_165_16 _) (by decide) rfl rfl ?_
    refine i_goto (t := 6) r_165_19 (n_165_19 _) rfl ?_
    exact wp_pr (l' := [(0, rf 59), (1, .long u1), (3, iv (x3 + 1)), (4, iv x4)]) rfl h
theorem r_166_0 : xfetch 166 0 = some (.iload_n 1, 1) := by decide +kernel
theorem n_166_0 : ∀ l, xpr 166 0 l = l := xpr_no (by decide +kernel)
theorem r_166_1 : xfetch 166 1 = some (.ifCond .lt 28, 3) := by decide +kernel
theorem n_166_1 : ∀ l, xpr 166 1 l = l := xpr_no (by decide +kernel)
theorem r_166_4 : xfetch 166 4 = some (.iload_n 1, 1) := by decide +kernel
theorem n_166_4 : ∀ l, xpr 166 4 l = l := xpr_no (by decide +kernel)
theorem r_166_5 : xfetch 166 5 = some (.sipush 1024, 3) := by decide +kernel
theorem n_166_5 : ∀ l, xpr 166 5 l = l := xpr_no (by decide +kernel)
theorem r_166_8 : xfetch 166 8 = some (.if_icmp .ge 21, 3) := by decide +kernel
theorem n_166_8 : ∀ l, xpr 166 8 l = l := xpr_no (by decide +kernel)
theorem r_166_11 : xfetch 166 11 = some (.aload_n 0, 1) := by decide +kernel
theorem n_166_11 : ∀ l, xpr 166 11 l = l := xpr_no (by decide +kernel)
theorem r_166_12 : xfetch 166 12 = some (.getfield 11, 3) := by decide +kernel
theorem n_166_12 : ∀ l, xpr 166 12 l = l := xpr_no (by decide +kernel)
theorem r_166_15 : xfetch 166 15 = some (.iload_n 1, 1) := by decide +kernel
theorem n_166_15 : ∀ l, xpr 166 15 l = l := xpr_no (by decide +kernel)
theorem r_166_16 : xfetch 166 16 = some (.bipush 64, 2) := by decide +kernel
theorem n_166_16 : ∀ l, xpr 166 16 l = l := xpr_no (by decide +kernel)
theorem r_166_18 : xfetch 166 18 = some (.idiv, 1) := by decide +kernel
theorem n_166_18 : ∀ l, xpr 166 18 l = l := xpr_no (by decide +kernel)
theorem r_166_19 : xfetch 166 19 = some (.dup2, 1) := by decide +kernel
theorem n_166_19 : ∀ l, xpr 166 19 l = l := xpr_no (by decide +kernel)
theorem r_166_20 : xfetch 166 20 = some (.laload, 1) := by decide +kernel
theorem n_166_20 : ∀ l, xpr 166 20 l = l := xpr_no (by decide +kernel)
theorem r_166_21 : xfetch 166 21 = some (.lconst 1, 1) := by decide +kernel
theorem n_166_21 : ∀ l, xpr 166 21 l = l := xpr_no (by decide +kernel)
theorem r_166_22 : xfetch 166 22 = some (.iload_n 1, 1) := by decide +kernel
theorem n_166_22 : ∀ l, xpr 166 22 l = l := xpr_no (by decide +kernel)
theorem r_166_23 : xfetch 166 23 = some (.bipush 64, 2) := by decide +kernel
theorem n_166_23 : ∀ l, xpr 166 23 l = l := xpr_no (by decide +kernel)
theorem r_166_25 : xfetch 166 25 = some (.irem, 1) := by decide +kernel
theorem n_166_25 : ∀ l, xpr 166 25 l = l := xpr_no (by decide +kernel)
theorem r_166_26 : xfetch 166 26 = some (.lshl, 1) := by decide +kernel
theorem n_166_26 : ∀ l, xpr 166 26 l = l := xpr_no (by decide +kernel)
theorem r_166_27 : xfetch 166 27 = some (.lor, 1) := by decide +kernel
theorem n_166_27 : ∀ l, xpr 166 27 l = l := xpr_no (by decide +kernel)
theorem r_166_28 : xfetch 166 28 = some (.lastore, 1) := by decide +kernel
theorem n_166_28 : ∀ l, xpr 166 28 l = l := xpr_no (by decide +kernel)
theorem r_166_29 : xfetch 166 29 = some (.return_, 1) := by decide +kernel
theorem n_166_29 : ∀ l, xpr 166 29 l = l := xpr_no (by decide +kernel)
theorem v_Marks_mark_0 {S : Option (Nat × (Nat → Int32))} {s : zSt} {Q : Option Value ⊕ Nat → zSt → Prop} {x1 : Int} 
    (h : rng x1 ∧ ((x1 < 0 → Q rU s) ∧ (0 ≤ x1 → (1024 ≤ x1 → Q rU s) ∧ (x1 < 1024 → 0 ≤ x1 ∧ ((0 ≤ (x1 / 64) ∧ (x1 / 64) < 16) ∧ (Q rU (zwL s 59 (x1 / 64) ((zL s 59 (x1 / 64)) ||| (zshlL 1 (x1 % 64)))))))))) :
    wp S 166 0 [(0, rf 58), (1, iv x1)] [] s Q := by
  refine i_iload_n (x := x1) r_166_0 (n_166_0 _) rfl ?_
  obtain ⟨g1, h⟩ := h
  refine i_if (t := 29) r_166_1 (n_166_1 _) rfl (T_lt g1 ⟨by omega, by omega⟩) (fun c2 => ?_) (fun c2 => ?_)
  · replace h := h.1 c2
    exact i_return r_166_29 (n_166_29 _) rfl h
  · replace h := h.2 c2
    refine i_iload_n (x := x1) r_166_4 (n_166_4 _) rfl ?_
    refine i_sipush r_166_5 (n_166_5 _) rfl ?_
    refine i_icmp (t := 29) r_166_8 (n_166_8 _) rfl (T_ge g1 ⟨by omega, by omega⟩) (fun c3 => ?_) (fun c3 => ?_)
    · replace h := h.1 c3
      exact i_return r_166_29 (n_166_29 _) rfl h
    · replace h := h.2 c3
      refine i_aload_n (a := 58) r_166_11 (n_166_11 _) rfl ?_
      refine i_getR (a := 58) (b := 59) r_166_12 (n_166_12 _) rfl rfl rfl (by omega) lf_58 (by omega) ?_
      refine i_iload_n (x := x1) r_166_15 (n_166_15 _) rfl ?_
      refine i_bipush r_166_16 (n_166_16 _) rfl ?_
      obtain ⟨g4, h⟩ := h
      refine i_idiv r_166_18 (n_166_18 _) g1 ⟨by omega, by omega⟩ (by omega) (by omega) ?_
      refine i_dup2 r_166_19 (n_166_19 _) rfl rfl ?_
      obtain ⟨g5, h⟩ := h
      refine i_laload (a := 59) (j := x1 / 64) r_166_20 (n_166_20 _) lf_59 ⟨by omega, by omega⟩ (by omega) (by omega) ?_
      refine i_lconst r_166_21 (n_166_21 _) ?_
      refine i_iload_n (x := x1) r_166_22 (n_166_22 _) rfl ?_
      refine i_bipush r_166_23 (n_166_23 _) rfl ?_
      refine i_irem r_166_25 (n_166_25 _) g1 ⟨by omega, by omega⟩ (by omega) (by omega) ?_
      refine i_lshl r_166_26 (n_166_26 _) ?_
      refine i_lor r_166_27 (n_166_27 _) ?_
      refine i_lastore (a := 59) (j := x1 / 64) r_166_28 (n_166_28 _) lf_59 ⟨by omega, by omega⟩ (by omega) (by omega) ?_
      exact i_return r_166_29 (n_166_29 _) rfl h
theorem r_167_0 : xfetch 167 0 = some (.iconst 0, 1) := by decide +kernel
theorem n_167_0 : ∀ l, xpr 167 0 l = l := xpr_no (by decide +kernel)
theorem r_167_1 : xfetch 167 1 = some (.istore_n 1, 1) := by decide +kernel
theorem n_167_1 : ∀ l, xpr 167 1 l = l := xpr_no (by decide +kernel)
theorem r_167_2 : xfetch 167 2 = some (.iconst 0, 1) := by decide +kernel
theorem n_167_2 : ∀ l, xpr 167 2 l = l := xpr_no (by decide +kernel)
theorem r_167_3 : xfetch 167 3 = some (.istore_n 2, 1) := by decide +kernel
theorem n_167_3 : ∀ l, xpr 167 3 l = l := xpr_no (by decide +kernel)
theorem r_167_4 : xfetch 167 4 = some (.iload_n 2, 1) := by decide +kernel
theorem r_167_5 : xfetch 167 5 = some (.bipush 16, 2) := by decide +kernel
theorem n_167_5 : ∀ l, xpr 167 5 l = l := xpr_no (by decide +kernel)
theorem r_167_7 : xfetch 167 7 = some (.if_icmp .ge 21, 3) := by decide +kernel
theorem n_167_7 : ∀ l, xpr 167 7 l = l := xpr_no (by decide +kernel)
theorem r_167_10 : xfetch 167 10 = some (.iload_n 1, 1) := by decide +kernel
theorem n_167_10 : ∀ l, xpr 167 10 l = l := xpr_no (by decide +kernel)
theorem r_167_11 : xfetch 167 11 = some (.aload_n 0, 1) := by decide +kernel
theorem n_167_11 : ∀ l, xpr 167 11 l = l := xpr_no (by decide +kernel)
theorem r_167_12 : xfetch 167 12 = some (.getfield 11, 3) := by decide +kernel
theorem n_167_12 : ∀ l, xpr 167 12 l = l := xpr_no (by decide +kernel)
theorem r_167_15 : xfetch 167 15 = some (.iload_n 2, 1) := by decide +kernel
theorem n_167_15 : ∀ l, xpr 167 15 l = l := xpr_no (by decide +kernel)
theorem r_167_16 : xfetch 167 16 = some (.laload, 1) := by decide +kernel
theorem n_167_16 : ∀ l, xpr 167 16 l = l := xpr_no (by decide +kernel)
theorem r_167_17 : xfetch 167 17 = some (.invokestatic 21, 3) := by decide +kernel
theorem n_167_17 : ∀ l, xpr 167 17 l = l := xpr_no (by decide +kernel)
theorem r_167_20 : xfetch 167 20 = some (.iadd, 1) := by decide +kernel
theorem n_167_20 : ∀ l, xpr 167 20 l = l := xpr_no (by decide +kernel)
theorem r_167_21 : xfetch 167 21 = some (.istore_n 1, 1) := by decide +kernel
theorem n_167_21 : ∀ l, xpr 167 21 l = l := xpr_no (by decide +kernel)
theorem r_167_22 : xfetch 167 22 = some (.iinc 2 1, 3) := by decide +kernel
theorem n_167_22 : ∀ l, xpr 167 22 l = l := xpr_no (by decide +kernel)
theorem r_167_25 : xfetch 167 25 = some (.goto (-21), 3) := by decide +kernel
theorem n_167_25 : ∀ l, xpr 167 25 l = l := xpr_no (by decide +kernel)
theorem r_167_28 : xfetch 167 28 = some (.iload_n 1, 1) := by decide +kernel
theorem n_167_28 : ∀ l, xpr 167 28 l = l := xpr_no (by decide +kernel)
theorem r_167_29 : xfetch 167 29 = some (.ireturn, 1) := by decide +kernel
theorem n_167_29 : ∀ l, xpr 167 29 l = l := xpr_no (by decide +kernel)
theorem v_Marks_total_0 {S : Option (Nat × (Nat → Int32))} {s : zSt} {Q : Option Value ⊕ Nat → zSt → Prop}  
    (h : wp S 167 4 [(0, rf 58), (1, iv 0), (2, iv 0)] [] s Q) :
    wp S 167 0 [(0, rf 58)] [] s Q := by
  refine i_iconst r_167_0 (n_167_0 _) ?_
  refine i_istore_n (l' := [(0, rf 58), (1, iv 0)]) r_167_1 (n_167_1 _) (by decide) rfl ?_
  refine i_iconst r_167_2 (n_167_2 _) ?_
  refine i_istore_n (l' := [(0, rf 58), (1, iv 0), (2, iv 0)]) r_167_3 (n_167_3 _) (by decide) rfl ?_
  exact wp_pr (l' := [(0, rf 58), (1, iv 0), (2, iv 0)]) rfl h
theorem v_Marks_total_4 {S : Option (Nat × (Nat → Int32))} {s : zSt} {Q : Option Value ⊕ Nat → zSt → Prop} {x1 : Int} {x2 : Int} 
    (h : rng x2 ∧ ((16 ≤ x2 → Q (rI x1) s) ∧ (x2 < 16 → (0 ≤ x2 ∧ x2 < 16) ∧ (wp S 168 0 [(0, .long (zL s 59 x2))] [] s (fun o4 s4 => zkI (fun y4 => wp S 167 4 [(0, rf 58), (1, iv (x1 + y4)), (2, iv (x2 + 1))] [] s4 Q) (fun e4 => False) o4))))) :
    wp S 167 4 [(0, rf 58), (1, iv x1), (2, iv x2)] [] s Q := by
  refine i_iload_n (x := x2) r_167_4 rfl rfl ?_
  refine i_bipush r_167_5 (n_167_5 _) rfl ?_
  obtain ⟨g1, h⟩ := h
  refine i_icmp (t := 28) r_167_7 (n_167_7 _) rfl (T_ge g1 ⟨by omega, by omega⟩) (fun c2 => ?_) (fun c2 => ?_)
  · replace h := h.1 c2
    refine i_iload_n (x := x1) r_167_28 (n_167_28 _) rfl ?_
    exact i_ireturn r_167_29 (n_167_29 _) rfl h
  · replace h := h.2 c2
    refine i_iload_n (x := x1) r_167_10 (n_167_10 _) rfl ?_
    refine i_aload_n (a := 58) r_167_11 (n_167_11 _) rfl ?_
    refine i_getR (a := 58) (b := 59) r_167_12 (n_167_12 _) rfl rfl rfl (by omega) lf_58 (by omega) ?_
    refine i_iload_n (x := x2) r_167_15 (n_167_15 _) rfl ?_
    obtain ⟨g3, h⟩ := h
    refine i_laload (a := 59) (j := x2) r_167_16 (n_167_16 _) lf_59 ⟨by omega, by omega⟩ (by omega) (by omega) ?_
    refine wp_stat (rest := [iv x1]) (Ls := [(0, .long (zL s 59 x2))]) r_167_17 (n_167_17 _) rfl ⟨rfl, by decide, by decide, by decide⟩ rfl rfl ⟨rfl, Nat.le_of_ble_eq_true rfl, Nat.le_of_ble_eq_true rfl⟩ rfl h ?_
    intro o4 s4 h
    rcases h with ⟨y4, q5, rfl, h⟩ | ⟨e4, rfl, h⟩
    · refine .inl ⟨some (iv y4), rfl, ?_⟩
      show wp S 167 20 [(0, rf 58), (1, iv x1), (2, iv x2)] [iv y4, iv x1] s4 Q
      refine i_iadd r_167_20 (n_167_20 _) ?_
      refine i_istore_n (l' := [(0, rf 58), (1, iv (x1 + y4)), (2, iv x2)]) r_167_21 (n_167_21 _) (by decide) rfl ?_
      refine i_iinc (x := x2) (l' := [(0, rf 58), (1, iv (x1 + y4)), (2, iv (x2 + 1))]) r_167_22 (n_167_22 _) (by decide) rfl rfl ?_
      refine i_goto (t := 4) r_167_25 (n_167_25 _) rfl ?_
      exact wp_pr (l' := [(0, rf 58), (1, iv (x1 + y4)), (2, iv (x2 + 1))]) rfl h
    · skip
      exact h.elim
theorem r_168_0 : xfetch 168 0 = some (.lload_n 0, 1) := by decide +kernel
theorem n_168_0 : ∀ l, xpr 168 0 l = l := xpr_no (by decide +kernel)
theorem r_168_1 : xfetch 168 1 = some (.lload_n 0, 1) := by decide +kernel
theorem n_168_1 : ∀ l, xpr 168 1 l = l := xpr_no (by decide +kernel)
theorem r_168_2 : xfetch 168 2 = some (.iconst 1, 1) := by decide +kernel
theorem n_168_2 : ∀ l, xpr 168 2 l = l := xpr_no (by decide +kernel)
theorem r_168_3 : xfetch 168 3 = some (.lushr, 1) := by decide +kernel
theorem n_168_3 : ∀ l, xpr 168 3 l = l := xpr_no (by decide +kernel)
theorem r_168_4 : xfetch 168 4 = some (.ldc2_w 314, 3) := by decide +kernel
theorem n_168_4 : ∀ l, xpr 168 4 l = l := xpr_no (by decide +kernel)
theorem r_168_7 : xfetch 168 7 = some (.land, 1) := by decide +kernel
theorem n_168_7 : ∀ l, xpr 168 7 l = l := xpr_no (by decide +kernel)
theorem r_168_8 : xfetch 168 8 = some (.lsub, 1) := by decide +kernel
theorem n_168_8 : ∀ l, xpr 168 8 l = l := xpr_no (by decide +kernel)
theorem r_168_9 : xfetch 168 9 = some (.lstore_n 0, 1) := by decide +kernel
theorem n_168_9 : ∀ l, xpr 168 9 l = l := xpr_no (by decide +kernel)
theorem r_168_10 : xfetch 168 10 = some (.lload_n 0, 1) := by decide +kernel
theorem n_168_10 : ∀ l, xpr 168 10 l = l := xpr_no (by decide +kernel)
theorem r_168_11 : xfetch 168 11 = some (.ldc2_w 316, 3) := by decide +kernel
theorem n_168_11 : ∀ l, xpr 168 11 l = l := xpr_no (by decide +kernel)
theorem r_168_14 : xfetch 168 14 = some (.land, 1) := by decide +kernel
theorem n_168_14 : ∀ l, xpr 168 14 l = l := xpr_no (by decide +kernel)
theorem r_168_15 : xfetch 168 15 = some (.lload_n 0, 1) := by decide +kernel
theorem n_168_15 : ∀ l, xpr 168 15 l = l := xpr_no (by decide +kernel)
theorem r_168_16 : xfetch 168 16 = some (.iconst 2, 1) := by decide +kernel
theorem n_168_16 : ∀ l, xpr 168 16 l = l := xpr_no (by decide +kernel)
theorem r_168_17 : xfetch 168 17 = some (.lushr, 1) := by decide +kernel
theorem n_168_17 : ∀ l, xpr 168 17 l = l := xpr_no (by decide +kernel)
theorem r_168_18 : xfetch 168 18 = some (.ldc2_w 316, 3) := by decide +kernel
theorem n_168_18 : ∀ l, xpr 168 18 l = l := xpr_no (by decide +kernel)
theorem r_168_21 : xfetch 168 21 = some (.land, 1) := by decide +kernel
theorem n_168_21 : ∀ l, xpr 168 21 l = l := xpr_no (by decide +kernel)
theorem r_168_22 : xfetch 168 22 = some (.ladd, 1) := by decide +kernel
theorem n_168_22 : ∀ l, xpr 168 22 l = l := xpr_no (by decide +kernel)
theorem r_168_23 : xfetch 168 23 = some (.lstore_n 0, 1) := by decide +kernel
theorem n_168_23 : ∀ l, xpr 168 23 l = l := xpr_no (by decide +kernel)
theorem r_168_24 : xfetch 168 24 = some (.lload_n 0, 1) := by decide +kernel
theorem n_168_24 : ∀ l, xpr 168 24 l = l := xpr_no (by decide +kernel)
theorem r_168_25 : xfetch 168 25 = some (.lload_n 0, 1) := by decide +kernel
theorem n_168_25 : ∀ l, xpr 168 25 l = l := xpr_no (by decide +kernel)
theorem r_168_26 : xfetch 168 26 = some (.iconst 4, 1) := by decide +kernel
theorem n_168_26 : ∀ l, xpr 168 26 l = l := xpr_no (by decide +kernel)
theorem r_168_27 : xfetch 168 27 = some (.lushr, 1) := by decide +kernel
theorem n_168_27 : ∀ l, xpr 168 27 l = l := xpr_no (by decide +kernel)
theorem r_168_28 : xfetch 168 28 = some (.ladd, 1) := by decide +kernel
theorem n_168_28 : ∀ l, xpr 168 28 l = l := xpr_no (by decide +kernel)
theorem r_168_29 : xfetch 168 29 = some (.ldc2_w 318, 3) := by decide +kernel
theorem n_168_29 : ∀ l, xpr 168 29 l = l := xpr_no (by decide +kernel)
theorem r_168_32 : xfetch 168 32 = some (.land, 1) := by decide +kernel
theorem n_168_32 : ∀ l, xpr 168 32 l = l := xpr_no (by decide +kernel)
theorem r_168_33 : xfetch 168 33 = some (.lstore_n 0, 1) := by decide +kernel
theorem n_168_33 : ∀ l, xpr 168 33 l = l := xpr_no (by decide +kernel)
theorem r_168_34 : xfetch 168 34 = some (.lload_n 0, 1) := by decide +kernel
theorem n_168_34 : ∀ l, xpr 168 34 l = l := xpr_no (by decide +kernel)
theorem r_168_35 : xfetch 168 35 = some (.lload_n 0, 1) := by decide +kernel
theorem n_168_35 : ∀ l, xpr 168 35 l = l := xpr_no (by decide +kernel)
theorem r_168_36 : xfetch 168 36 = some (.bipush 8, 2) := by decide +kernel
theorem n_168_36 : ∀ l, xpr 168 36 l = l := xpr_no (by decide +kernel)
theorem r_168_38 : xfetch 168 38 = some (.lushr, 1) := by decide +kernel
theorem n_168_38 : ∀ l, xpr 168 38 l = l := xpr_no (by decide +kernel)
theorem r_168_39 : xfetch 168 39 = some (.ladd, 1) := by decide +kernel
theorem n_168_39 : ∀ l, xpr 168 39 l = l := xpr_no (by decide +kernel)
theorem r_168_40 : xfetch 168 40 = some (.lstore_n 0, 1) := by decide +kernel
theorem n_168_40 : ∀ l, xpr 168 40 l = l := xpr_no (by decide +kernel)
theorem r_168_41 : xfetch 168 41 = some (.lload_n 0, 1) := by decide +kernel
theorem n_168_41 : ∀ l, xpr 168 41 l = l := xpr_no (by decide +kernel)
theorem r_168_42 : xfetch 168 42 = some (.lload_n 0, 1) := by decide +kernel
theorem n_168_42 : ∀ l, xpr 168 42 l = l := xpr_no (by decide +kernel)
theorem r_168_43 : xfetch 168 43 = some (.bipush 16, 2) := by decide +kernel
theorem n_168_43 : ∀ l, xpr 168 43 l = l := xpr_no (by decide +kernel)
theorem r_168_45 : xfetch 168 45 = some (.lushr, 1) := by decide +kernel
theorem n_168_45 : ∀ l, xpr 168 45 l = l := xpr_no (by decide +kernel)
theorem r_168_46 : xfetch 168 46 = some (.ladd, 1) := by decide +kernel
theorem n_168_46 : ∀ l, xpr 168 46 l = l := xpr_no (by decide +kernel)
theorem r_168_47 : xfetch 168 47 = some (.lstore_n 0, 1) := by decide +kernel
theorem n_168_47 : ∀ l, xpr 168 47 l = l := xpr_no (by decide +kernel)
theorem r_168_48 : xfetch 168 48 = some (.lload_n 0, 1) := by decide +kernel
theorem n_168_48 : ∀ l, xpr 168 48 l = l := xpr_no (by decide +kernel)
theorem r_168_49 : xfetch 168 49 = some (.lload_n 0, 1) := by decide +kernel
theorem n_168_49 : ∀ l, xpr 168 49 l = l := xpr_no (by decide +kernel)
theorem r_168_50 : xfetch 168 50 = some (.bipush 32, 2) := by decide +kernel
theorem n_168_50 : ∀ l, xpr 168 50 l = l := xpr_no (by decide +kernel)
theorem r_168_52 : xfetch 168 52 = some (.lushr, 1) := by decide +kernel
theorem n_168_52 : ∀ l, xpr 168 52 l = l := xpr_no (by decide +kernel)
theorem r_168_53 : xfetch 168 53 = some (.ladd, 1) := by decide +kernel
theorem n_168_53 : ∀ l, xpr 168 53 l = l := xpr_no (by decide +kernel)
theorem r_168_54 : xfetch 168 54 = some (.lstore_n 0, 1) := by decide +kernel
theorem n_168_54 : ∀ l, xpr 168 54 l = l := xpr_no (by decide +kernel)
theorem r_168_55 : xfetch 168 55 = some (.lload_n 0, 1) := by decide +kernel
theorem n_168_55 : ∀ l, xpr 168 55 l = l := xpr_no (by decide +kernel)
theorem r_168_56 : xfetch 168 56 = some (.l2i, 1) := by decide +kernel
theorem n_168_56 : ∀ l, xpr 168 56 l = l := xpr_no (by decide +kernel)
theorem r_168_57 : xfetch 168 57 = some (.bipush 127, 2) := by decide +kernel
theorem n_168_57 : ∀ l, xpr 168 57 l = l := xpr_no (by decide +kernel)
theorem r_168_59 : xfetch 168 59 = some (.iand, 1) := by decide +kernel
theorem n_168_59 : ∀ l, xpr 168 59 l = l := xpr_no (by decide +kernel)
theorem r_168_60 : xfetch 168 60 = some (.ireturn, 1) := by decide +kernel
theorem n_168_60 : ∀ l, xpr 168 60 l = l := xpr_no (by decide +kernel)
theorem v_Long_bitCount_0 {S : Option (Nat × (Nat → Int32))} {s : zSt} {Q : Option Value ⊕ Nat → zSt → Prop} {u0 : Int64} 
    (h : Q (rI (zand (zl2i ((((((((u0 - ((zushrL u0 1) &&& 6148914691236517205)) &&& 3689348814741910323) + ((zushrL (u0 - ((zushrL u0 1) &&& 6148914691236517205)) 2) &&& 3689348814741910323)) + (zushrL (((u0 - ((zushrL u0 1) &&& 6148914691236517205)) &&& 3689348814741910323) + ((zushrL (u0 - ((zushrL u0 1) &&& 6148914691236517205)) 2) &&& 3689348814741910323)) 4)) &&& 1085102592571150095) + (zushrL (((((u0 - ((zushrL u0 1) &&& 6148914691236517205)) &&& 3689348814741910323) + ((zushrL (u0 - ((zushrL u0 1) &&& 6148914691236517205)) 2) &&& 3689348814741910323)) + (zushrL (((u0 - ((zushrL u0 1) &&& 6148914691236517205)) &&& 3689348814741910323) + ((zushrL (u0 - ((zushrL u0 1) &&& 6148914691236517205)) 2) &&& 3689348814741910323)) 4)) &&& 1085102592571150095) 8)) + (zushrL ((((((u0 - ((zushrL u0 1) &&& 6148914691236517205)) &&& 3689348814741910323) + ((zushrL (u0 - ((zushrL u0 1) &&& 6148914691236517205)) 2) &&& 3689348814741910323)) + (zushrL (((u0 - ((zushrL u0 1) &&& 6148914691236517205)) &&& 3689348814741910323) + ((zushrL (u0 - ((zushrL u0 1) &&& 6148914691236517205)) 2) &&& 3689348814741910323)) 4)) &&& 1085102592571150095) + (zushrL (((((u0 - ((zushrL u0 1) &&& 6148914691236517205)) &&& 3689348814741910323) + ((zushrL (u0 - ((zushrL u0 1) &&& 6148914691236517205)) 2) &&& 3689348814741910323)) + (zushrL (((u0 - ((zushrL u0 1) &&& 6148914691236517205)) &&& 3689348814741910323) + ((zushrL (u0 - ((zushrL u0 1) &&& 6148914691236517205)) 2) &&& 3689348814741910323)) 4)) &&& 1085102592571150095) 8)) 16)) + (zushrL (((((((u0 - ((zushrL u0 1) &&& 6148914691236517205)) &&& 3689348814741910323) + ((zushrL (u0 - ((zushrL u0 1) &&& 6148914691236517205)) 2) &&& 3689348814741910323)) + (zushrL (((u0 - ((zushrL u0 1) &&& 6148914691236517205)) &&& 3689348814741910323) + ((zushrL (u0 - ((zushrL u0 1) &&& 6148914691236517205)) 2) &&& 3689348814741910323)) 4)) &&& 1085102592571150095) + (zushrL (((((u0 - ((zushrL u0 1) &&& 6148914691236517205)) &&& 3689348814741910323) + ((zushrL (u0 - ((zushrL u0 1) &&& 6148914691236517205)) 2) &&& 3689348814741910323)) + (zushrL (((u0 - ((zushrL u0 1) &&& 6148914691236517205)) &&& 3689348814741910323) + ((zushrL (u0 - ((zushrL u0 1) &&& 6148914691236517205)) 2) &&& 3689348814741910323)) 4)) &&& 1085102592571150095) 8)) + (zushrL ((((((u0 - ((zushrL u0 1) &&& 6148914691236517205)) &&& 3689348814741910323) + ((zushrL (u0 - ((zushrL u0 1) &&& 6148914691236517205)) 2) &&& 3689348814741910323)) + (zushrL (((u0 - ((zushrL u0 1) &&& 6148914691236517205)) &&& 3689348814741910323) + ((zushrL (u0 - ((zushrL u0 1) &&& 6148914691236517205)) 2) &&& 3689348814741910323)) 4)) &&& 1085102592571150095) + (zushrL (((((u0 - ((zushrL u0 1) &&& 6148914691236517205)) &&& 3689348814741910323) + ((zushrL (u0 - ((zushrL u0 1) &&& 6148914691236517205)) 2) &&& 3689348814741910323)) + (zushrL (((u0 - ((zushrL u0 1) &&& 6148914691236517205)) &&& 3689348814741910323) + ((zushrL (u0 - ((zushrL u0 1) &&& 6148914691236517205)) 2) &&& 3689348814741910323)) 4)) &&& 1085102592571150095) 8)) 16)) 32))) 127)) s) :
    wp S 168 0 [(0, .long u0)] [] s Q := by
  refine i_lload_n (u := u0) r_168_0 (n_168_0 _) rfl ?_
  refine i_lload_n (u := u0) r_168_1 (n_168_1 _) rfl ?_
  refine i_iconst r_168_2 (n_168_2 _) ?_
  refine i_lushr r_168_3 (n_168_3 _) ?_
  refine i_ldc2 r_168_4 (n_168_4 _) rfl ?_
  refine i_land r_168_7 (n_168_7 _) ?_
  refine i_lsub r_168_8 (n_168_8 _) ?_
  refine i_lstore_n (l' := [(0, .long (u0 - ((zushrL u0 1) &&& 6148914691236517205)))]) r_168_9 (n_168_9 _) (by decide) rfl ?_
  refine i_lload_n (u := u0 - ((zushrL u0 1) &&& 6148914691236517205)) r_168_10 (n_168_10 _) rfl ?_
  refine i_ldc2 r_168_11 (n_168_11 _) rfl ?_
  refine i_land r_168_14 (n_168_14 _) ?_
  refine i_lload_n (u := u0 - ((zushrL u0 1) &&& 6148914691236517205)) r_168_15 (n_168_15 _) rfl ?_
  refine i_iconst r_168_16 (n_168_16 _) ?_
  refine i_lushr r_168_17 (n_168_17 _) ?_
  refine i_ldc2 r_168_18 (n_168_18 _) rfl ?_
  refine i_land r_168_21 (n_168_21 _) ?_
  refine i_ladd r_168_22 (n_168_22 _) ?_
  refine i_lstore_n (l' := [(0, .long (((u0 - ((zushrL u0 1) &&& 6148914691236517205)) &&& 3689348814741910323) + ((zushrL (u0 - ((zushrL u0 1) &&& 6148914691236517205)) 2) &&& 3689348814741910323)))]) r_168_23 (n_168_23 _) (by decide) rfl ?_
  refine i_lload_n (u := ((u0 - ((zushrL u0 1) &&& 6148914691236517205)) &&& 3689348814741910323) + ((zushrL (u0 - ((zushrL u0 1) &&& 6148914691236517205)) 2) &&& 3689348814741910323)) r_168_24 (n_168_24 _) rfl ?_
  refine i_lload_n (u := ((u0 - ((zushrL u0 1) &&& 6148914691236517205)) &&& 3689348814741910323) + ((zushrL (u0 - ((zushrL u0 1) &&& 6148914691236517205)) 2) &&& 3689348814741910323)) r_168_25 (n_168_25 _) rfl ?_
  refine i_iconst r_168_26 (n_168_26 _) ?_
  refine i_lushr r_168_27 (n_168_27 _) ?_
  refine i_ladd r_168_28 (n_168_28 _) ?_
  refine i_ldc2 r_168_29 (n_168_29 _) rfl ?_
  refine i_land r_168_32 (n_168_32 _) ?_
  refine i_lstore_n (l' := [(0, .long (((((u0 - ((zushrL u0 1) &&& 6148914691236517205)) &&& 3689348814741910323) + ((zushrL (u0 - ((zushrL u0 1) &&& 6148914691236517205)) 2) &&& 3689348814741910323)) + (zushrL (((u0 - ((zushrL u0 1) &&& 6148914691236517205)) &&& 3689348814741910323) + ((zushrL (u0 - ((zushrL u0 1) &&& 6148914691236517205)) 2) &&& 3689348814741910323)) 4)) &&& 1085102592571150095))]) r_168_33 (n_168_33 _) (by decide) rfl ?_
  refine i_lload_n (u := ((((u0 - ((zushrL u0 1) &&& 6148914691236517205)) &&& 3689348814741910323) + ((zushrL (u0 - ((zushrL u0 1) &&& 6148914691236517205)) 2) &&& 3689348814741910323)) + (zushrL (((u0 - ((zushrL u0 1) &&& 6148914691236517205)) &&& 3689348814741910323) + ((zushrL (u0 - ((zushrL u0 1) &&& 6148914691236517205)) 2) &&& 3689348814741910323)) 4)) &&& 1085102592571150095) r_168_34 (n_168_34 _) rfl ?_
  refine i_lload_n (u := ((((u0 - ((zushrL u0 1) &&& 6148914691236517205)) &&& 3689348814741910323) + ((zushrL (u0 - ((zushrL u0 1) &&& 6148914691236517205)) 2) &&& 3689348814741910323)) + (zushrL (((u0 - ((zushrL u0 1) &&& 6148914691236517205)) &&& 3689348814741910323) + ((zushrL (u0 - ((zushrL u0 1) &&& 6148914691236517205)) 2) &&& 3689348814741910323)) 4)) &&& 1085102592571150095) r_168_35 (n_168_35 _) rfl ?_
  refine i_bipush r_168_36 (n_168_36 _) rfl ?_
  refine i_lushr r_168_38 (n_168_38 _) ?_
  refine i_ladd r_168_39 (n_168_39 _) ?_
  refine i_lstore_n (l' := [(0, .long ((((((u0 - ((zushrL u0 1) &&& 6148914691236517205)) &&& 3689348814741910323) + ((zushrL (u0 - ((zushrL u0 1) &&& 6148914691236517205)) 2) &&& 3689348814741910323)) + (zushrL (((u0 - ((zushrL u0 1) &&& 6148914691236517205)) &&& 3689348814741910323) + ((zushrL (u0 - ((zushrL u0 1) &&& 6148914691236517205)) 2) &&& 3689348814741910323)) 4)) &&& 1085102592571150095) + (zushrL (((((u0 - ((zushrL u0 1) &&& 6148914691236517205)) &&& 3689348814741910323) + ((zushrL (u0 - ((zushrL u0 1) &&& 6148914691236517205)) 2) &&& 3689348814741910323)) + (zushrL (((u0 - ((zushrL u0 1) &&& 6148914691236517205)) &&& 3689348814741910323) + ((zushrL (u0 - ((zushrL u0 1) &&& 6148914691236517205)) 2) &&& 3689348814741910323)) 4)) &&& 1085102592571150095) 8)))]) r_168_40 (n_168_40 _) (by decide) rfl ?_
  refine i_lload_n (u := (((((u0 - ((zushrL u0 1) &&& 6148914691236517205)) &&& 3689348814741910323) + ((zushrL (u0 - ((zushrL u0 1) &&& 6148914691236517205)) 2) &&& 3689348814741910323)) + (zushrL (((u0 - ((zushrL u0 1) &&& 6148914691236517205)) &&& 3689348814741910323) + ((zushrL (u0 - ((zushrL u0 1) &&& 6148914691236517205)) 2) &&& 3689348814741910323)) 4)) &&& 1085102592571150095) + (zushrL (((((u0 - ((zushrL u0 1) &&& 6148914691236517205)) &&& 3689348814741910323) + ((zushrL (u0 - ((zushrL u0 1) &&& 6148914691236517205)) 2) &&& 3689348814741910323)) + (zushrL (((u0 - ((zushrL u0 1) &&& 6148914691236517205)) &&& 3689348814741910323) + ((zushrL (u0 - ((zushrL u0 1) &&& 6148914691236517205)) 2) &&& 3689348814741910323)) 4)) &&& 1085102592571150095) 8)) r_168_41 (n_168_41 _) rfl ?_
  refine i_lload_n (u := (((((u0 - ((zushrL u0 1) &&& 6148914691236517205)) &&& 3689348814741910323) + ((zushrL (u0 - ((zushrL u0 1) &&& 6148914691236517205)) 2) &&& 3689348814741910323)) + (zushrL (((u0 - ((zushrL u0 1) &&& 6148914691236517205)) &&& 3689348814741910323) + ((zushrL (u0 - ((zushrL u0 1) &&& 6148914691236517205)) 2) &&& 3689348814741910323)) 4)) &&& 1085102592571150095) + (zushrL (((((u0 - ((zushrL u0 1) &&& 6148914691236517205)) &&& 3689348814741910323) + ((zushrL (u0 - ((zushrL u0 1) &&& 6148914691236517205)) 2) &&& 3689348814741910323)) + (zushrL (((u0 - ((zushrL u0 1) &&& 6148914691236517205)) &&& 3689348814741910323) + ((zushrL (u0 - ((zushrL u0 1) &&& 6148914691236517205)) 2) &&& 3689348814741910323)) 4)) &&& 1085102592571150095) 8)) r_168_42 (n_168_42 _) rfl ?_
  refine i_bipush r_168_43 (n_168_43 _) rfl ?_
  refine i_lushr r_168_45 (n_168_45 _) ?_
  refine i_ladd r_168_46 (n_168_46 _) ?_
  refine i_lstore_n (l' := [(0, .long (((((((u0 - ((zushrL u0 1) &&& 6148914691236517205)) &&& 3689348814741910323) + ((zushrL (u0 - ((zushrL u0 1) &&& 6148914691236517205)) 2) &&& 3689348814741910323)) + (zushrL (((u0 - ((zushrL u0 1) &&& 6148914691236517205)) &&& 3689348814741910323) + ((zushrL (u0 - ((zushrL u0 1) &&& 6148914691236517205)) 2) &&& 3689348814741910323)) 4)) &&& 1085102592571150095) + (zushrL (((((u0 - ((zushrL u0 1) &&& 6148914691236517205)) &&& 3689348814741910323) + ((zushrL (u0 - ((zushrL u0 1) &&& 6148914691236517205)) 2) &&& 3689348814741910323)) + (zushrL (((u0 - ((zushrL u0 1) &&& 6148914691236517205)) &&& 3689348814741910323) + ((zushrL (u0 - ((zushrL u0 1) &&& 6148914691236517205)) 2) &&& 3689348814741910323)) 4)) &&& 1085102592571150095) 8)) + (zushrL ((((((u0 - ((zushrL u0 1) &&& 6148914691236517205)) &&& 3689348814741910323) + ((zushrL (u0 - ((zushrL u0 1) &&& 6148914691236517205)) 2) &&& 3689348814741910323)) + (zushrL (((u0 - ((zushrL u0 1) &&& 6148914691236517205)) &&& 3689348814741910323) + ((zushrL (u0 - ((zushrL u0 1) &&& 6148914691236517205)) 2) &&& 3689348814741910323)) 4)) &&& 1085102592571150095) + (zushrL (((((u0 - ((zushrL u0 1) &&& 6148914691236517205)) &&& 3689348814741910323) + ((zushrL (u0 - ((zushrL u0 1) &&& 6148914691236517205)) 2) &&& 3689348814741910323)) + (zushrL (((u0 - ((zushrL u0 1) &&& 6148914691236517205)) &&& 3689348814741910323) + ((zushrL (u0 - ((zushrL u0 1) &&& 6148914691236517205)) 2) &&& 3689348814741910323)) 4)) &&& 1085102592571150095) 8)) 16)))]) r_168_47 (n_168_47 _) (by decide) rfl ?_
  refine i_lload_n (u := ((((((u0 - ((zushrL u0 1) &&& 6148914691236517205)) &&& 3689348814741910323) + ((zushrL (u0 - ((zushrL u0 1) &&& 6148914691236517205)) 2) &&& 3689348814741910323)) + (zushrL (((u0 - ((zushrL u0 1) &&& 6148914691236517205)) &&& 3689348814741910323) + ((zushrL (u0 - ((zushrL u0 1) &&& 6148914691236517205)) 2) &&& 3689348814741910323)) 4)) &&& 1085102592571150095) + (zushrL (((((u0 - ((zushrL u0 1) &&& 6148914691236517205)) &&& 3689348814741910323) + ((zushrL (u0 - ((zushrL u0 1) &&& 6148914691236517205)) 2) &&& 3689348814741910323)) + (zushrL (((u0 - ((zushrL u0 1) &&& 6148914691236517205)) &&& 3689348814741910323) + ((zushrL (u0 - ((zushrL u0 1) &&& 6148914691236517205)) 2) &&& 3689348814741910323)) 4)) &&& 1085102592571150095) 8)) + (zushrL ((((((u0 - ((zushrL u0 1) &&& 6148914691236517205)) &&& 3689348814741910323) + ((zushrL (u0 - ((zushrL u0 1) &&& 6148914691236517205)) 2) &&& 3689348814741910323)) + (zushrL (((u0 - ((zushrL u0 1) &&& 6148914691236517205)) &&& 3689348814741910323) + ((zushrL (u0 - ((zushrL u0 1) &&& 6148914691236517205)) 2) &&& 3689348814741910323)) 4)) &&& 1085102592571150095) + (zushrL (((((u0 - ((zushrL u0 1) &&& 6148914691236517205)) &&& 3689348814741910323) + ((zushrL (u0 - ((zushrL u0 1) &&& 6148914691236517205)) 2) &&& 3689348814741910323)) + (zushrL (((u0 - ((zushrL u0 1) &&& 6148914691236517205)) &&& 3689348814741910323) + ((zushrL (u0 - ((zushrL u0 1) &&& 6148914691236517205)) 2) &&& 3689348814741910323)) 4)) &&& 1085102592571150095) 8)) 16)) r_168_48 (n_168_48 _) rfl ?_
  refine i_lload_n (u := ((((((u0 - ((zushrL u0 1) &&& 6148914691236517205)) &&& 3689348814741910323) + ((zushrL (u0 - ((zushrL u0 1) &&& 6148914691236517205)) 2) &&& 3689348814741910323)) + (zushrL (((u0 - ((zushrL u0 1) &&& 6148914691236517205)) &&& 3689348814741910323) + ((zushrL (u0 - ((zushrL u0 1) &&& 6148914691236517205)) 2) &&& 3689348814741910323)) 4)) &&& 1085102592571150095) + (zushrL (((((u0 - ((zushrL u0 1) &&& 6148914691236517205)) &&& 3689348814741910323) + ((zushrL (u0 - ((zushrL u0 1) &&& 6148914691236517205)) 2) &&& 3689348814741910323)) + (zushrL (((u0 - ((zushrL u0 1) &&& 6148914691236517205)) &&& 3689348814741910323) + ((zushrL (u0 - ((zushrL u0 1) &&& 6148914691236517205)) 2) &&& 3689348814741910323)) 4)) &&& 1085102592571150095) 8)) + (zushrL ((((((u0 - ((zushrL u0 1) &&& 6148914691236517205)) &&& 3689348814741910323) + ((zushrL (u0 - ((zushrL u0 1) &&& 6148914691236517205)) 2) &&& 3689348814741910323)) + (zushrL (((u0 - ((zushrL u0 1) &&& 6148914691236517205)) &&& 3689348814741910323) + ((zushrL (u0 - ((zushrL u0 1) &&& 6148914691236517205)) 2) &&& 3689348814741910323)) 4)) &&& 1085102592571150095) + (zushrL (((((u0 - ((zushrL u0 1) &&& 6148914691236517205)) &&& 3689348814741910323) + ((zushrL (u0 - ((zushrL u0 1) &&& 6148914691236517205)) 2) &&& 3689348814741910323)) + (zushrL (((u0 - ((zushrL u0 1) &&& 6148914691236517205)) &&& 3689348814741910323) + ((zushrL (u0 - ((zushrL u0 1) &&& 6148914691236517205)) 2) &&& 3689348814741910323)) 4)) &&& 1085102592571150095) 8)) 16)) r_168_49 (n_168_49 _) rfl ?_
  refine i_bipush r_168_50 (n_168_50 _) rfl ?_
  refine i_lushr r_168_52 (n_168_52 _) ?_
  refine i_ladd r_168_53 (n_168_53 _) ?_
  refine i_lstore_n (l' := [(0, .long ((((((((u0 - ((zushrL u0 1) &&& 6148914691236517205)) &&& 3689348814741910323) + ((zushrL (u0 - ((zushrL u0 1) &&& 6148914691236517205)) 2) &&& 3689348814741910323)) + (zushrL (((u0 - ((zushrL u0 1) &&& 6148914691236517205)) &&& 3689348814741910323) + ((zushrL (u0 - ((zushrL u0 1) &&& 6148914691236517205)) 2) &&& 3689348814741910323)) 4)) &&& 1085102592571150095) + (zushrL (((((u0 - ((zushrL u0 1) &&& 6148914691236517205)) &&& 3689348814741910323) + ((zushrL (u0 - ((zushrL u0 1) &&& 6148914691236517205)) 2) &&& 3689348814741910323)) + (zushrL (((u0 - ((zushrL u0 1) &&& 6148914691236517205)) &&& 3689348814741910323) + ((zushrL (u0 - ((zushrL u0 1) &&& 6148914691236517205)) 2) &&& 3689348814741910323)) 4)) &&& 1085102592571150095) 8)) + (zushrL ((((((u0 - ((zushrL u0 1) &&& 6148914691236517205)) &&& 3689348814741910323) + ((zushrL (u0 - ((zushrL u0 1) &&& 6148914691236517205)) 2) &&& 3689348814741910323)) + (zushrL (((u0 - ((zushrL u0 1) &&& 6148914691236517205)) &&& 3689348814741910323) + ((zushrL (u0 - ((zushrL u0 1) &&& 6148914691236517205)) 2) &&& 3689348814741910323)) 4)) &&& 1085102592571150095) + (zushrL (((((u0 - ((zushrL u0 1) &&& 6148914691236517205)) &&& 3689348814741910323) + ((zushrL (u0 - ((zushrL u0 1) &&& 6148914691236517205)) 2) &&& 3689348814741910323)) + (zushrL (((u0 - ((zushrL u0 1) &&& 6148914691236517205)) &&& 3689348814741910323) + ((zushrL (u0 - ((zushrL u0 1) &&& 6148914691236517205)) 2) &&& 3689348814741910323)) 4)) &&& 1085102592571150095) 8)) 16)) + (zushrL (((((((u0 - ((zushrL u0 1) &&& 6148914691236517205)) &&& 3689348814741910323) + ((zushrL (u0 - ((zushrL u0 1) &&& 6148914691236517205)) 2) &&& 3689348814741910323)) + (zushrL (((u0 - ((zushrL u0 1) &&& 6148914691236517205)) &&& 3689348814741910323) + ((zushrL (u0 - ((zushrL u0 1) &&& 6148914691236517205)) 2) &&& 3689348814741910323)) 4)) &&& 1085102592571150095) + (zushrL (((((u0 - ((zushrL u0 1) &&& 6148914691236517205)) &&& 3689348814741910323) + ((zushrL (u0 - ((zushrL u0 1) &&& 6148914691236517205)) 2) &&& 3689348814741910323)) + (zushrL (((u0 - ((zushrL u0 1) &&& 6148914691236517205)) &&& 3689348814741910323) + ((zushrL (u0 - ((zushrL u0 1) &&& 6148914691236517205)) 2) &&& 3689348814741910323)) 4)) &&& 1085102592571150095) 8)) + (zushrL ((((((u0 - ((zushrL u0 1) &&& 6148914691236517205)) &&& 3689348814741910323) + ((zushrL (u0 - ((zushrL u0 1) &&& 6148914691236517205)) 2) &&& 3689348814741910323)) + (zushrL (((u0 - ((zushrL u0 1) &&& 6148914691236517205)) &&& 3689348814741910323) + ((zushrL (u0 - ((zushrL u0 1) &&& 6148914691236517205)) 2) &&& 3689348814741910323)) 4)) &&& 1085102592571150095) + (zushrL (((((u0 - ((zushrL u0 1) &&& 6148914691236517205)) &&& 3689348814741910323) + ((zushrL (u0 - ((zushrL u0 1) &&& 6148914691236517205)) 2) &&& 3689348814741910323)) + (zushrL (((u0 - ((zushrL u0 1) &&& 6148914691236517205)) &&& 3689348814741910323) + ((zushrL (u0 - ((zushrL u0 1) &&& 6148914691236517205)) 2) &&& 3689348814741910323)) 4)) &&& 1085102592571150095) 8)) 16)) 32)))]) r_168_54 (n_168_54 _) (by decide) rfl ?_
  refine i_lload_n (u := (((((((u0 - ((zushrL u0 1) &&& 6148914691236517205)) &&& 3689348814741910323) + ((zushrL (u0 - ((zushrL u0 1) &&& 6148914691236517205)) 2) &&& 3689348814741910323)) + (zushrL (((u0 - ((zushrL u0 1) &&& 6148914691236517205)) &&& 3689348814741910323) + ((zushrL (u0 - ((zushrL u0 1) &&& 6148914691236517205)) 2) &&& 3689348814741910323)) 4)) &&& 1085102592571150095) + (zushrL (((((u0 - ((zushrL u0 1) &&& 6148914691236517205)) &&& 3689348814741910323) + ((zushrL (u0 - ((zushrL u0 1) &&& 6148914691236517205)) 2) &&& 3689348814741910323)) + (zushrL (((u0 - ((zushrL u0 1) &&& 6148914691236517205)) &&& 3689348814741910323) + ((zushrL (u0 - ((zushrL u0 1) &&& 6148914691236517205)) 2) &&& 3689348814741910323)) 4)) &&& 1085102592571150095) 8)) + (zushrL ((((((u0 - ((zushrL u0 1) &&& 6148914691236517205)) &&& 3689348814741910323) + ((zushrL (u0 - ((zushrL u0 1) &&& 6148914691236517205)) 2) &&& 3689348814741910323)) + (zushrL (((u0 - ((zushrL u0 1) &&& 6148914691236517205)) &&& 3689348814741910323) + ((zushrL (u0 - ((zushrL u0 1) &&& 6148914691236517205)) 2) &&& 3689348814741910323)) 4)) &&& 1085102592571150095) + (zushrL (((((u0 - ((zushrL u0 1) &&& 6148914691236517205)) &&& 3689348814741910323) + ((zushrL (u0 - ((zushrL u0 1) &&& 6148914691236517205)) 2) &&& 3689348814741910323)) + (zushrL (((u0 - ((zushrL u0 1) &&& 6148914691236517205)) &&& 3689348814741910323) + ((zushrL (u0 - ((zushrL u0 1) &&& 6148914691236517205)) 2) &&& 3689348814741910323)) 4)) &&& 1085102592571150095) 8)) 16)) + (zushrL (((((((u0 - ((zushrL u0 1) &&& 6148914691236517205)) &&& 3689348814741910323) + ((zushrL (u0 - ((zushrL u0 1) &&& 6148914691236517205)) 2) &&& 3689348814741910323)) + (zushrL (((u0 - ((zushrL u0 1) &&& 6148914691236517205)) &&& 3689348814741910323) + ((zushrL (u0 - ((zushrL u0 1) &&& 6148914691236517205)) 2) &&& 3689348814741910323)) 4)) &&& 1085102592571150095) + (zushrL (((((u0 - ((zushrL u0 1) &&& 6148914691236517205)) &&& 3689348814741910323) + ((zushrL (u0 - ((zushrL u0 1) &&& 6148914691236517205)) 2) &&& 3689348814741910323)) + (zushrL (((u0 - ((zushrL u0 1) &&& 6148914691236517205)) &&& 3689348814741910323) + ((zushrL (u0 - ((zushrL u0 1) &&& 6148914691236517205)) 2) &&& 3689348814741910323)) 4)) &&& 1085102592571150095) 8)) + (zushrL ((((((u0 - ((zushrL u0 1) &&& 6148914691236517205)) &&& 3689348814741910323) + ((zushrL (u0 - ((zushrL u0 1) &&& 6148914691236517205)) 2) &&& 3689348814741910323)) + (zushrL (((u0 - ((zushrL u0 1) &&& 6148914691236517205)) &&& 3689348814741910323) + ((zushrL (u0 - ((zushrL u0 1) &&& 6148914691236517205)) 2) &&& 3689348814741910323)) 4)) &&& 1085102592571150095) + (zushrL (((((u0 - ((zushrL u0 1) &&& 6148914691236517205)) &&& 3689348814741910323) + ((zushrL (u0 - ((zushrL u0 1) &&& 6148914691236517205)) 2) &&& 3689348814741910323)) + (zushrL (((u0 - ((zushrL u0 1) &&& 6148914691236517205)) &&& 3689348814741910323) + ((zushrL (u0 - ((zushrL u0 1) &&& 6148914691236517205)) 2) &&& 3689348814741910323)) 4)) &&& 1085102592571150095) 8)) 16)) 32)) r_168_55 (n_168_55 _) rfl ?_
  refine i_l2i r_168_56 (n_168_56 _) ?_
  refine i_bipush r_168_57 (n_168_57 _) rfl ?_
  refine i_iand r_168_59 (n_168_59 _) ?_
  exact i_ireturn r_168_60 (n_168_60 _) rfl h
theorem r_170_0 : xfetch 170 0 = some (.aload_n 0, 1) := by decide +kernel
theorem n_170_0 : ∀ l, xpr 170 0 l = l := xpr_no (by decide +kernel)
theorem r_170_1 : xfetch 170 1 = some (.iload_n 1, 1) := by decide +kernel
theorem n_170_1 : ∀ l, xpr 170 1 l = l := xpr_no (by decide +kernel)
theorem r_170_2 : xfetch 170 2 = some (.iload 4, 2) := by decide +kernel
theorem n_170_2 : ∀ l, xpr 170 2 l = l := xpr_no (by decide +kernel)
theorem r_170_4 : xfetch 170 4 = some (.iload 5, 2) := by decide +kernel
theorem n_170_4 : ∀ l, xpr 170 4 l = l := xpr_no (by decide +kernel)
theorem r_170_6 : xfetch 170 6 = some (.invokevirtual 356, 3) := by decide +kernel
theorem n_170_6 : ∀ l, xpr 170 6 l = l := xpr_no (by decide +kernel)
theorem r_170_9 : xfetch 170 9 = some (.aload_n 0, 1) := by decide +kernel
theorem n_170_9 : ∀ l, xpr 170 9 l = l := xpr_no (by decide +kernel)
theorem r_170_10 : xfetch 170 10 = some (.iload_n 1, 1) := by decide +kernel
theorem n_170_10 : ∀ l, xpr 170 10 l = l := xpr_no (by decide +kernel)
theorem r_170_11 : xfetch 170 11 = some (.invokevirtual 293, 3) := by decide +kernel
theorem n_170_11 : ∀ l, xpr 170 11 l = l := xpr_no (by decide +kernel)
theorem r_170_14 : xfetch 170 14 = some (.aload_n 0, 1) := by decide +kernel
theorem n_170_14 : ∀ l, xpr 170 14 l = l := xpr_no (by decide +kernel)
theorem r_170_15 : xfetch 170 15 = some (.getfield 47, 3) := by decide +kernel
theorem n_170_15 : ∀ l, xpr 170 15 l = l := xpr_no (by decide +kernel)
theorem r_170_18 : xfetch 170 18 = some (.aload_n 0, 1) := by decide +kernel
theorem n_170_18 : ∀ l, xpr 170 18 l = l := xpr_no (by decide +kernel)
theorem r_170_19 : xfetch 170 19 = some (.getfield 57, 3) := by decide +kernel
theorem n_170_19 : ∀ l, xpr 170 19 l = l := xpr_no (by decide +kernel)
theorem r_170_22 : xfetch 170 22 = some (.lload_n 2, 1) := by decide +kernel
theorem n_170_22 : ∀ l, xpr 170 22 l = l := xpr_no (by decide +kernel)
theorem r_170_23 : xfetch 170 23 = some (.iload 4, 2) := by decide +kernel
theorem n_170_23 : ∀ l, xpr 170 23 l = l := xpr_no (by decide +kernel)
theorem r_170_25 : xfetch 170 25 = some (.iload 5, 2) := by decide +kernel
theorem n_170_25 : ∀ l, xpr 170 25 l = l := xpr_no (by decide +kernel)
theorem r_170_27 : xfetch 170 27 = some (.iconst 1, 1) := by decide +kernel
theorem n_170_27 : ∀ l, xpr 170 27 l = l := xpr_no (by decide +kernel)
theorem r_170_28 : xfetch 170 28 = some (.invokevirtual 362, 3) := by decide +kernel
theorem n_170_28 : ∀ l, xpr 170 28 l = l := xpr_no (by decide +kernel)
theorem r_170_31 : xfetch 170 31 = some (.aload_n 0, 1) := by decide +kernel
theorem n_170_31 : ∀ l, xpr 170 31 l = l := xpr_no (by decide +kernel)
theorem r_170_32 : xfetch 170 32 = some (.getfield 57, 3) := by decide +kernel
theorem n_170_32 : ∀ l, xpr 170 32 l = l := xpr_no (by decide +kernel)
theorem r_170_35 : xfetch 170 35 = some (.invokevirtual 368, 3) := by decide +kernel
theorem n_170_35 : ∀ l, xpr 170 35 l = l := xpr_no (by decide +kernel)
theorem r_170_38 : xfetch 170 38 = some (.ireturn, 1) := by decide +kernel
theorem n_170_38 : ∀ l, xpr 170 38 l = l := xpr_no (by decide +kernel)
theorem v_RL_runs_0 {S : Option (Nat × (Nat → Int32))} {s : zSt} {Q : Option Value ⊕ Nat → zSt → Prop} {x1 : Int} {u2 : Int64} {x4 : Int} {x5 : Int} 
    (h : wp S 161 0 [(0, rf 2), (1, iv x1), (2, iv x4), (3, iv x5)] [] s (fun o1 s1 => zkU (wp S 120 0 [(0, rf 2), (1, iv x1)] [] s1 (fun o3 s3 => zkU (wp S 163 0 [(0, rf 48), (1, rf 58), (2, .long u2), (4, iv x4), (5, iv x5), (6, iv 1)] [] s3 (fun o5 s5 => zkU (wp S 171 0 [(0, rf 58)] [] s5 (fun o7 s7 => zkI (fun y7 => Q (rI y7) s7) (fun e7 => False) o7)) (fun e5 => False) o5)) (fun e3 => False) o3)) (fun e1 => Q (rT e1) s1) o1)) :
    wp S 170 0 [(0, rf 2), (1, iv x1), (2, .long u2), (4, iv x4), (5, iv x5)] [] s Q := by
  refine i_aload_n (a := 2) r_170_0 (n_170_0 _) rfl ?_
  refine i_iload_n (x := x1) r_170_1 (n_170_1 _) rfl ?_
  refine i_iload (x := x4) r_170_2 (n_170_2 _) rfl ?_
  refine i_iload (x := x5) r_170_4 (n_170_4 _) rfl ?_
  refine wp_virt (b := 2) (rest := []) (Ls := [(0, rf 2), (1, iv x1), (2, iv x4), (3, iv x5)]) r_170_6 (n_170_6 _) rfl ⟨rfl, rfl, by decide, by decide⟩ rfl rfl lf_2 ⟨rfl, Nat.le_of_ble_eq_true rfl, Nat.le_of_ble_eq_true rfl⟩ rfl h ?_
  intro o1 s1 h
  rcases h with ⟨rfl, h⟩ | ⟨e1, rfl, h⟩
  · refine .inl ⟨none, rfl, ?_⟩
    refine i_aload_n (a := 2) r_170_9 (n_170_9 _) rfl ?_
    refine i_iload_n (x := x1) r_170_10 (n_170_10 _) rfl ?_
    refine wp_virt (b := 2) (rest := []) (Ls := [(0, rf 2), (1, iv x1)]) r_170_11 (n_170_11 _) rfl ⟨rfl, rfl, by decide, by decide⟩ rfl rfl lf_2 ⟨rfl, Nat.le_of_ble_eq_true rfl, Nat.le_of_ble_eq_true rfl⟩ rfl h ?_
    intro o3 s3 h
    rcases h with ⟨rfl, h⟩ | ⟨e3, rfl, h⟩
    · refine .inl ⟨none, rfl, ?_⟩
      refine i_aload_n (a := 2) r_170_14 (n_170_14 _) rfl ?_
      refine i_getR (a := 2) (b := 48) r_170_15 (n_170_15 _) rfl rfl rfl (by omega) lf_2 (by omega) ?_
      refine i_aload_n (a := 2) r_170_18 (n_170_18 _) rfl ?_
      refine i_getR (a := 2) (b := 58) r_170_19 (n_170_19 _) rfl rfl rfl (by omega) lf_2 (by omega) ?_
      refine i_lload_n (u := u2) r_170_22 (n_170_22 _) rfl ?_
      refine i_iload (x := x4) r_170_23 (n_170_23 _) rfl ?_
      refine i_iload (x := x5) r_170_25 (n_170_25 _) rfl ?_
      refine i_iconst r_170_27 (n_170_27 _) ?_
      refine wp_virt (b := 48) (rest := []) (Ls := [(0, rf 48), (1, rf 58), (2, .long u2), (4, iv x4), (5, iv x5), (6, iv 1)]) r_170_28 (n_170_28 _) rfl ⟨rfl, rfl, by decide, by decide⟩ rfl rfl lf_48 ⟨rfl, Nat.le_of_ble_eq_true rfl, Nat.le_of_ble_eq_true rfl⟩ rfl h ?_
      intro o5 s5 h
      rcases h with ⟨rfl, h⟩ | ⟨e5, rfl, h⟩
      · refine .inl ⟨none, rfl, ?_⟩
        refine i_aload_n (a := 2) r_170_31 (n_170_31 _) rfl ?_
        refine i_getR (a := 2) (b := 58) r_170_32 (n_170_32 _) rfl rfl rfl (by omega) lf_2 (by omega) ?_
        refine wp_virt (b := 58) (rest := []) (Ls := [(0, rf 58)]) r_170_35 (n_170_35 _) rfl ⟨rfl, rfl, by decide, by decide⟩ rfl rfl lf_58 ⟨rfl, Nat.le_of_ble_eq_true rfl, Nat.le_of_ble_eq_true rfl⟩ rfl h ?_
        intro o7 s7 h
        rcases h with ⟨y7, q8, rfl, h⟩ | ⟨e7, rfl, h⟩
        · refine .inl ⟨some (iv y7), rfl, ?_⟩
          show wp S 170 38 [(0, rf 2), (1, iv x1), (2, .long u2), (4, iv x4), (5, iv x5)] [iv y7] s7 Q
          exact i_ireturn r_170_38 (n_170_38 _) rfl h
        · skip
          exact h.elim
      · skip
        exact h.elim
    · skip
      exact h.elim
  · skip
    exact .inr ⟨e1, rfl, .inl ⟨rfl, h⟩⟩
theorem r_171_0 : xfetch 171 0 = some (.iconst 0, 1) := by decide +kernel
theorem n_171_0 : ∀ l, xpr 171 0 l = l := xpr_no (by decide +kernel)
theorem r_171_1 : xfetch 171 1 = some (.istore_n 1, 1) := by decide +kernel
theorem n_171_1 : ∀ l, xpr 171 1 l = l := xpr_no (by decide +kernel)
theorem r_171_2 : xfetch 171 2 = some (.lconst 0, 1) := by decide +kernel
theorem n_171_2 : ∀ l, xpr 171 2 l = l := xpr_no (by decide +kernel)
theorem r_171_3 : xfetch 171 3 = some (.lstore_n 2, 1) := by decide +kernel
theorem n_171_3 : ∀ l, xpr 171 3 l = l := xpr_no (by decide +kernel)
theorem r_171_4 : xfetch 171 4 = some (.iconst 0, 1) := by decide +kernel
theorem n_171_4 : ∀ l, xpr 171 4 l = l := xpr_no (by decide +kernel)
theorem r_171_5 : xfetch 171 5 = some (.istore 4, 2) := by decide +kernel
theorem n_171_5 : ∀ l, xpr 171 5 l = l := xpr_no (by decide +kernel)
theorem r_171_7 : xfetch 171 7 = some (.iload 4, 2) := by decide +kernel
theorem r_171_9 : xfetch 171 9 = some (.bipush 16, 2) := by decide +kernel
theorem n_171_9 : ∀ l, xpr 171 9 l = l := xpr_no (by decide +kernel)
theorem r_171_11 : xfetch 171 11 = some (.if_icmp .ge 49, 3) := by decide +kernel
theorem n_171_11 : ∀ l, xpr 171 11 l = l := xpr_no (by decide +kernel)
theorem r_171_14 : xfetch 171 14 = some (.iload_n 1, 1) := by decide +kernel
theorem n_171_14 : ∀ l, xpr 171 14 l = l := xpr_no (by decide +kernel)
theorem r_171_15 : xfetch 171 15 = some (.aload_n 0, 1) := by decide +kernel
theorem n_171_15 : ∀ l, xpr 171 15 l = l := xpr_no (by decide +kernel)
theorem r_171_16 : xfetch 171 16 = some (.getfield 11, 3) := by decide +kernel
theorem n_171_16 : ∀ l, xpr 171 16 l = l := xpr_no (by decide +kernel)
theorem r_171_19 : xfetch 171 19 = some (.iload 4, 2) := by decide +kernel
theorem n_171_19 : ∀ l, xpr 171 19 l = l := xpr_no (by decide +kernel)
theorem r_171_21 : xfetch 171 21 = some (.laload, 1) := by decide +kernel
theorem n_171_21 : ∀ l, xpr 171 21 l = l := xpr_no (by decide +kernel)
theorem r_171_22 : xfetch 171 22 = some (.aload_n 0, 1) := by decide +kernel
theorem n_171_22 : ∀ l, xpr 171 22 l = l := xpr_no (by decide +kernel)
theorem r_171_23 : xfetch 171 23 = some (.getfield 11, 3) := by decide +kernel
theorem n_171_23 : ∀ l, xpr 171 23 l = l := xpr_no (by decide +kernel)
theorem r_171_26 : xfetch 171 26 = some (.iload 4, 2) := by decide +kernel
theorem n_171_26 : ∀ l, xpr 171 26 l = l := xpr_no (by decide +kernel)
theorem r_171_28 : xfetch 171 28 = some (.laload, 1) := by decide +kernel
theorem n_171_28 : ∀ l, xpr 171 28 l = l := xpr_no (by decide +kernel)
theorem r_171_29 : xfetch 171 29 = some (.iconst 1, 1) := by decide +kernel
theorem n_171_29 : ∀ l, xpr 171 29 l = l := xpr_no (by decide +kernel)
theorem r_171_30 : xfetch 171 30 = some (.lshl, 1) := by decide +kernel
theorem n_171_30 : ∀ l, xpr 171 30 l = l := xpr_no (by decide +kernel)
theorem r_171_31 : xfetch 171 31 = some (.lload_n 2, 1) := by decide +kernel
theorem n_171_31 : ∀ l, xpr 171 31 l = l := xpr_no (by decide +kernel)
theorem r_171_32 : xfetch 171 32 = some (.lor, 1) := by decide +kernel
theorem n_171_32 : ∀ l, xpr 171 32 l = l := xpr_no (by decide +kernel)
theorem r_171_33 : xfetch 171 33 = some (.ldc2_w 27, 3) := by decide +kernel
theorem n_171_33 : ∀ l, xpr 171 33 l = l := xpr_no (by decide +kernel)
theorem r_171_36 : xfetch 171 36 = some (.lxor, 1) := by decide +kernel
theorem n_171_36 : ∀ l, xpr 171 36 l = l := xpr_no (by decide +kernel)
theorem r_171_37 : xfetch 171 37 = some (.land, 1) := by decide +kernel
theorem n_171_37 : ∀ l, xpr 171 37 l = l := xpr_no (by decide +kernel)
theorem r_171_38 : xfetch 171 38 = some (.invokestatic 21, 3) := by decide +kernel
theorem n_171_38 : ∀ l, xpr 171 38 l = l := xpr_no (by decide +kernel)
theorem r_171_41 : xfetch 171 41 = some (.iadd, 1) := by decide +kernel
theorem n_171_41 : ∀ l, xpr 171 41 l = l := xpr_no (by decide +kernel)
theorem r_171_42 : xfetch 171 42 = some (.istore_n 1, 1) := by decide +kernel
theorem n_171_42 : ∀ l, xpr 171 42 l = l := xpr_no (by decide +kernel)
theorem r_171_43 : xfetch 171 43 = some (.aload_n 0, 1) := by decide +kernel
theorem n_171_43 : ∀ l, xpr 171 43 l = l := xpr_no (by decide +kernel)
theorem r_171_44 : xfetch 171 44 = some (.getfield 11, 3) := by decide +kernel
theorem n_171_44 : ∀ l, xpr 171 44 l = l := xpr_no (by decide +kernel)
theorem r_171_47 : xfetch 171 47 = some (.iload 4, 2) := by decide +kernel
theorem n_171_47 : ∀ l, xpr 171 47 l = l := xpr_no (by decide +kernel)
theorem r_171_49 : xfetch 171 49 = some (.laload, 1) := by decide +kernel
theorem n_171_49 : ∀ l, xpr 171 49 l = l := xpr_no (by decide +kernel)
theorem r_171_50 : xfetch 171 50 = some (.bipush 63, 2) := by decide +kernel
theorem n_171_50 : ∀ l, xpr 171 50 l = l := xpr_no (by decide +kernel)
theorem r_171_52 : xfetch 171 52 = some (.lushr, 1) := by decide +kernel
theorem n_171_52 : ∀ l, xpr 171 52 l = l := xpr_no (by decide +kernel)
theorem r_171_53 : xfetch 171 53 = some (.lstore_n 2, 1) := by decide +kernel
theorem n_171_53 : ∀ l, xpr 171 53 l = l := xpr_no (by decide +kernel)
theorem r_171_54 : xfetch 171 54 = some (.iinc 4 1, 3) := by decide +kernel
theorem n_171_54 : ∀ l, xpr 171 54 l = l := xpr_no (by decide +kernel)
theorem r_171_57 : xfetch 171 57 = some (.goto (-50), 3) := by decide +kernel
theorem n_171_57 : ∀ l, xpr 171 57 l = l := xpr_no (by decide +kernel)
theorem r_171_60 : xfetch 171 60 = some (.iload_n 1, 1) := by decide +kernel
theorem n_171_60 : ∀ l, xpr 171 60 l = l := xpr_no (by decide +kernel)
theorem r_171_61 : xfetch 171 61 = some (.ireturn, 1) := by decide +kernel
theorem n_171_61 : ∀ l, xpr 171 61 l = l := xpr_no (by decide +kernel)
theorem v_Marks_sequences_0 {S : Option (Nat × (Nat → Int32))} {s : zSt} {Q : Option Value ⊕ Nat → zSt → Prop}  
    (h : wp S 171 7 [(0, rf 58), (1, iv 0), (2, .long 0), (4, iv 0)] [] s Q) :
    wp S 171 0 [(0, rf 58)] [] s Q := by
  refine i_iconst r_171_0 (n_171_0 _) ?_
  refine i_istore_n (l' := [(0, rf 58), (1, iv 0)]) r_171_1 (n_171_1 _) (by decide) rfl ?_
  refine i_lconst r_171_2 (n_171_2 _) ?_
  refine i_lstore_n (l' := [(0, rf 58), (1, iv 0), (2, .long 0)]) r_171_3 (n_171_3 _) (by decide) rfl ?_
  refine i_iconst r_171_4 (n_171_4 _) ?_
  refine i_istore (l' := [(0, rf 58), (1, iv 0), (2, .long 0), (4, iv 0)]) r_171_5 (n_171_5 _) (by decide) rfl ?_
  exact wp_pr (l' := [(0, rf 58), (1, iv 0), (2, .long 0), (4, iv 0)]) rfl h
theorem v_Marks_sequences_7 {S : Option (Nat × (Nat → Int32))} {s : zSt} {Q : Option Value ⊕ Nat → zSt → Prop} {x1 : Int} {u2 : Int64} {x4 : Int} 
    (h : rng x4 ∧ ((16 ≤ x4 → Q (rI x1) s) ∧ (x4 < 16 → (0 ≤ x4 ∧ x4 < 16) ∧ (wp S 168 0 [(0, .long ((zL s 59 x4) &&& (((zshlL (zL s 59 x4) 1) ||| u2) ^^^ (-1))))] [] s (fun o4 s4 => zkI (fun y4 => wp S 171 7 [(0, rf 58), (1, iv (x1 + y4)), (2, .long (zushrL (zL s4 59 x4) 63)), (4, iv (x4 + 1))] [] s4 Q) (fun e4 => False) o4))))) :
    wp S 171 7 [(0, rf 58), (1, iv x1), (2, .long u2), (4, iv x4)] [] s Q := by
  refine i_iload (x := x4) r_171_7 rfl rfl ?_
  refine i_bipush r_171_9 (n_171_9 _) rfl ?_
  obtain ⟨g1, h⟩ := h
  refine i_icmp (t := 60) r_171_11 (n_171_11 _) rfl (T_ge g1 ⟨by omega, by omega⟩) (fun c2 => ?_) (fun c2 => ?_)
  · replace h := h.1 c2
    refine i_iload_n (x := x1) r_171_60 (n_171_60 _) rfl ?_
    exact i_ireturn r_171_61 (n_171_61 _) rfl h
  · replace h := h.2 c2
    refine i_iload_n (x := x1) r_171_14 (n_171_14 _) rfl ?_
    refine i_aload_n (a := 58) r_171_15 (n_171_15 _) rfl ?_
    refine i_getR (a := 58) (b := 59) r_171_16 (n_171_16 _) rfl rfl rfl (by omega) lf_58 (by omega) ?_
    refine i_iload (x := x4) r_171_19 (n_171_19 _) rfl ?_
    obtain ⟨g3, h⟩ := h
    refine i_laload (a := 59) (j := x4) r_171_21 (n_171_21 _) lf_59 ⟨by omega, by omega⟩ (by omega) (by omega) ?_
    refine i_aload_n (a := 58) r_171_22 (n_171_22 _) rfl ?_
    refine i_getR (a := 58) (b := 59) r_171_23 (n_171_23 _) rfl rfl rfl (by omega) lf_58 (by omega) ?_
    refine i_iload (x := x4) r_171_26 (n_171_26 _) rfl ?_
    refine i_laload (a := 59) (j := x4) r_171_28 (n_171_28 _) lf_59 ⟨by omega, by omega⟩ (by omega) (by omega) ?_
    refine i_iconst r_171_29 (n_171_29 _) ?_
    refine i_lshl r_171_30 (n_171_30 _) ?_
    refine i_lload_n (u := u2) r_171_31 (n_171_31 _) rfl ?_
    refine i_lor r_171_32 (n_171_32 _) ?_
    refine i_ldc2 r_171_33 (n_171_33 _) rfl ?_
    refine i_lxor r_171_36 (n_171_36 _) ?_
    refine i_land r_171_37 (n_171_37 _) ?_
    refine wp_stat (rest := [iv x1]) (Ls := [(0, .long ((zL s 59 x4) &&& (((zshlL (zL s 59 x4) 1) ||| u2) ^^^ (-1))))]) r_171_38 (n_171_38 _) rfl ⟨rfl, by decide, by decide, by decide⟩ rfl rfl ⟨rfl, Nat.le_of_ble_eq_true rfl, Nat.le_of_ble_eq_true rfl⟩ rfl h ?_
    intro o4 s4 h
    rcases h with ⟨y4, q5, rfl, h⟩ | ⟨e4, rfl, h⟩
    · refine .inl ⟨some (iv y4), rfl, ?_⟩
      show wp S 171 41 [(0, rf 58), (1, iv x1), (2, .long u2), (4, iv x4)] [iv y4, iv x1] s4 Q
      refine i_iadd r_171_41 (n_171_41 _) ?_
      refine i_istore_n (l' := [(0, rf 58), (1, iv (x1 + y4)), (2, .long u2), (4, iv x4)]) r_171_42 (n_171_42 _) (by decide) rfl ?_
      refine i_aload_n (a := 58) r_171_43 (n_171_43 _) rfl ?_
      refine i_getR (a := 58) (b := 59) r_171_44 (n_171_44 _) rfl rfl rfl (by omega) lf_58 (by omega) ?_
      refine i_iload (x := x4) r_171_47 (n_171_47 _) rfl ?_
      refine i_laload (a := 59) (j := x4) r_171_49 (n_171_49 _) lf_59 ⟨by omega, by omega⟩ (by omega) (by omega) ?_
      refine i_bipush r_171_50 (n_171_50 _) rfl ?_
      refine i_lushr r_171_52 (n_171_52 _) ?_
      refine i_lstore_n (l' := [(0, rf 58), (1, iv (x1 + y4)), (2, .long (zushrL (zL s4 59 x4) 63)), (4, iv x4)]) r_171_53 (n_171_53 _) (by decide) rfl ?_
      refine i_iinc (x := x4) (l' := [(0, rf 58), (1, iv (x1 + y4)), (2, .long (zushrL (zL s4 59 x4) 63)), (4, iv (x4 + 1))]) r_171_54 (n_171_54 _) (by decide) rfl rfl ?_
      refine i_goto (t := 7) r_171_57 (n_171_57 _) rfl ?_
      exact wp_pr (l' := [(0, rf 58), (1, iv (x1 + y4)), (2, .long (zushrL (zL s4 59 x4) 63)), (4, iv (x4 + 1))]) rfl h
    · skip
      exact h.elim
theorem r_173_0 : xfetch 173 0 = some (.aload_n 0, 1) := by decide +kernel
theorem n_173_0 : ∀ l, xpr 173 0 l = l := xpr_no (by decide +kernel)
theorem r_173_1 : xfetch 173 1 = some (.iload_n 1, 1) := by decide +kernel
theorem n_173_1 : ∀ l, xpr 173 1 l = l := xpr_no (by decide +kernel)
theorem r_173_2 : xfetch 173 2 = some (.invokevirtual 284, 3) := by decide +kernel
theorem n_173_2 : ∀ l, xpr 173 2 l = l := xpr_no (by decide +kernel)
theorem r_173_5 : xfetch 173 5 = some (.iload 4, 2) := by decide +kernel
theorem n_173_5 : ∀ l, xpr 173 5 l = l := xpr_no (by decide +kernel)
theorem r_173_7 : xfetch 173 7 = some (.invokestatic 359, 3) := by decide +kernel
theorem n_173_7 : ∀ l, xpr 173 7 l = l := xpr_no (by decide +kernel)
theorem r_173_10 : xfetch 173 10 = some (.aload_n 0, 1) := by decide +kernel
theorem n_173_10 : ∀ l, xpr 173 10 l = l := xpr_no (by decide +kernel)
theorem r_173_11 : xfetch 173 11 = some (.getfield 10, 3) := by decide +kernel
theorem n_173_11 : ∀ l, xpr 173 11 l = l := xpr_no (by decide +kernel)
theorem r_173_14 : xfetch 173 14 = some (.getfield 256, 3) := by decide +kernel
theorem n_173_14 : ∀ l, xpr 173 14 l = l := xpr_no (by decide +kernel)
theorem r_173_17 : xfetch 173 17 = some (.iload_n 1, 1) := by decide +kernel
theorem n_173_17 : ∀ l, xpr 173 17 l = l := xpr_no (by decide +kernel)
theorem r_173_18 : xfetch 173 18 = some (.aaload, 1) := by decide +kernel
theorem n_173_18 : ∀ l, xpr 173 18 l = l := xpr_no (by decide +kernel)
theorem r_173_19 : xfetch 173 19 = some (.astore 5, 2) := by decide +kernel
theorem n_173_19 : ∀ l, xpr 173 19 l = l := xpr_no (by decide +kernel)
theorem r_173_21 : xfetch 173 21 = some (.iconst 0, 1) := by decide +kernel
theorem n_173_21 : ∀ l, xpr 173 21 l = l := xpr_no (by decide +kernel)
theorem r_173_22 : xfetch 173 22 = some (.istore 6, 2) := by decide +kernel
theorem n_173_22 : ∀ l, xpr 173 22 l = l := xpr_no (by decide +kernel)
theorem r_173_24 : xfetch 173 24 = some (.sipush 1024, 3) := by decide +kernel
theorem n_173_24 : ∀ l, xpr 173 24 l = l := xpr_no (by decide +kernel)
theorem r_173_27 : xfetch 173 27 = some (.istore 7, 2) := by decide +kernel
theorem n_173_27 : ∀ l, xpr 173 27 l = l := xpr_no (by decide +kernel)
theorem r_173_29 : xfetch 173 29 = some (.iconst 0, 1) := by decide +kernel
theorem n_173_29 : ∀ l, xpr 173 29 l = l := xpr_no (by decide +kernel)
theorem r_173_30 : xfetch 173 30 = some (.istore 8, 2) := by decide +kernel
theorem n_173_30 : ∀ l, xpr 173 30 l = l := xpr_no (by decide +kernel)
theorem r_173_32 : xfetch 173 32 = some (.iload 8, 2) := by decide +kernel
theorem r_173_34 : xfetch 173 34 = some (.bipush 8, 2) := by decide +kernel
theorem n_173_34 : ∀ l, xpr 173 34 l = l := xpr_no (by decide +kernel)
theorem r_173_36 : xfetch 173 36 = some (.if_icmp .gt 93, 3) := by decide +kernel
theorem n_173_36 : ∀ l, xpr 173 36 l = l := xpr_no (by decide +kernel)
theorem r_173_39 : xfetch 173 39 = some (.aload_n 0, 1) := by decide +kernel
theorem n_173_39 : ∀ l, xpr 173 39 l = l := xpr_no (by decide +kernel)
theorem r_173_40 : xfetch 173 40 = some (.getfield 51, 3) := by decide +kernel
theorem n_173_40 : ∀ l, xpr 173 40 l = l := xpr_no (by decide +kernel)
theorem r_173_43 : xfetch 173 43 = some (.aload_n 0, 1) := by decide +kernel
theorem n_173_43 : ∀ l, xpr 173 43 l = l := xpr_no (by decide +kernel)
theorem r_173_44 : xfetch 173 44 = some (.getfield 18, 3) := by decide +kernel
theorem n_173_44 : ∀ l, xpr 173 44 l = l := xpr_no (by decide +kernel)
theorem r_173_47 : xfetch 173 47 = some (.aload 5, 2) := by decide +kernel
theorem n_173_47 : ∀ l, xpr 173 47 l = l := xpr_no (by decide +kernel)
theorem r_173_49 : xfetch 173 49 = some (.getfield 266, 3) := by decide +kernel
theorem n_173_49 : ∀ l, xpr 173 49 l = l := xpr_no (by decide +kernel)
theorem r_173_52 : xfetch 173 52 = some (.aaload, 1) := by decide +kernel
theorem n_173_52 : ∀ l, xpr 173 52 l = l := xpr_no (by decide +kernel)
theorem r_173_53 : xfetch 173 53 = some (.aload 5, 2) := by decide +kernel
theorem n_173_53 : ∀ l, xpr 173 53 l = l := xpr_no (by decide +kernel)
theorem r_173_55 : xfetch 173 55 = some (.getfield 269, 3) := by decide +kernel
theorem n_173_55 : ∀ l, xpr 173 55 l = l := xpr_no (by decide +kernel)
theorem r_173_58 : xfetch 173 58 = some (.iload 8, 2) := by decide +kernel
theorem n_173_58 : ∀ l, xpr 173 58 l = l := xpr_no (by decide +kernel)
theorem r_173_60 : xfetch 173 60 = some (.invokevirtual 244, 3) := by decide +kernel
theorem n_173_60 : ∀ l, xpr 173 60 l = l := xpr_no (by decide +kernel)
theorem r_173_63 : xfetch 173 63 = some (.aload_n 0, 1) := by decide +kernel
theorem n_173_63 : ∀ l, xpr 173 63 l = l := xpr_no (by decide +kernel)
theorem r_173_64 : xfetch 173 64 = some (.getfield 51, 3) := by decide +kernel
theorem n_173_64 : ∀ l, xpr 173 64 l = l := xpr_no (by decide +kernel)
theorem r_173_67 : xfetch 173 67 = some (.iconst 0, 1) := by decide +kernel
theorem n_173_67 : ∀ l, xpr 173 67 l = l := xpr_no (by decide +kernel)
theorem r_173_68 : xfetch 173 68 = some (.aload 5, 2) := by decide +kernel
theorem n_173_68 : ∀ l, xpr 173 68 l = l := xpr_no (by decide +kernel)
theorem r_173_70 : xfetch 173 70 = some (.getfield 275, 3) := by decide +kernel
theorem n_173_70 : ∀ l, xpr 173 70 l = l := xpr_no (by decide +kernel)
theorem r_173_73 : xfetch 173 73 = some (.invokevirtual 371, 3) := by decide +kernel
theorem n_173_73 : ∀ l, xpr 173 73 l = l := xpr_no (by decide +kernel)
theorem r_173_76 : xfetch 173 76 = some (.aload_n 0, 1) := by decide +kernel
theorem n_173_76 : ∀ l, xpr 173 76 l = l := xpr_no (by decide +kernel)
theorem r_173_77 : xfetch 173 77 = some (.getfield 51, 3) := by decide +kernel
theorem n_173_77 : ∀ l, xpr 173 77 l = l := xpr_no (by decide +kernel)
theorem r_173_80 : xfetch 173 80 = some (.aload_n 0, 1) := by decide +kernel
theorem n_173_80 : ∀ l, xpr 173 80 l = l := xpr_no (by decide +kernel)
theorem r_173_81 : xfetch 173 81 = some (.getfield 57, 3) := by decide +kernel
theorem n_173_81 : ∀ l, xpr 173 81 l = l := xpr_no (by decide +kernel)
theorem r_173_84 : xfetch 173 84 = some (.lload_n 2, 1) := by decide +kernel
theorem n_173_84 : ∀ l, xpr 173 84 l = l := xpr_no (by decide +kernel)
theorem r_173_85 : xfetch 173 85 = some (.iconst 0, 1) := by decide +kernel
theorem n_173_85 : ∀ l, xpr 173 85 l = l := xpr_no (by decide +kernel)
theorem r_173_86 : xfetch 173 86 = some (.aload 5, 2) := by decide +kernel
theorem n_173_86 : ∀ l, xpr 173 86 l = l := xpr_no (by decide +kernel)
theorem r_173_88 : xfetch 173 88 = some (.getfield 269, 3) := by decide +kernel
theorem n_173_88 : ∀ l, xpr 173 88 l = l := xpr_no (by decide +kernel)
theorem r_173_91 : xfetch 173 91 = some (.iconst 1, 1) := by decide +kernel
theorem n_173_91 : ∀ l, xpr 173 91 l = l := xpr_no (by decide +kernel)
theorem r_173_92 : xfetch 173 92 = some (.isub, 1) := by decide +kernel
theorem n_173_92 : ∀ l, xpr 173 92 l = l := xpr_no (by decide +kernel)
theorem r_173_93 : xfetch 173 93 = some (.iload 4, 2) := by decide +kernel
theorem n_173_93 : ∀ l, xpr 173 93 l = l := xpr_no (by decide +kernel)
theorem r_173_95 : xfetch 173 95 = some (.invokevirtual 362, 3) := by decide +kernel
theorem n_173_95 : ∀ l, xpr 173 95 l = l := xpr_no (by decide +kernel)
theorem r_173_98 : xfetch 173 98 = some (.aload_n 0, 1) := by decide +kernel
theorem n_173_98 : ∀ l, xpr 173 98 l = l := xpr_no (by decide +kernel)
theorem r_173_99 : xfetch 173 99 = some (.getfield 57, 3) := by decide +kernel
theorem n_173_99 : ∀ l, xpr 173 99 l = l := xpr_no (by decide +kernel)
theorem r_173_102 : xfetch 173 102 = some (.invokevirtual 366, 3) := by decide +kernel
theorem n_173_102 : ∀ l, xpr 173 102 l = l := xpr_no (by decide +kernel)
theorem r_173_105 : xfetch 173 105 = some (.iload 7, 2) := by decide +kernel
theorem n_173_105 : ∀ l, xpr 173 105 l = l := xpr_no (by decide +kernel)
theorem r_173_107 : xfetch 173 107 = some (.if_icmp .ge 16, 3) := by decide +kernel
theorem n_173_107 : ∀ l, xpr 173 107 l = l := xpr_no (by decide +kernel)
theorem r_173_110 : xfetch 173 110 = some (.aload_n 0, 1) := by decide +kernel
theorem n_173_110 : ∀ l, xpr 173 110 l = l := xpr_no (by decide +kernel)
theorem r_173_111 : xfetch 173 111 = some (.getfield 57, 3) := by decide +kernel
theorem n_173_111 : ∀ l, xpr 173 111 l = l := xpr_no (by decide +kernel)
theorem r_173_114 : xfetch 173 114 = some (.invokevirtual 366, 3) := by decide +kernel
theorem n_173_114 : ∀ l, xpr 173 114 l = l := xpr_no (by decide +kernel)
theorem r_173_117 : xfetch 173 117 = some (.istore 7, 2) := by decide +kernel
theorem n_173_117 : ∀ l, xpr 173 117 l = l := xpr_no (by decide +kernel)
theorem r_173_119 : xfetch 173 119 = some (.iload 8, 2) := by decide +kernel
theorem n_173_119 : ∀ l, xpr 173 119 l = l := xpr_no (by decide +kernel)
theorem r_173_121 : xfetch 173 121 = some (.istore 6, 2) := by decide +kernel
theorem n_173_121 : ∀ l, xpr 173 121 l = l := xpr_no (by decide +kernel)
theorem r_173_123 : xfetch 173 123 = some (.iinc 8 1, 3) := by decide +kernel
theorem n_173_123 : ∀ l, xpr 173 123 l = l := xpr_no (by decide +kernel)
theorem r_173_126 : xfetch 173 126 = some (.goto (-94), 3) := by decide +kernel
theorem n_173_126 : ∀ l, xpr 173 126 l = l := xpr_no (by decide +kernel)
theorem r_173_129 : xfetch 173 129 = some (.iload 6, 2) := by decide +kernel
theorem n_173_129 : ∀ l, xpr 173 129 l = l := xpr_no (by decide +kernel)
theorem r_173_131 : xfetch 173 131 = some (.ireturn, 1) := by decide +kernel
theorem n_173_131 : ∀ l, xpr 173 131 l = l := xpr_no (by decide +kernel)
theorem v_RL_bestLayout_0 {S : Option (Nat × (Nat → Int32))} {s : zSt} {Q : Option Value ⊕ Nat → zSt → Prop} {x1 : Int} {u2 : Int64} {x4 : Int} 
    (h : rng x1 ∧ ((0 ≤ x1 ∧ x1 < 3 ∧ zI s (31 + x1) 0 ≠ 0 → rng x4 ∧ ((x4 = 16 ∨ x4 = 32 ∨ x4 = 64 → (0 ≤ x1 ∧ x1 < 3) ∧ (wp S 173 32 [(0, rf 2), (2, .long u2), (4, iv x4), (5, rf (31 + x1)), (6, iv 0), (7, iv 1024), (8, iv 0)] [] s Q)) ∧ ((¬ (x4 = 16 ∨ x4 = 32 ∨ x4 = 64) → Q (rT 0) (zbump s))))) ∧ ((¬ (0 ≤ x1 ∧ x1 < 3 ∧ zI s (31 + x1) 0 ≠ 0) → Q (rT 2) (zbump s))))) :
    wp S 173 0 [(0, rf 2), (1, iv x1), (2, .long u2), (4, iv x4)] [] s Q := by
  refine i_aload_n (a := 2) r_173_0 (n_173_0 _) rfl ?_
  refine i_iload_n (x := x1) r_173_1 (n_173_1 _) rfl ?_
  obtain ⟨g1, h⟩ := h
  refine wp_virt (b := 2) (rest := []) (Ls := [(0, rf 2), (1, iv x1)]) r_173_2 (n_173_2 _) rfl ⟨rfl, rfl, by decide, by decide⟩ rfl rfl lf_2 ⟨rfl, Nat.le_of_ble_eq_true rfl, Nat.le_of_ble_eq_true rfl⟩ rfl (K_RL_checkTable g1) ?_
  rintro _ _ (⟨c2, rfl, rfl⟩ | ⟨c2, rfl, rfl⟩)
  · replace h := h.1 c2
    refine .inl ⟨none, rfl, ?_⟩
    show wp S 173 5 [(0, rf 2), (1, iv x1), (2, .long u2), (4, iv x4)] [] s Q
    refine i_iload (x := x4) r_173_5 (n_173_5 _) rfl ?_
    obtain ⟨g3, h⟩ := h
    refine wp_stat (rest := []) (Ls := [(0, iv x4)]) r_173_7 (n_173_7 _) rfl ⟨rfl, by decide, by decide, by decide⟩ rfl rfl ⟨rfl, Nat.le_of_ble_eq_true rfl, Nat.le_of_ble_eq_true rfl⟩ rfl (K_RL_checkLine g3) ?_
    rintro _ _ (⟨c4, rfl, rfl⟩ | ⟨c4, rfl, rfl⟩)
    · replace h := h.1 c4
      refine .inl ⟨none, rfl, ?_⟩
      show wp S 173 10 [(0, rf 2), (1, iv x1), (2, .long u2), (4, iv x4)] [] s Q
      refine i_aload_n (a := 2) r_173_10 (n_173_10 _) rfl ?_
      refine i_getR (a := 2) (b := 3) r_173_11 (n_173_11 _) rfl rfl rfl (by omega) lf_2 (by omega) ?_
      refine i_getR (a := 3) (b := 5) r_173_14 (n_173_14 _) rfl rfl rfl (by omega) lf_3 (by omega) ?_
      refine i_iload_n (x := x1) r_173_17 (n_173_17 _) rfl ?_
      obtain ⟨g5, h⟩ := h
      refine i_aaload (c := 6) (a := 5) (j := x1) (b := 31 + x1) r_173_18 (n_173_18 _) lf_5 ⟨by omega, by omega⟩ (by omega) (by omega) rfl (by omega) ?_
      have t6 := e_6 (j := x1) lf_5 (by omega) (by omega)
      rw [show 5 + 26 + 1 * x1 = 31 + x1 by omega] at t6
      refine i_astore (l' := [(0, rf 2), (1, iv x1), (2, .long u2), (4, iv x4), (5, rf (31 + x1))]) r_173_19 (n_173_19 _) (by decide) rfl ?_
      refine i_iconst r_173_21 (n_173_21 _) ?_
      refine i_istore (l' := [(0, rf 2), (1, iv x1), (2, .long u2), (4, iv x4), (5, rf (31 + x1)), (6, iv 0)]) r_173_22 (n_173_22 _) (by decide) rfl ?_
      refine i_sipush r_173_24 (n_173_24 _) rfl ?_
      refine i_istore (l' := [(0, rf 2), (1, iv x1), (2, .long u2), (4, iv x4), (5, rf (31 + x1)), (6, iv 0), (7, iv 1024)]) r_173_27 (n_173_27 _) (by decide) rfl ?_
      refine i_iconst r_173_29 (n_173_29 _) ?_
      refine i_istore (l' := [(0, rf 2), (1, iv x1), (2, .long u2), (4, iv x4), (5, rf (31 + x1)), (6, iv 0), (7, iv 1024), (8, iv 0)]) r_173_30 (n_173_30 _) (by decide) rfl ?_
      exact wp_pr (l' := [(0, rf 2), (2, .long u2), (4, iv x4), (5, rf (31 + x1)), (6, iv 0), (7, iv 1024), (8, iv 0)]) rfl h
    · replace h := h.2 c4
      exact .inr ⟨_, rfl, rfl, .inl ⟨rfl, h⟩⟩
  · replace h := h.2 c2
    exact .inr ⟨_, rfl, .inl ⟨rfl, h⟩⟩
theorem v_RL_bestLayout_32 {S : Option (Nat × (Nat → Int32))} {s : zSt} {Q : Option Value ⊕ Nat → zSt → Prop} {u2 : Int64} {x4 : Int} {a5 : Int} {x6 : Int} {x7 : Int} {x8 : Int} (ha5 : isO a5 6)
    (h : rng x8 ∧ ((8 < x8 → Q (rI x6) s) ∧ (x8 ≤ 8 → (0 ≤ (zI s a5 1) ∧ (zI s a5 1) < 6) ∧ (wp S 107 0 [(0, rf 53), (1, rf (62 + 11 * (zI s a5 1))), (2, iv (zI s a5 2)), (3, iv x8)] [] s (fun o7 s7 => zkU (wp S 163 0 [(0, rf 53), (1, rf 58), (2, .long u2), (4, iv 0), (5, iv ((zI (zwI (zwI s7 53 0 0) 53 1 (zI s7 a5 4)) a5 2) - 1)), (6, iv x4)] [] (zwI (zwI s7 53 0 0) 53 1 (zI s7 a5 4)) (fun o12 s12 => zkU (wp S 167 0 [(0, rf 58)] [] s12 (fun o14 s14 => zkI (fun y14 => rng x7 ∧ ((x7 ≤ y14 → wp S 173 32 [(0, rf 2), (2, .long u2), (4, iv x4), (5, rf a5), (6, iv x6), (7, iv x7), (8, iv (x8 + 1))] [] s14 Q) ∧ (y14 < x7 → wp S 167 0 [(0, rf 58)] [] s14 (fun o18 s18 => zkI (fun y18 => wp S 173 32 [(0, rf 2), (2, .long u2), (4, iv x4), (5, rf a5), (6, iv x8), (7, iv y18), (8, iv (x8 + 1))] [] s18 Q) (fun e18 => False) o18)))) (fun e14 => False) o14)) (fun e12 => False) o12)) (fun e7 => False) o7))))) :
    wp S 173 32 [(0, rf 2), (2, .long u2), (4, iv x4), (5, rf a5), (6, iv x6), (7, iv x7), (8, iv x8)] [] s Q := by
  refine i_iload (x := x8) r_173_32 rfl rfl ?_
  refine i_bipush r_173_34 (n_173_34 _) rfl ?_
  obtain ⟨g1, h⟩ := h
  refine i_icmp (t := 129) r_173_36 (n_173_36 _) rfl (T_gt g1 ⟨by omega, by omega⟩) (fun c2 => ?_) (fun c2 => ?_)
  · replace h := h.1 c2
    refine i_iload (x := x6) r_173_129 (n_173_129 _) rfl ?_
    exact i_ireturn r_173_131 (n_173_131 _) rfl h
  · replace h := h.2 c2
    refine i_aload_n (a := 2) r_173_39 (n_173_39 _) rfl ?_
    refine i_getR (a := 2) (b := 53) r_173_40 (n_173_40 _) rfl rfl rfl (by omega) lf_2 (by omega) ?_
    refine i_aload_n (a := 2) r_173_43 (n_173_43 _) rfl ?_
    refine i_getR (a := 2) (b := 34) r_173_44 (n_173_44 _) rfl rfl rfl (by omega) lf_2 (by omega) ?_
    refine i_aload (a := a5) r_173_47 (n_173_47 _) rfl ?_
    refine i_getI (a := a5) r_173_49 (n_173_49 _) rfl (by decide) ha5 (fun q3 => ?_)
    obtain ⟨g4, h⟩ := h
    refine i_aaload (c := 4) (a := 34) (j := zI s a5 1) (b := 62 + 11 * (zI s a5 1)) r_173_52 (n_173_52 _) lf_34 ⟨by omega, by omega⟩ (by omega) (by omega) rfl (by omega) ?_
    have t5 := e_4 (j := zI s a5 1) lf_34 (by omega) (by omega)
    rw [show 34 + 28 + 11 * (zI s a5 1) = 62 + 11 * (zI s a5 1) by omega] at t5
    refine i_aload (a := a5) r_173_53 (n_173_53 _) rfl ?_
    refine i_getI (a := a5) r_173_55 (n_173_55 _) rfl (by decide) ha5 (fun q6 => ?_)
    refine i_iload (x := x8) r_173_58 (n_173_58 _) rfl ?_
    refine wp_virt (b := 53) (rest := []) (Ls := [(0, rf 53), (1, rf (62 + 11 * (zI s a5 1))), (2, iv (zI s a5 2)), (3, iv x8)]) r_173_60 (n_173_60 _) rfl ⟨rfl, rfl, by decide, by decide⟩ rfl rfl lf_53 ⟨rfl, Nat.le_of_ble_eq_true rfl, Nat.le_of_ble_eq_true rfl⟩ rfl h ?_
    intro o7 s7 h
    rcases h with ⟨rfl, h⟩ | ⟨e7, rfl, h⟩
    · refine .inl ⟨none, rfl, ?_⟩
      refine i_aload_n (a := 2) r_173_63 (n_173_63 _) rfl ?_
      refine i_getR (a := 2) (b := 53) r_173_64 (n_173_64 _) rfl rfl rfl (by omega) lf_2 (by omega) ?_
      refine i_iconst r_173_67 (n_173_67 _) ?_
      refine i_aload (a := a5) r_173_68 (n_173_68 _) rfl ?_
      refine i_getI (a := a5) r_173_70 (n_173_70 _) rfl (by decide) ha5 (fun q9 => ?_)
      refine wp_virt (b := 53) (rest := []) (Ls := [(0, rf 53), (1, iv 0), (2, iv (zI s7 a5 4))]) r_173_73 (n_173_73 _) rfl ⟨rfl, rfl, by decide, by decide⟩ rfl rfl lf_53 ⟨rfl, Nat.le_of_ble_eq_true rfl, Nat.le_of_ble_eq_true rfl⟩ rfl (K_View_moveTo lf_53 ⟨by omega, by omega⟩ q9) ?_
      rintro _ _ ⟨rfl, rfl⟩
      refine .inl ⟨none, rfl, ?_⟩
      show wp S 173 76 [(0, rf 2), (2, .long u2), (4, iv x4), (5, rf a5), (6, iv x6), (7, iv x7), (8, iv x8)] [] (zwI (zwI s7 53 0 0) 53 1 (zI s7 a5 4)) Q
      refine i_aload_n (a := 2) r_173_76 (n_173_76 _) rfl ?_
      refine i_getR (a := 2) (b := 53) r_173_77 (n_173_77 _) rfl rfl rfl (by omega) lf_2 (by omega) ?_
      refine i_aload_n (a := 2) r_173_80 (n_173_80 _) rfl ?_
      refine i_getR (a := 2) (b := 58) r_173_81 (n_173_81 _) rfl rfl rfl (by omega) lf_2 (by omega) ?_
      refine i_lload_n (u := u2) r_173_84 (n_173_84 _) rfl ?_
      refine i_iconst r_173_85 (n_173_85 _) ?_
      refine i_aload (a := a5) r_173_86 (n_173_86 _) rfl ?_
      refine i_getI (a := a5) r_173_88 (n_173_88 _) rfl (by decide) ha5 (fun q11 => ?_)
      refine i_iconst r_173_91 (n_173_91 _) ?_
      refine i_isub r_173_92 (n_173_92 _) ?_
      refine i_iload (x := x4) r_173_93 (n_173_93 _) rfl ?_
      refine wp_virt (b := 53) (rest := []) (Ls := [(0, rf 53), (1, rf 58), (2, .long u2), (4, iv 0), (5, iv ((zI (zwI (zwI s7 53 0 0) 53 1 (zI s7 a5 4)) a5 2) - 1)), (6, iv x4)]) r_173_95 (n_173_95 _) rfl ⟨rfl, rfl, by decide, by decide⟩ rfl rfl lf_53 ⟨rfl, Nat.le_of_ble_eq_true rfl, Nat.le_of_ble_eq_true rfl⟩ rfl h ?_
      intro o12 s12 h
      rcases h with ⟨rfl, h⟩ | ⟨e12, rfl, h⟩
      · refine .inl ⟨none, rfl, ?_⟩
        refine i_aload_n (a := 2) r_173_98 (n_173_98 _) rfl ?_
        refine i_getR (a := 2) (b := 58) r_173_99 (n_173_99 _) rfl rfl rfl (by omega) lf_2 (by omega) ?_
        refine wp_virt (b := 58) (rest := []) (Ls := [(0, rf 58)]) r_173_102 (n_173_102 _) rfl ⟨rfl, rfl, by decide, by decide⟩ rfl rfl lf_58 ⟨rfl, Nat.le_of_ble_eq_true rfl, Nat.le_of_ble_eq_true rfl⟩ rfl h ?_
        intro o14 s14 h
        rcases h with ⟨y14, q15, rfl, h⟩ | ⟨e14, rfl, h⟩
        · refine .inl ⟨some (iv y14), rfl, ?_⟩
          show wp S 173 105 [(0, rf 2), (2, .long u2), (4, iv x4), (5, rf a5), (6, iv x6), (7, iv x7), (8, iv x8)] [iv y14] s14 Q
          refine i_iload (x := x7) r_173_105 (n_173_105 _) rfl ?_
          obtain ⟨g16, h⟩ := h
          refine i_icmp (t := 123) r_173_107 (n_173_107 _) rfl (T_ge q15 g16) (fun c17 => ?_) (fun c17 => ?_)
          · replace h := h.1 c17
            refine i_iinc (x := x8) (l' := [(0, rf 2), (2, .long u2), (4, iv x4), (5, rf a5), (6, iv x6), (7, iv x7), (8, iv (x8 + 1))]) r_173_123 (n_173_123 _) (by decide) rfl rfl ?_
            refine i_goto (t := 32) r_173_126 (n_173_126 _) rfl ?_
            exact wp_pr (l' := [(0, rf 2), (2, .long u2), (4, iv x4), (5, rf a5), (6, iv x6), (7, iv x7), (8, iv (x8 + 1))]) rfl h
          · replace h := h.2 c17
            refine i_aload_n (a := 2) r_173_110 (n_173_110 _) rfl ?_
            refine i_getR (a := 2) (b := 58) r_173_111 (n_173_111 _) rfl rfl rfl (by omega) lf_2 (by omega) ?_
            refine wp_virt (b := 58) (rest := []) (Ls := [(0, rf 58)]) r_173_114 (n_173_114 _) rfl ⟨rfl, rfl, by decide, by decide⟩ rfl rfl lf_58 ⟨rfl, Nat.le_of_ble_eq_true rfl, Nat.le_of_ble_eq_true rfl⟩ rfl h ?_
            intro o18 s18 h
            rcases h with ⟨y18, q19, rfl, h⟩ | ⟨e18, rfl, h⟩
            · refine .inl ⟨some (iv y18), rfl, ?_⟩
              show wp S 173 117 [(0, rf 2), (2, .long u2), (4, iv x4), (5, rf a5), (6, iv x6), (7, iv x7), (8, iv x8)] [iv y18] s18 Q
              refine i_istore (l' := [(0, rf 2), (2, .long u2), (4, iv x4), (5, rf a5), (6, iv x6), (7, iv y18), (8, iv x8)]) r_173_117 (n_173_117 _) (by decide) rfl ?_
              refine i_iload (x := x8) r_173_119 (n_173_119 _) rfl ?_
              refine i_istore (l' := [(0, rf 2), (2, .long u2), (4, iv x4), (5, rf a5), (6, iv x8), (7, iv y18), (8, iv x8)]) r_173_121 (n_173_121 _) (by decide) rfl ?_
              refine i_iinc (x := x8) (l' := [(0, rf 2), (2, .long u2), (4, iv x4), (5, rf a5), (6, iv x8), (7, iv y18), (8, iv (x8 + 1))]) r_173_123 (n_173_123 _) (by decide) rfl rfl ?_
              refine i_goto (t := 32) r_173_126 (n_173_126 _) rfl ?_
              exact wp_pr (l' := [(0, rf 2), (2, .long u2), (4, iv x4), (5, rf a5), (6, iv x8), (7, iv y18), (8, iv (x8 + 1))]) rfl h
            · skip
              exact h.elim
        · skip
          exact h.elim
      · skip
        exact h.elim
    · skip
      exact h.elim
theorem r_175_0 : xfetch 175 0 = some (.aload_n 0, 1) := by decide +kernel
theorem n_175_0 : ∀ l, xpr 175 0 l = l := xpr_no (by decide +kernel)
theorem r_175_1 : xfetch 175 1 = some (.getfield 374, 3) := by decide +kernel
theorem n_175_1 : ∀ l, xpr 175 1 l = l := xpr_no (by decide +kernel)
theorem r_175_4 : xfetch 175 4 = some (.iconst 1, 1) := by decide +kernel
theorem n_175_4 : ∀ l, xpr 175 4 l = l := xpr_no (by decide +kernel)
theorem r_175_5 : xfetch 175 5 = some (.if_icmp .ge 14, 3) := by decide +kernel
theorem n_175_5 : ∀ l, xpr 175 5 l = l := xpr_no (by decide +kernel)
theorem r_175_8 : xfetch 175 8 = some (.new 137, 3) := by decide +kernel
theorem n_175_8 : ∀ l, xpr 175 8 l = l := xpr_no (by decide +kernel)
theorem r_175_19 : xfetch 175 19 = some (.aload_n 0, 1) := by decide +kernel
theorem n_175_19 : ∀ l, xpr 175 19 l = l := xpr_no (by decide +kernel)
theorem r_175_20 : xfetch 175 20 = some (.dup, 1) := by decide +kernel
theorem n_175_20 : ∀ l, xpr 175 20 l = l := xpr_no (by decide +kernel)
theorem r_175_21 : xfetch 175 21 = some (.getfield 374, 3) := by decide +kernel
theorem n_175_21 : ∀ l, xpr 175 21 l = l := xpr_no (by decide +kernel)
theorem r_175_24 : xfetch 175 24 = some (.iconst 1, 1) := by decide +kernel
theorem n_175_24 : ∀ l, xpr 175 24 l = l := xpr_no (by decide +kernel)
theorem r_175_25 : xfetch 175 25 = some (.isub, 1) := by decide +kernel
theorem n_175_25 : ∀ l, xpr 175 25 l = l := xpr_no (by decide +kernel)
theorem r_175_26 : xfetch 175 26 = some (.putfield 374, 3) := by decide +kernel
theorem n_175_26 : ∀ l, xpr 175 26 l = l := xpr_no (by decide +kernel)
theorem r_175_29 : xfetch 175 29 = some (.aload_n 0, 1) := by decide +kernel
theorem n_175_29 : ∀ l, xpr 175 29 l = l := xpr_no (by decide +kernel)
theorem r_175_30 : xfetch 175 30 = some (.iconst (-1), 1) := by decide +kernel
theorem n_175_30 : ∀ l, xpr 175 30 l = l := xpr_no (by decide +kernel)
theorem r_175_31 : xfetch 175 31 = some (.putfield 40, 3) := by decide +kernel
theorem n_175_31 : ∀ l, xpr 175 31 l = l := xpr_no (by decide +kernel)
theorem r_175_34 : xfetch 175 34 = some (.aload_n 0, 1) := by decide +kernel
theorem n_175_34 : ∀ l, xpr 175 34 l = l := xpr_no (by decide +kernel)
theorem r_175_35 : xfetch 175 35 = some (.getfield 10, 3) := by decide +kernel
theorem n_175_35 : ∀ l, xpr 175 35 l = l := xpr_no (by decide +kernel)
theorem r_175_38 : xfetch 175 38 = some (.aload_n 0, 1) := by decide +kernel
theorem n_175_38 : ∀ l, xpr 175 38 l = l := xpr_no (by decide +kernel)
theorem r_175_39 : xfetch 175 39 = some (.getfield 22, 3) := by decide +kernel
theorem n_175_39 : ∀ l, xpr 175 39 l = l := xpr_no (by decide +kernel)
theorem r_175_42 : xfetch 175 42 = some (.aload_n 0, 1) := by decide +kernel
theorem n_175_42 : ∀ l, xpr 175 42 l = l := xpr_no (by decide +kernel)
theorem r_175_43 : xfetch 175 43 = some (.getfield 379, 3) := by decide +kernel
theorem n_175_43 : ∀ l, xpr 175 43 l = l := xpr_no (by decide +kernel)
theorem r_175_46 : xfetch 175 46 = some (.aload_n 0, 1) := by decide +kernel
theorem n_175_46 : ∀ l, xpr 175 46 l = l := xpr_no (by decide +kernel)
theorem r_175_47 : xfetch 175 47 = some (.getfield 374, 3) := by decide +kernel
theorem n_175_47 : ∀ l, xpr 175 47 l = l := xpr_no (by decide +kernel)
theorem r_175_50 : xfetch 175 50 = some (.iadd, 1) := by decide +kernel
theorem n_175_50 : ∀ l, xpr 175 50 l = l := xpr_no (by decide +kernel)
theorem r_175_51 : xfetch 175 51 = some (.iconst 4, 1) := by decide +kernel
theorem n_175_51 : ∀ l, xpr 175 51 l = l := xpr_no (by decide +kernel)
theorem r_175_52 : xfetch 175 52 = some (.irem, 1) := by decide +kernel
theorem n_175_52 : ∀ l, xpr 175 52 l = l := xpr_no (by decide +kernel)
theorem r_175_53 : xfetch 175 53 = some (.aaload, 1) := by decide +kernel
theorem n_175_53 : ∀ l, xpr 175 53 l = l := xpr_no (by decide +kernel)
theorem r_175_54 : xfetch 175 54 = some (.invokevirtual 382, 3) := by decide +kernel
theorem n_175_54 : ∀ l, xpr 175 54 l = l := xpr_no (by decide +kernel)
theorem r_175_57 : xfetch 175 57 = some (.iconst 0, 1) := by decide +kernel
theorem n_175_57 : ∀ l, xpr 175 57 l = l := xpr_no (by decide +kernel)
theorem r_175_58 : xfetch 175 58 = some (.istore_n 1, 1) := by decide +kernel
theorem n_175_58 : ∀ l, xpr 175 58 l = l := xpr_no (by decide +kernel)
theorem r_175_59 : xfetch 175 59 = some (.iload_n 1, 1) := by decide +kernel
theorem r_175_60 : xfetch 175 60 = some (.aload_n 0, 1) := by decide +kernel
theorem n_175_60 : ∀ l, xpr 175 60 l = l := xpr_no (by decide +kernel)
theorem r_175_61 : xfetch 175 61 = some (.getfield 10, 3) := by decide +kernel
theorem n_175_61 : ∀ l, xpr 175 61 l = l := xpr_no (by decide +kernel)
theorem r_175_64 : xfetch 175 64 = some (.getfield 80, 3) := by decide +kernel
theorem n_175_64 : ∀ l, xpr 175 64 l = l := xpr_no (by decide +kernel)
theorem r_175_67 : xfetch 175 67 = some (.if_icmp .ge 14, 3) := by decide +kernel
theorem n_175_67 : ∀ l, xpr 175 67 l = l := xpr_no (by decide +kernel)
theorem r_175_70 : xfetch 175 70 = some (.aload_n 0, 1) := by decide +kernel
theorem n_175_70 : ∀ l, xpr 175 70 l = l := xpr_no (by decide +kernel)
theorem r_175_71 : xfetch 175 71 = some (.iload_n 1, 1) := by decide +kernel
theorem n_175_71 : ∀ l, xpr 175 71 l = l := xpr_no (by decide +kernel)
theorem r_175_72 : xfetch 175 72 = some (.invokevirtual 92, 3) := by decide +kernel
theorem n_175_72 : ∀ l, xpr 175 72 l = l := xpr_no (by decide +kernel)
theorem r_175_75 : xfetch 175 75 = some (.iinc 1 1, 3) := by decide +kernel
theorem n_175_75 : ∀ l, xpr 175 75 l = l := xpr_no (by decide +kernel)
theorem r_175_78 : xfetch 175 78 = some (.goto (-19), 3) := by decide +kernel
theorem n_175_78 : ∀ l, xpr 175 78 l = l := xpr_no (by decide +kernel)
theorem r_175_81 : xfetch 175 81 = some (.aload_n 0, 1) := by decide +kernel
theorem n_175_81 : ∀ l, xpr 175 81 l = l := xpr_no (by decide +kernel)
theorem r_175_82 : xfetch 175 82 = some (.getfield 374, 3) := by decide +kernel
theorem n_175_82 : ∀ l, xpr 175 82 l = l := xpr_no (by decide +kernel)
theorem r_175_85 : xfetch 175 85 = some (.ireturn, 1) := by decide +kernel
theorem n_175_85 : ∀ l, xpr 175 85 l = l := xpr_no (by decide +kernel)
theorem v_RL_undo_0 {S : Option (Nat × (Nat → Int32))} {s : zSt} {Q : Option Value ⊕ Nat → zSt → Prop}  
    (h : (1 ≤ (zI s 2 4) → rng ((zI s 2 4) - 1) ∧ (rng ((zI s 2 3) + ((zI s 2 4) - 1)) ∧ (0 ≤ ((zI s 2 3) + ((zI s 2 4) - 1)) ∧ ((0 ≤ (((zI s 2 3) + ((zI s 2 4) - 1)) % 4) ∧ (((zI s 2 3) + ((zI s 2 4) - 1)) % 4) < 4) ∧ (wp S 19 0 [(0, rf 3), (1, rf (128 + 31 * (((zI s 2 3) + ((zI s 2 4) - 1)) % 4)))] [] (zwI (zwI s 2 4 ((zI s 2 4) - 1)) 2 7 (-1)) (fun o13 s13 => zkU (wp S 175 59 [(0, rf 2), (1, iv 0)] [] s13 Q) (fun e13 => False) o13)))))) ∧ ((zI s 2 4) < 1 → Q (rT 1) (zbump s))) :
    wp S 175 0 [(0, rf 2)] [] s Q := by
  refine i_aload_n (a := 2) r_175_0 (n_175_0 _) rfl ?_
  refine i_getI (a := 2) r_175_1 (n_175_1 _) rfl (by decide) lf_2 (fun q1 => ?_)
  refine i_iconst r_175_4 (n_175_4 _) ?_
  refine i_icmp (t := 19) r_175_5 (n_175_5 _) rfl (T_ge q1 ⟨by omega, by omega⟩) (fun c2 => ?_) (fun c2 => ?_)
  · replace h := h.1 c2
    refine i_aload_n (a := 2) r_175_19 (n_175_19 _) rfl ?_
    refine i_dup r_175_20 (n_175_20 _) rfl ?_
    refine i_getI (a := 2) r_175_21 (n_175_21 _) rfl (by decide) lf_2 (fun q3 => ?_)
    refine i_iconst r_175_24 (n_175_24 _) ?_
    refine i_isub r_175_25 (n_175_25 _) ?_
    obtain ⟨g4, h⟩ := h
    refine i_putI (a := 2) (x := (zI s 2 4) - 1) r_175_26 (n_175_26 _) rfl (.inl rfl) rfl lf_2 g4 ?_
    refine i_aload_n (a := 2) r_175_29 (n_175_29 _) rfl ?_
    refine i_iconst r_175_30 (n_175_30 _) ?_
    refine i_putI (a := 2) (x := (-1)) r_175_31 (n_175_31 _) rfl (.inl rfl) rfl lf_2 ⟨by omega, by omega⟩ ?_
    refine i_aload_n (a := 2) r_175_34 (n_175_34 _) rfl ?_
    refine i_getR (a := 2) (b := 3) r_175_35 (n_175_35 _) rfl rfl rfl (by omega) lf_2 (by omega) ?_
    refine i_aload_n (a := 2) r_175_38 (n_175_38 _) rfl ?_
    refine i_getR (a := 2) (b := 35) r_175_39 (n_175_39 _) rfl rfl rfl (by omega) lf_2 (by omega) ?_
    refine i_aload_n (a := 2) r_175_42 (n_175_42 _) rfl ?_
    have e6 : zI (zwI (zwI s 2 4 ((zI s 2 4) - 1)) 2 7 (-1)) 2 3 = zI s 2 3 := (zI_nj (by omega)).trans (zI_nj (by omega))
    refine i_getIe (a := 2) (x := zI s 2 3) r_175_43 (n_175_43 _) rfl (by decide) lf_2 e6 (fun q5 => ?_)
    refine i_aload_n (a := 2) r_175_46 (n_175_46 _) rfl ?_
    have e8 : zI (zwI (zwI s 2 4 ((zI s 2 4) - 1)) 2 7 (-1)) 2 4 = (zI s 2 4) - 1 := (zI_nj (by omega)).trans (zI_eq)
    refine i_getIe (a := 2) (x := (zI s 2 4) - 1) r_175_47 (n_175_47 _) rfl (by decide) lf_2 e8 (fun q7 => ?_)
    refine i_iadd r_175_50 (n_175_50 _) ?_
    refine i_iconst r_175_51 (n_175_51 _) ?_
    obtain ⟨g9, h⟩ := h
    obtain ⟨g10, h⟩ := h
    refine i_irem r_175_52 (n_175_52 _) g9 ⟨by omega, by omega⟩ (by omega) (by omega) ?_
    obtain ⟨g11, h⟩ := h
    refine i_aaload (c := 5) (a := 35) (j := ((zI s 2 3) + ((zI s 2 4) - 1)) % 4) (b := 128 + 31 * (((zI s 2 3) + ((zI s 2 4) - 1)) % 4)) r_175_53 (n_175_53 _) lf_35 ⟨by omega, by omega⟩ (by omega) (by omega) rfl (by omega) ?_
    have t12 := e_5 (j := ((zI s 2 3) + ((zI s 2 4) - 1)) % 4) lf_35 (by omega) (by omega)
    rw [show 35 + 93 + 31 * (((zI s 2 3) + ((zI s 2 4) - 1)) % 4) = 128 + 31 * (((zI s 2 3) + ((zI s 2 4) - 1)) % 4) by omega] at t12
    refine wp_virt (b := 3) (rest := []) (Ls := [(0, rf 3), (1, rf (128 + 31 * (((zI s 2 3) + ((zI s 2 4) - 1)) % 4)))]) r_175_54 (n_175_54 _) rfl ⟨rfl, rfl, by decide, by decide⟩ rfl rfl lf_3 ⟨rfl, Nat.le_of_ble_eq_true rfl, Nat.le_of_ble_eq_true rfl⟩ rfl h ?_
    intro o13 s13 h
    rcases h with ⟨rfl, h⟩ | ⟨e13, rfl, h⟩
    · refine .inl ⟨none, rfl, ?_⟩
      refine i_iconst r_175_57 (n_175_57 _) ?_
      refine i_istore_n (l' := [(0, rf 2), (1, iv 0)]) r_175_58 (n_175_58 _) (by decide) rfl ?_
      exact wp_pr (l' := [(0, rf 2), (1, iv 0)]) rfl h
    · skip
      exact h.elim
  · replace h := h.2 c2
    exact i_throw r_175_8 (n_175_8 _) rfl (by decide) h
theorem v_RL_undo_59 {S : Option (Nat × (Nat → Int32))} {s : zSt} {Q : Option Value ⊕ Nat → zSt → Prop} {x1 : Int} 
    (h : rng x1 ∧ (((zI s 3 0) ≤ x1 → Q (rI (zI s 2 4)) s) ∧ (x1 < (zI s 3 0) → wp S 39 0 [(0, rf 2), (1, iv x1)] [] s (fun o5 s5 => zkU (wp S 175 59 [(0, rf 2), (1, iv (x1 + 1))] [] s5 Q) (fun e5 => False) o5)))) :
    wp S 175 59 [(0, rf 2), (1, iv x1)] [] s Q := by
  refine i_iload_n (x := x1) r_175_59 rfl rfl ?_
  refine i_aload_n (a := 2) r_175_60 (n_175_60 _) rfl ?_
  refine i_getR (a := 2) (b := 3) r_175_61 (n_175_61 _) rfl rfl rfl (by omega) lf_2 (by omega) ?_
  refine i_getI (a := 3) r_175_64 (n_175_64 _) rfl (by decide) lf_3 (fun q1 => ?_)
  obtain ⟨g2, h⟩ := h
  refine i_icmp (t := 81) r_175_67 (n_175_67 _) rfl (T_ge g2 q1) (fun c3 => ?_) (fun c3 => ?_)
  · replace h := h.1 c3
    refine i_aload_n (a := 2) r_175_81 (n_175_81 _) rfl ?_
    refine i_getI (a := 2) r_175_82 (n_175_82 _) rfl (by decide) lf_2 (fun q4 => ?_)
    exact i_ireturn r_175_85 (n_175_85 _) rfl h
  · replace h := h.2 c3
    refine i_aload_n (a := 2) r_175_70 (n_175_70 _) rfl ?_
    refine i_iload_n (x := x1) r_175_71 (n_175_71 _) rfl ?_
    refine wp_virt (b := 2) (rest := []) (Ls := [(0, rf 2), (1, iv x1)]) r_175_72 (n_175_72 _) rfl ⟨rfl, rfl, by decide, by decide⟩ rfl rfl lf_2 ⟨rfl, Nat.le_of_ble_eq_true rfl, Nat.le_of_ble_eq_true rfl⟩ rfl h ?_
    intro o5 s5 h
    rcases h with ⟨rfl, h⟩ | ⟨e5, rfl, h⟩
    · refine .inl ⟨none, rfl, ?_⟩
      refine i_iinc (x := x1) (l' := [(0, rf 2), (1, iv (x1 + 1))]) r_175_75 (n_175_75 _) (by decide) rfl rfl ?_
      refine i_goto (t := 59) r_175_78 (n_175_78 _) rfl ?_
      exact wp_pr (l' := [(0, rf 2), (1, iv (x1 + 1))]) rfl h
    · skip
      exact h.elim

theorem r_260_0 : xfetch 260 0 = some (.bipush 40, 2) := by decide +kernel
theorem n_260_0 : ∀ l, xpr 260 0 l = l := xpr_no (by decide +kernel)
theorem r_260_2 : xfetch 260 2 = some (.iload_n 2, 1) := by decide +kernel
theorem n_260_2 : ∀ l, xpr 260 2 l = l := xpr_no (by decide +kernel)
theorem r_260_3 : xfetch 260 3 = some (.imul, 1) := by decide +kernel
theorem n_260_3 : ∀ l, xpr 260 3 l = l := xpr_no (by decide +kernel)
theorem r_260_4 : xfetch 260 4 = some (.iload_n 3, 1) := by decide +kernel
theorem n_260_4 : ∀ l, xpr 260 4 l = l := xpr_no (by decide +kernel)
theorem r_260_5 : xfetch 260 5 = some (.iadd, 1) := by decide +kernel
theorem n_260_5 : ∀ l, xpr 260 5 l = l := xpr_no (by decide +kernel)
theorem r_260_6 : xfetch 260 6 = some (.istore 4, 2) := by decide +kernel
theorem n_260_6 : ∀ l, xpr 260 6 l = l := xpr_no (by decide +kernel)
theorem r_260_8 : xfetch 260 8 = some (.iconst 0, 1) := by decide +kernel
theorem n_260_8 : ∀ l, xpr 260 8 l = l := xpr_no (by decide +kernel)
theorem r_260_9 : xfetch 260 9 = some (.istore 5, 2) := by decide +kernel
theorem n_260_9 : ∀ l, xpr 260 9 l = l := xpr_no (by decide +kernel)
theorem r_260_11 : xfetch 260 11 = some (.iload 5, 2) := by decide +kernel
theorem r_260_13 : xfetch 260 13 = some (.aload_n 0, 1) := by decide +kernel
theorem n_260_13 : ∀ l, xpr 260 13 l = l := xpr_no (by decide +kernel)
theorem r_260_14 : xfetch 260 14 = some (.getfield 19, 3) := by decide +kernel
theorem n_260_14 : ∀ l, xpr 260 14 l = l := xpr_no (by decide +kernel)
theorem r_260_17 : xfetch 260 17 = some (.iload_n 1, 1) := by decide +kernel
theorem n_260_17 : ∀ l, xpr 260 17 l = l := xpr_no (by decide +kernel)
theorem r_260_18 : xfetch 260 18 = some (.iaload, 1) := by decide +kernel
theorem n_260_18 : ∀ l, xpr 260 18 l = l := xpr_no (by decide +kernel)
theorem r_260_19 : xfetch 260 19 = some (.if_icmp .ge 112, 3) := by decide +kernel
theorem n_260_19 : ∀ l, xpr 260 19 l = l := xpr_no (by decide +kernel)
theorem r_260_22 : xfetch 260 22 = some (.bipush 40, 2) := by decide +kernel
theorem n_260_22 : ∀ l, xpr 260 22 l = l := xpr_no (by decide +kernel)
theorem r_260_24 : xfetch 260 24 = some (.iload_n 1, 1) := by decide +kernel
theorem n_260_24 : ∀ l, xpr 260 24 l = l := xpr_no (by decide +kernel)
theorem r_260_25 : xfetch 260 25 = some (.imul, 1) := by decide +kernel
theorem n_260_25 : ∀ l, xpr 260 25 l = l := xpr_no (by decide +kernel)
theorem r_260_26 : xfetch 260 26 = some (.iload 5, 2) := by decide +kernel
theorem n_260_26 : ∀ l, xpr 260 26 l = l := xpr_no (by decide +kernel)
theorem r_260_28 : xfetch 260 28 = some (.iadd, 1) := by decide +kernel
theorem n_260_28 : ∀ l, xpr 260 28 l = l := xpr_no (by decide +kernel)
theorem r_260_29 : xfetch 260 29 = some (.istore 6, 2) := by decide +kernel
theorem n_260_29 : ∀ l, xpr 260 29 l = l := xpr_no (by decide +kernel)
theorem r_260_31 : xfetch 260 31 = some (.aload_n 0, 1) := by decide +kernel
theorem n_260_31 : ∀ l, xpr 260 31 l = l := xpr_no (by decide +kernel)
theorem r_260_32 : xfetch 260 32 = some (.getfield 43, 3) := by decide +kernel
theorem n_260_32 : ∀ l, xpr 260 32 l = l := xpr_no (by decide +kernel)
theorem r_260_35 : xfetch 260 35 = some (.iload 6, 2) := by decide +kernel
theorem n_260_35 : ∀ l, xpr 260 35 l = l := xpr_no (by decide +kernel)
theorem r_260_37 : xfetch 260 37 = some (.iaload, 1) := by decide +kernel
theorem n_260_37 : ∀ l, xpr 260 37 l = l := xpr_no (by decide +kernel)
theorem r_260_38 : xfetch 260 38 = some (.aload_n 0, 1) := by decide +kernel
theorem n_260_38 : ∀ l, xpr 260 38 l = l := xpr_no (by decide +kernel)
theorem r_260_39 : xfetch 260 39 = some (.getfield 43, 3) := by decide +kernel
theorem n_260_39 : ∀ l, xpr 260 39 l = l := xpr_no (by decide +kernel)
theorem r_260_42 : xfetch 260 42 = some (.iload 4, 2) := by decide +kernel
theorem n_260_42 : ∀ l, xpr 260 42 l = l := xpr_no (by decide +kernel)
theorem r_260_44 : xfetch 260 44 = some (.iaload, 1) := by decide +kernel
theorem n_260_44 : ∀ l, xpr 260 44 l = l := xpr_no (by decide +kernel)
theorem r_260_45 : xfetch 260 45 = some (.if_icmp .ne 7, 3) := by decide +kernel
theorem n_260_45 : ∀ l, xpr 260 45 l = l := xpr_no (by decide +kernel)
theorem r_260_48 : xfetch 260 48 = some (.iconst 1, 1) := by decide +kernel
theorem n_260_48 : ∀ l, xpr 260 48 l = l := xpr_no (by decide +kernel)
theorem r_260_49 : xfetch 260 49 = some (.goto 4, 3) := by decide +kernel
theorem n_260_49 : ∀ l, xpr 260 49 l = l := xpr_no (by decide +kernel)
theorem r_260_52 : xfetch 260 52 = some (.iconst 0, 1) := by decide +kernel
theorem n_260_52 : ∀ l, xpr 260 52 l = l := xpr_no (by decide +kernel)
theorem r_260_53 : xfetch 260 53 = some (.istore 7, 2) := by decide +kernel
theorem n_260_53 : ∀ l, xpr 260 53 l = l := xpr_no (by decide +kernel)
theorem r_260_55 : xfetch 260 55 = some (.iconst 0, 1) := by decide +kernel
theorem n_260_55 : ∀ l, xpr 260 55 l = l := xpr_no (by decide +kernel)
theorem r_260_56 : xfetch 260 56 = some (.istore 8, 2) := by decide +kernel
theorem n_260_56 : ∀ l, xpr 260 56 l = l := xpr_no (by decide +kernel)
theorem r_260_58 : xfetch 260 58 = some (.iload 7, 2) := by decide +kernel
theorem r_260_60 : xfetch 260 60 = some (.ifCond .eq 57, 3) := by decide +kernel
theorem n_260_60 : ∀ l, xpr 260 60 l = l := xpr_no (by decide +kernel)
theorem r_260_63 : xfetch 260 63 = some (.iload 8, 2) := by decide +kernel
theorem n_260_63 : ∀ l, xpr 260 63 l = l := xpr_no (by decide +kernel)
theorem r_260_65 : xfetch 260 65 = some (.aload_n 0, 1) := by decide +kernel
theorem n_260_65 : ∀ l, xpr 260 65 l = l := xpr_no (by decide +kernel)
theorem r_260_66 : xfetch 260 66 = some (.getfield 43, 3) := by decide +kernel
theorem n_260_66 : ∀ l, xpr 260 66 l = l := xpr_no (by decide +kernel)
theorem r_260_69 : xfetch 260 69 = some (.iload 6, 2) := by decide +kernel
theorem n_260_69 : ∀ l, xpr 260 69 l = l := xpr_no (by decide +kernel)
theorem r_260_71 : xfetch 260 71 = some (.iaload, 1) := by decide +kernel
theorem n_260_71 : ∀ l, xpr 260 71 l = l := xpr_no (by decide +kernel)
theorem r_260_72 : xfetch 260 72 = some (.if_icmp .ge 45, 3) := by decide +kernel
theorem n_260_72 : ∀ l, xpr 260 72 l = l := xpr_no (by decide +kernel)
theorem r_260_75 : xfetch 260 75 = some (.aload_n 0, 1) := by decide +kernel
theorem n_260_75 : ∀ l, xpr 260 75 l = l := xpr_no (by decide +kernel)
theorem r_260_76 : xfetch 260 76 = some (.getfield 40, 3) := by decide +kernel
theorem n_260_76 : ∀ l, xpr 260 76 l = l := xpr_no (by decide +kernel)
theorem r_260_79 : xfetch 260 79 = some (.bipush 32, 2) := by decide +kernel
theorem n_260_79 : ∀ l, xpr 260 79 l = l := xpr_no (by decide +kernel)
theorem r_260_81 : xfetch 260 81 = some (.iload 6, 2) := by decide +kernel
theorem n_260_81 : ∀ l, xpr 260 81 l = l := xpr_no (by decide +kernel)
theorem r_260_83 : xfetch 260 83 = some (.imul, 1) := by decide +kernel
theorem n_260_83 : ∀ l, xpr 260 83 l = l := xpr_no (by decide +kernel)
theorem r_260_84 : xfetch 260 84 = some (.iload 8, 2) := by decide +kernel
theorem n_260_84 : ∀ l, xpr 260 84 l = l := xpr_no (by decide +kernel)
theorem r_260_86 : xfetch 260 86 = some (.iadd, 1) := by decide +kernel
theorem n_260_86 : ∀ l, xpr 260 86 l = l := xpr_no (by decide +kernel)
theorem r_260_87 : xfetch 260 87 = some (.iaload, 1) := by decide +kernel
theorem n_260_87 : ∀ l, xpr 260 87 l = l := xpr_no (by decide +kernel)
theorem r_260_88 : xfetch 260 88 = some (.aload_n 0, 1) := by decide +kernel
theorem n_260_88 : ∀ l, xpr 260 88 l = l := xpr_no (by decide +kernel)
theorem r_260_89 : xfetch 260 89 = some (.getfield 40, 3) := by decide +kernel
theorem n_260_89 : ∀ l, xpr 260 89 l = l := xpr_no (by decide +kernel)
theorem r_260_92 : xfetch 260 92 = some (.bipush 32, 2) := by decide +kernel
theorem n_260_92 : ∀ l, xpr 260 92 l = l := xpr_no (by decide +kernel)
theorem r_260_94 : xfetch 260 94 = some (.iload 4, 2) := by decide +kernel
theorem n_260_94 : ∀ l, xpr 260 94 l = l := xpr_no (by decide +kernel)
theorem r_260_96 : xfetch 260 96 = some (.imul, 1) := by decide +kernel
theorem n_260_96 : ∀ l, xpr 260 96 l = l := xpr_no (by decide +kernel)
theorem r_260_97 : xfetch 260 97 = some (.iload 8, 2) := by decide +kernel
theorem n_260_97 : ∀ l, xpr 260 97 l = l := xpr_no (by decide +kernel)
theorem r_260_99 : xfetch 260 99 = some (.iadd, 1) := by decide +kernel
theorem n_260_99 : ∀ l, xpr 260 99 l = l := xpr_no (by decide +kernel)
theorem r_260_100 : xfetch 260 100 = some (.iaload, 1) := by decide +kernel
theorem n_260_100 : ∀ l, xpr 260 100 l = l := xpr_no (by decide +kernel)
theorem r_260_101 : xfetch 260 101 = some (.if_icmp .ne 7, 3) := by decide +kernel
theorem n_260_101 : ∀ l, xpr 260 101 l = l := xpr_no (by decide +kernel)
theorem r_260_104 : xfetch 260 104 = some (.iconst 1, 1) := by decide +kernel
theorem n_260_104 : ∀ l, xpr 260 104 l = l := xpr_no (by decide +kernel)
theorem r_260_105 : xfetch 260 105 = some (.goto 4, 3) := by decide +kernel
theorem n_260_105 : ∀ l, xpr 260 105 l = l := xpr_no (by decide +kernel)
theorem r_260_108 : xfetch 260 108 = some (.iconst 0, 1) := by decide +kernel
theorem n_260_108 : ∀ l, xpr 260 108 l = l := xpr_no (by decide +kernel)
theorem r_260_109 : xfetch 260 109 = some (.istore 7, 2) := by decide +kernel
theorem n_260_109 : ∀ l, xpr 260 109 l = l := xpr_no (by decide +kernel)
theorem r_260_111 : xfetch 260 111 = some (.iinc 8 1, 3) := by decide +kernel
theorem n_260_111 : ∀ l, xpr 260 111 l = l := xpr_no (by decide +kernel)
theorem r_260_114 : xfetch 260 114 = some (.goto (-56), 3) := by decide +kernel
theorem n_260_114 : ∀ l, xpr 260 114 l = l := xpr_no (by decide +kernel)
theorem r_260_117 : xfetch 260 117 = some (.iload 7, 2) := by decide +kernel
theorem n_260_117 : ∀ l, xpr 260 117 l = l := xpr_no (by decide +kernel)
theorem r_260_119 : xfetch 260 119 = some (.ifCond .eq 6, 3) := by decide +kernel
theorem n_260_119 : ∀ l, xpr 260 119 l = l := xpr_no (by decide +kernel)
theorem r_260_122 : xfetch 260 122 = some (.iload 5, 2) := by decide +kernel
theorem n_260_122 : ∀ l, xpr 260 122 l = l := xpr_no (by decide +kernel)
theorem r_260_124 : xfetch 260 124 = some (.ireturn, 1) := by decide +kernel
theorem n_260_124 : ∀ l, xpr 260 124 l = l := xpr_no (by decide +kernel)
theorem r_260_125 : xfetch 260 125 = some (.iinc 5 1, 3) := by decide +kernel
theorem n_260_125 : ∀ l, xpr 260 125 l = l := xpr_no (by decide +kernel)
theorem r_260_128 : xfetch 260 128 = some (.goto (-117), 3) := by decide +kernel
theorem n_260_128 : ∀ l, xpr 260 128 l = l := xpr_no (by decide +kernel)
theorem r_260_131 : xfetch 260 131 = some (.iconst (-1), 1) := by decide +kernel
theorem n_260_131 : ∀ l, xpr 260 131 l = l := xpr_no (by decide +kernel)
theorem r_260_132 : xfetch 260 132 = some (.ireturn, 1) := by decide +kernel
theorem n_260_132 : ∀ l, xpr 260 132 l = l := xpr_no (by decide +kernel)
theorem v_Model_samePath_0 {S : Option (Nat × (Nat → Int32))} {s : zSt} {Q : Option Value ⊕ Nat → zSt → Prop} {x1 : Int} {x2 : Int} {x3 : Int} 
    (h : wp S 260 11 [(0, rf 252), (1, iv x1), (4, iv ((40 * x2) + x3)), (5, iv 0)] [] s Q) :
    wp S 260 0 [(0, rf 252), (1, iv x1), (2, iv x2), (3, iv x3)] [] s Q := by
  refine i_bipush r_260_0 (n_260_0 _) rfl ?_
  refine i_iload_n (x := x2) r_260_2 (n_260_2 _) rfl ?_
  refine i_imul r_260_3 (n_260_3 _) ?_
  refine i_iload_n (x := x3) r_260_4 (n_260_4 _) rfl ?_
  refine i_iadd r_260_5 (n_260_5 _) ?_
  refine i_istore (l' := [(0, rf 252), (1, iv x1), (2, iv x2), (3, iv x3), (4, iv ((40 * x2) + x3))]) r_260_6 (n_260_6 _) (by decide) rfl ?_
  refine i_iconst r_260_8 (n_260_8 _) ?_
  refine i_istore (l' := [(0, rf 252), (1, iv x1), (2, iv x2), (3, iv x3), (4, iv ((40 * x2) + x3)), (5, iv 0)]) r_260_9 (n_260_9 _) (by decide) rfl ?_
  exact wp_pr (l' := [(0, rf 252), (1, iv x1), (4, iv ((40 * x2) + x3)), (5, iv 0)]) rfl h
theorem v_Model_samePath_11 {S : Option (Nat × (Nat → Int32))} {s : zSt} {Q : Option Value ⊕ Nat → zSt → Prop} {x1 : Int} {x4 : Int} {x5 : Int} 
    (h : (0 ≤ x1 ∧ x1 < 6) ∧ (rng x5 ∧ (((zI s 256 x1) ≤ x5 → Q (rI (-1)) s) ∧ (x5 < (zI s 256 x1) → (0 ≤ ((40 * x1) + x5) ∧ ((40 * x1) + x5) < 240) ∧ ((0 ≤ x4 ∧ x4 < 240) ∧ (((zI s 264 ((40 * x1) + x5)) ≠ (zI s 264 x4) → wp S 260 58 [(0, rf 252), (1, iv x1), (4, iv x4), (5, iv x5), (6, iv ((40 * x1) + x5)), (7, iv 0), (8, iv 0)] [] s Q) ∧ ((zI s 264 ((40 * x1) + x5)) = (zI s 264 x4) → wp S 260 58 [(0, rf 252), (1, iv x1), (4, iv x4), (5, iv x5), (6, iv ((40 * x1) + x5)), (7, iv 1), (8, iv 0)] [] s Q))))))) :
    wp S 260 11 [(0, rf 252), (1, iv x1), (4, iv x4), (5, iv x5)] [] s Q := by
  refine i_iload (x := x5) r_260_11 rfl rfl ?_
  refine i_aload_n (a := 252) r_260_13 (n_260_13 _) rfl ?_
  refine i_getR (a := 252) (b := 256) r_260_14 (n_260_14 _) rfl rfl rfl (by omega) lf_252 (by omega) ?_
  refine i_iload_n (x := x1) r_260_17 (n_260_17 _) rfl ?_
  obtain ⟨g1, h⟩ := h
  refine i_iaload (a := 256) (j := x1) r_260_18 (n_260_18 _) lf_256 ⟨by omega, by omega⟩ (by omega) (by omega) (fun q2 => ?_)
  obtain ⟨g3, h⟩ := h
  refine i_icmp (t := 131) r_260_19 (n_260_19 _) rfl (T_ge g3 q2) (fun c4 => ?_) (fun c4 => ?_)
  · replace h := h.1 c4
    refine i_iconst r_260_131 (n_260_131 _) ?_
    exact i_ireturn r_260_132 (n_260_132 _) rfl h
  · replace h := h.2 c4
    refine i_bipush r_260_22 (n_260_22 _) rfl ?_
    refine i_iload_n (x := x1) r_260_24 (n_260_24 _) rfl ?_
    refine i_imul r_260_25 (n_260_25 _) ?_
    refine i_iload (x := x5) r_260_26 (n_260_26 _) rfl ?_
    refine i_iadd r_260_28 (n_260_28 _) ?_
    refine i_istore (l' := [(0, rf 252), (1, iv x1), (4, iv x4), (5, iv x5), (6, iv ((40 * x1) + x5))]) r_260_29 (n_260_29 _) (by decide) rfl ?_
    refine i_aload_n (a := 252) r_260_31 (n_260_31 _) rfl ?_
    refine i_getR (a := 252) (b := 264) r_260_32 (n_260_32 _) rfl rfl rfl (by omega) lf_252 (by omega) ?_
    refine i_iload (x := (40 * x1) + x5) r_260_35 (n_260_35 _) rfl ?_
    obtain ⟨g5, h⟩ := h
    refine i_iaload (a := 264) (j := (40 * x1) + x5) r_260_37 (n_260_37 _) lf_264 ⟨by omega, by omega⟩ (by omega) (by omega) (fun q6 => ?_)
    refine i_aload_n (a := 252) r_260_38 (n_260_38 _) rfl ?_
    refine i_getR (a := 252) (b := 264) r_260_39 (n_260_39 _) rfl rfl rfl (by omega) lf_252 (by omega) ?_
    refine i_iload (x := x4) r_260_42 (n_260_42 _) rfl ?_
    obtain ⟨g7, h⟩ := h
    refine i_iaload (a := 264) (j := x4) r_260_44 (n_260_44 _) lf_264 ⟨by omega, by omega⟩ (by omega) (by omega) (fun q8 => ?_)
    refine i_icmp (t := 52) r_260_45 (n_260_45 _) rfl (T_ne q6 q8) (fun c9 => ?_) (fun c9 => ?_)
    · replace h := h.1 c9
      refine i_iconst r_260_52 (n_260_52 _) ?_
      refine i_istore (l' := [(0, rf 252), (1, iv x1), (4, iv x4), (5, iv x5), (6, iv ((40 * x1) + x5)), (7, iv 0)]) r_260_53 (n_260_53 _) (by decide) rfl ?_
      refine i_iconst r_260_55 (n_260_55 _) ?_
      refine i_istore (l' := [(0, rf 252), (1, iv x1), (4, iv x4), (5, iv x5), (6, iv ((40 * x1) + x5)), (7, iv 0), (8, iv 0)]) r_260_56 (n_260_56 _) (by decide) rfl ?_
      exact wp_pr (l' := [(0, rf 252), (1, iv x1), (4, iv x4), (5, iv x5), (6, iv ((40 * x1) + x5)), (7, iv 0), (8, iv 0)]) rfl h
    · replace h := h.2 c9
      refine i_iconst r_260_48 (n_260_48 _) ?_
      refine i_goto (t := 53) r_260_49 (n_260_49 _) rfl ?_
      refine i_istore (l' := [(0, rf 252), (1, iv x1), (4, iv x4), (5, iv x5), (6, iv ((40 * x1) + x5)), (7, iv 1)]) r_260_53 (n_260_53 _) (by decide) rfl ?_
      refine i_iconst r_260_55 (n_260_55 _) ?_
      refine i_istore (l' := [(0, rf 252), (1, iv x1), (4, iv x4), (5, iv x5), (6, iv ((40 * x1) + x5)), (7, iv 1), (8, iv 0)]) r_260_56 (n_260_56 _) (by decide) rfl ?_
      exact wp_pr (l' := [(0, rf 252), (1, iv x1), (4, iv x4), (5, iv x5), (6, iv ((40 * x1) + x5)), (7, iv 1), (8, iv 0)]) rfl h
theorem v_Model_samePath_58 {S : Option (Nat × (Nat → Int32))} {s : zSt} {Q : Option Value ⊕ Nat → zSt → Prop} {x1 : Int} {x4 : Int} {x5 : Int} {x6 : Int} {x7 : Int} {x8 : Int} 
    (h : rng x7 ∧ ((x7 = 0 → (x7 = 0 → wp S 260 11 [(0, rf 252), (1, iv x1), (4, iv x4), (5, iv (x5 + 1))] [] s Q) ∧ (x7 ≠ 0 → Q (rI x5) s)) ∧ (x7 ≠ 0 → (0 ≤ x6 ∧ x6 < 240) ∧ (rng x8 ∧ (((zI s 264 x6) ≤ x8 → (x7 = 0 → wp S 260 11 [(0, rf 252), (1, iv x1), (4, iv x4), (5, iv (x5 + 1))] [] s Q) ∧ (x7 ≠ 0 → Q (rI x5) s)) ∧ (x8 < (zI s 264 x6) → (0 ≤ ((32 * x6) + x8) ∧ ((32 * x6) + x8) < 7680) ∧ ((0 ≤ ((32 * x4) + x8) ∧ ((32 * x4) + x8) < 7680) ∧ (((zI s 263 ((32 * x6) + x8)) ≠ (zI s 263 ((32 * x4) + x8)) → wp S 260 58 [(0, rf 252), (1, iv x1), (4, iv x4), (5, iv x5), (6, iv x6), (7, iv 0), (8, iv (x8 + 1))] [] s Q) ∧ ((zI s 263 ((32 * x6) + x8)) = (zI s 263 ((32 * x4) + x8)) → wp S 260 58 [(0, rf 252), (1, iv x1), (4, iv x4), (5, iv x5), (6, iv x6), (7, iv 1), (8, iv (x8 + 1))] [] s Q))))))))) :
    wp S 260 58 [(0, rf 252), (1, iv x1), (4, iv x4), (5, iv x5), (6, iv x6), (7, iv x7), (8, iv x8)] [] s Q := by
  refine i_iload (x := x7) r_260_58 rfl rfl ?_
  obtain ⟨g1, h⟩ := h
  refine i_if (t := 117) r_260_60 (n_260_60 _) rfl (T_eq g1 ⟨by omega, by omega⟩) (fun c2 => ?_) (fun c2 => ?_)
  · replace h := h.1 c2
    refine i_iload (x := x7) r_260_117 (n_260_117 _) rfl ?_
    refine i_if (t := 125) r_260_119 (n_260_119 _) rfl (T_eq g1 ⟨by omega, by omega⟩) (fun c3 => ?_) (fun c3 => ?_)
    · replace h := h.1 c3
      refine i_iinc (x := x5) (l' := [(0, rf 252), (1, iv x1), (4, iv x4), (5, iv (x5 + 1)), (6, iv x6), (7, iv x7), (8, iv x8)]) r_260_125 (n_260_125 _) (by decide) rfl rfl ?_
      refine i_goto (t := 11) r_260_128 (n_260_128 _) rfl ?_
      exact wp_pr (l' := [(0, rf 252), (1, iv x1), (4, iv x4), (5, iv (x5 + 1))]) rfl h
    · replace h := h.2 c3
      refine i_iload (x := x5) r_260_122 (n_260_122 _) rfl ?_
      exact i_ireturn r_260_124 (n_260_124 _) rfl h
  · replace h := h.2 c2
    refine i_iload (x := x8) r_260_63 (n_260_63 _) rfl ?_
    refine i_aload_n (a := 252) r_260_65 (n_260_65 _) rfl ?_
    refine i_getR (a := 252) (b := 264) r_260_66 (n_260_66 _) rfl rfl rfl (by omega) lf_252 (by omega) ?_
    refine i_iload (x := x6) r_260_69 (n_260_69 _) rfl ?_
    obtain ⟨g4, h⟩ := h
    refine i_iaload (a := 264) (j := x6) r_260_71 (n_260_71 _) lf_264 ⟨by omega, by omega⟩ (by omega) (by omega) (fun q5 => ?_)
    obtain ⟨g6, h⟩ := h
    refine i_icmp (t := 117) r_260_72 (n_260_72 _) rfl (T_ge g6 q5) (fun c7 => ?_) (fun c7 => ?_)
    · replace h := h.1 c7
      refine i_iload (x := x7) r_260_117 (n_260_117 _) rfl ?_
      refine i_if (t := 125) r_260_119 (n_260_119 _) rfl (T_eq g1 ⟨by omega, by omega⟩) (fun c8 => ?_) (fun c8 => ?_)
      · replace h := h.1 c8
        refine i_iinc (x := x5) (l' := [(0, rf 252), (1, iv x1), (4, iv x4), (5, iv (x5 + 1)), (6, iv x6), (7, iv x7), (8, iv x8)]) r_260_125 (n_260_125 _) (by decide) rfl rfl ?_
        refine i_goto (t := 11) r_260_128 (n_260_128 _) rfl ?_
        exact wp_pr (l' := [(0, rf 252), (1, iv x1), (4, iv x4), (5, iv (x5 + 1))]) rfl h
      · replace h := h.2 c8
        refine i_iload (x := x5) r_260_122 (n_260_122 _) rfl ?_
        exact i_ireturn r_260_124 (n_260_124 _) rfl h
    · replace h := h.2 c7
      refine i_aload_n (a := 252) r_260_75 (n_260_75 _) rfl ?_
      refine i_getR (a := 252) (b := 263) r_260_76 (n_260_76 _) rfl rfl rfl (by omega) lf_252 (by omega) ?_
      refine i_bipush r_260_79 (n_260_79 _) rfl ?_
      refine i_iload (x := x6) r_260_81 (n_260_81 _) rfl ?_
      refine i_imul r_260_83 (n_260_83 _) ?_
      refine i_iload (x := x8) r_260_84 (n_260_84 _) rfl ?_
      refine i_iadd r_260_86 (n_260_86 _) ?_
      obtain ⟨g9, h⟩ := h
      refine i_iaload (a := 263) (j := (32 * x6) + x8) r_260_87 (n_260_87 _) lf_263 ⟨by omega, by omega⟩ (by omega) (by omega) (fun q10 => ?_)
      refine i_aload_n (a := 252) r_260_88 (n_260_88 _) rfl ?_
      refine i_getR (a := 252) (b := 263) r_260_89 (n_260_89 _) rfl rfl rfl (by omega) lf_252 (by omega) ?_
      refine i_bipush r_260_92 (n_260_92 _) rfl ?_
      refine i_iload (x := x4) r_260_94 (n_260_94 _) rfl ?_
      refine i_imul r_260_96 (n_260_96 _) ?_
      refine i_iload (x := x8) r_260_97 (n_260_97 _) rfl ?_
      refine i_iadd r_260_99 (n_260_99 _) ?_
      obtain ⟨g11, h⟩ := h
      refine i_iaload (a := 263) (j := (32 * x4) + x8) r_260_100 (n_260_100 _) lf_263 ⟨by omega, by omega⟩ (by omega) (by omega) (fun q12 => ?_)
      refine i_icmp (t := 108) r_260_101 (n_260_101 _) rfl (T_ne q10 q12) (fun c13 => ?_) (fun c13 => ?_)
      · replace h := h.1 c13
        refine i_iconst r_260_108 (n_260_108 _) ?_
        refine i_istore (l' := [(0, rf 252), (1, iv x1), (4, iv x4), (5, iv x5), (6, iv x6), (7, iv 0), (8, iv x8)]) r_260_109 (n_260_109 _) (by decide) rfl ?_
        refine i_iinc (x := x8) (l' := [(0, rf 252), (1, iv x1), (4, iv x4), (5, iv x5), (6, iv x6), (7, iv 0), (8, iv (x8 + 1))]) r_260_111 (n_260_111 _) (by decide) rfl rfl ?_
        refine i_goto (t := 58) r_260_114 (n_260_114 _) rfl ?_
        exact wp_pr (l' := [(0, rf 252), (1, iv x1), (4, iv x4), (5, iv x5), (6, iv x6), (7, iv 0), (8, iv (x8 + 1))]) rfl h
      · replace h := h.2 c13
        refine i_iconst r_260_104 (n_260_104 _) ?_
        refine i_goto (t := 109) r_260_105 (n_260_105 _) rfl ?_
        refine i_istore (l' := [(0, rf 252), (1, iv x1), (4, iv x4), (5, iv x5), (6, iv x6), (7, iv 1), (8, iv x8)]) r_260_109 (n_260_109 _) (by decide) rfl ?_
        refine i_iinc (x := x8) (l' := [(0, rf 252), (1, iv x1), (4, iv x4), (5, iv x5), (6, iv x6), (7, iv 1), (8, iv (x8 + 1))]) r_260_111 (n_260_111 _) (by decide) rfl rfl ?_
        refine i_goto (t := 58) r_260_114 (n_260_114 _) rfl ?_
        exact wp_pr (l' := [(0, rf 252), (1, iv x1), (4, iv x4), (5, iv x5), (6, iv x6), (7, iv 1), (8, iv (x8 + 1))]) rfl h
theorem r_261_0 : xfetch 261 0 = some (.aload_n 0, 1) := by decide +kernel
theorem n_261_0 : ∀ l, xpr 261 0 l = l := xpr_no (by decide +kernel)
theorem r_261_1 : xfetch 261 1 = some (.iconst 0, 1) := by decide +kernel
theorem n_261_1 : ∀ l, xpr 261 1 l = l := xpr_no (by decide +kernel)
theorem r_261_2 : xfetch 261 2 = some (.putfield 77, 3) := by decide +kernel
theorem n_261_2 : ∀ l, xpr 261 2 l = l := xpr_no (by decide +kernel)
theorem r_261_5 : xfetch 261 5 = some (.aload_n 0, 1) := by decide +kernel
theorem n_261_5 : ∀ l, xpr 261 5 l = l := xpr_no (by decide +kernel)
theorem r_261_6 : xfetch 261 6 = some (.invokevirtual 135, 3) := by decide +kernel
theorem n_261_6 : ∀ l, xpr 261 6 l = l := xpr_no (by decide +kernel)
theorem r_261_9 : xfetch 261 9 = some (.iconst 0, 1) := by decide +kernel
theorem n_261_9 : ∀ l, xpr 261 9 l = l := xpr_no (by decide +kernel)
theorem r_261_10 : xfetch 261 10 = some (.istore_n 1, 1) := by decide +kernel
theorem n_261_10 : ∀ l, xpr 261 10 l = l := xpr_no (by decide +kernel)
theorem r_261_11 : xfetch 261 11 = some (.iconst 0, 1) := by decide +kernel
theorem n_261_11 : ∀ l, xpr 261 11 l = l := xpr_no (by decide +kernel)
theorem r_261_12 : xfetch 261 12 = some (.istore_n 2, 1) := by decide +kernel
theorem n_261_12 : ∀ l, xpr 261 12 l = l := xpr_no (by decide +kernel)
theorem r_261_13 : xfetch 261 13 = some (.iconst (-1), 1) := by decide +kernel
theorem n_261_13 : ∀ l, xpr 261 13 l = l := xpr_no (by decide +kernel)
theorem r_261_14 : xfetch 261 14 = some (.istore_n 3, 1) := by decide +kernel
theorem n_261_14 : ∀ l, xpr 261 14 l = l := xpr_no (by decide +kernel)
theorem r_261_15 : xfetch 261 15 = some (.iconst 0, 1) := by decide +kernel
theorem n_261_15 : ∀ l, xpr 261 15 l = l := xpr_no (by decide +kernel)
theorem r_261_16 : xfetch 261 16 = some (.istore 4, 2) := by decide +kernel
theorem n_261_16 : ∀ l, xpr 261 16 l = l := xpr_no (by decide +kernel)
theorem r_261_18 : xfetch 261 18 = some (.iload 4, 2) := by decide +kernel
theorem r_261_20 : xfetch 261 20 = some (.iconst 3, 1) := by decide +kernel
theorem n_261_20 : ∀ l, xpr 261 20 l = l := xpr_no (by decide +kernel)
theorem r_261_21 : xfetch 261 21 = some (.if_icmp .ge 198, 3) := by decide +kernel
theorem n_261_21 : ∀ l, xpr 261 21 l = l := xpr_no (by decide +kernel)
theorem r_261_24 : xfetch 261 24 = some (.iconst (-1), 1) := by decide +kernel
theorem n_261_24 : ∀ l, xpr 261 24 l = l := xpr_no (by decide +kernel)
theorem r_261_25 : xfetch 261 25 = some (.istore 5, 2) := by decide +kernel
theorem n_261_25 : ∀ l, xpr 261 25 l = l := xpr_no (by decide +kernel)
theorem r_261_27 : xfetch 261 27 = some (.iconst 0, 1) := by decide +kernel
theorem n_261_27 : ∀ l, xpr 261 27 l = l := xpr_no (by decide +kernel)
theorem r_261_28 : xfetch 261 28 = some (.istore 6, 2) := by decide +kernel
theorem n_261_28 : ∀ l, xpr 261 28 l = l := xpr_no (by decide +kernel)
theorem r_261_30 : xfetch 261 30 = some (.iload 6, 2) := by decide +kernel
theorem r_261_32 : xfetch 261 32 = some (.iconst 3, 1) := by decide +kernel
theorem n_261_32 : ∀ l, xpr 261 32 l = l := xpr_no (by decide +kernel)
theorem r_261_33 : xfetch 261 33 = some (.if_icmp .ge 61, 3) := by decide +kernel
theorem n_261_33 : ∀ l, xpr 261 33 l = l := xpr_no (by decide +kernel)
theorem r_261_36 : xfetch 261 36 = some (.aload_n 0, 1) := by decide +kernel
theorem n_261_36 : ∀ l, xpr 261 36 l = l := xpr_no (by decide +kernel)
theorem r_261_37 : xfetch 261 37 = some (.iload 6, 2) := by decide +kernel
theorem n_261_37 : ∀ l, xpr 261 37 l = l := xpr_no (by decide +kernel)
theorem r_261_39 : xfetch 261 39 = some (.invokevirtual 225, 3) := by decide +kernel
theorem n_261_39 : ∀ l, xpr 261 39 l = l := xpr_no (by decide +kernel)
theorem r_261_42 : xfetch 261 42 = some (.ifCond .eq 42, 3) := by decide +kernel
theorem n_261_42 : ∀ l, xpr 261 42 l = l := xpr_no (by decide +kernel)
theorem r_261_45 : xfetch 261 45 = some (.aload_n 0, 1) := by decide +kernel
theorem n_261_45 : ∀ l, xpr 261 45 l = l := xpr_no (by decide +kernel)
theorem r_261_46 : xfetch 261 46 = some (.iload 6, 2) := by decide +kernel
theorem n_261_46 : ∀ l, xpr 261 46 l = l := xpr_no (by decide +kernel)
theorem r_261_48 : xfetch 261 48 = some (.iconst 4, 1) := by decide +kernel
theorem n_261_48 : ∀ l, xpr 261 48 l = l := xpr_no (by decide +kernel)
theorem r_261_49 : xfetch 261 49 = some (.invokevirtual 228, 3) := by decide +kernel
theorem n_261_49 : ∀ l, xpr 261 49 l = l := xpr_no (by decide +kernel)
theorem r_261_52 : xfetch 261 52 = some (.iload_n 3, 1) := by decide +kernel
theorem n_261_52 : ∀ l, xpr 261 52 l = l := xpr_no (by decide +kernel)
theorem r_261_53 : xfetch 261 53 = some (.if_icmp .le 31, 3) := by decide +kernel
theorem n_261_53 : ∀ l, xpr 261 53 l = l := xpr_no (by decide +kernel)
theorem r_261_56 : xfetch 261 56 = some (.iload 5, 2) := by decide +kernel
theorem n_261_56 : ∀ l, xpr 261 56 l = l := xpr_no (by decide +kernel)
theorem r_261_58 : xfetch 261 58 = some (.iconst (-1), 1) := by decide +kernel
theorem n_261_58 : ∀ l, xpr 261 58 l = l := xpr_no (by decide +kernel)
theorem r_261_59 : xfetch 261 59 = some (.if_icmp .eq 20, 3) := by decide +kernel
theorem n_261_59 : ∀ l, xpr 261 59 l = l := xpr_no (by decide +kernel)
theorem r_261_62 : xfetch 261 62 = some (.aload_n 0, 1) := by decide +kernel
theorem n_261_62 : ∀ l, xpr 261 62 l = l := xpr_no (by decide +kernel)
theorem r_261_63 : xfetch 261 63 = some (.iload 6, 2) := by decide +kernel
theorem n_261_63 : ∀ l, xpr 261 63 l = l := xpr_no (by decide +kernel)
theorem r_261_65 : xfetch 261 65 = some (.iconst 4, 1) := by decide +kernel
theorem n_261_65 : ∀ l, xpr 261 65 l = l := xpr_no (by decide +kernel)
theorem r_261_66 : xfetch 261 66 = some (.invokevirtual 228, 3) := by decide +kernel
theorem n_261_66 : ∀ l, xpr 261 66 l = l := xpr_no (by decide +kernel)
theorem r_261_69 : xfetch 261 69 = some (.aload_n 0, 1) := by decide +kernel
theorem n_261_69 : ∀ l, xpr 261 69 l = l := xpr_no (by decide +kernel)
theorem r_261_70 : xfetch 261 70 = some (.iload 5, 2) := by decide +kernel
theorem n_261_70 : ∀ l, xpr 261 70 l = l := xpr_no (by decide +kernel)
theorem r_261_72 : xfetch 261 72 = some (.iconst 4, 1) := by decide +kernel
theorem n_261_72 : ∀ l, xpr 261 72 l = l := xpr_no (by decide +kernel)
theorem r_261_73 : xfetch 261 73 = some (.invokevirtual 228, 3) := by decide +kernel
theorem n_261_73 : ∀ l, xpr 261 73 l = l := xpr_no (by decide +kernel)
theorem r_261_76 : xfetch 261 76 = some (.if_icmp .ge 8, 3) := by decide +kernel
theorem n_261_76 : ∀ l, xpr 261 76 l = l := xpr_no (by decide +kernel)
theorem r_261_79 : xfetch 261 79 = some (.iload 6, 2) := by decide +kernel
theorem n_261_79 : ∀ l, xpr 261 79 l = l := xpr_no (by decide +kernel)
theorem r_261_81 : xfetch 261 81 = some (.goto 5, 3) := by decide +kernel
theorem n_261_81 : ∀ l, xpr 261 81 l = l := xpr_no (by decide +kernel)
theorem r_261_84 : xfetch 261 84 = some (.iload 5, 2) := by decide +kernel
theorem n_261_84 : ∀ l, xpr 261 84 l = l := xpr_no (by decide +kernel)
theorem r_261_86 : xfetch 261 86 = some (.istore 5, 2) := by decide +kernel
theorem n_261_86 : ∀ l, xpr 261 86 l = l := xpr_no (by decide +kernel)
theorem r_261_88 : xfetch 261 88 = some (.iinc 6 1, 3) := by decide +kernel
theorem n_261_88 : ∀ l, xpr 261 88 l = l := xpr_no (by decide +kernel)
theorem r_261_91 : xfetch 261 91 = some (.goto (-61), 3) := by decide +kernel
theorem n_261_91 : ∀ l, xpr 261 91 l = l := xpr_no (by decide +kernel)
theorem r_261_94 : xfetch 261 94 = some (.iload 5, 2) := by decide +kernel
theorem n_261_94 : ∀ l, xpr 261 94 l = l := xpr_no (by decide +kernel)
theorem r_261_96 : xfetch 261 96 = some (.iconst (-1), 1) := by decide +kernel
theorem n_261_96 : ∀ l, xpr 261 96 l = l := xpr_no (by decide +kernel)
theorem r_261_97 : xfetch 261 97 = some (.if_icmp .eq 116, 3) := by decide +kernel
theorem n_261_97 : ∀ l, xpr 261 97 l = l := xpr_no (by decide +kernel)
theorem r_261_100 : xfetch 261 100 = some (.aload_n 0, 1) := by decide +kernel
theorem n_261_100 : ∀ l, xpr 261 100 l = l := xpr_no (by decide +kernel)
theorem r_261_101 : xfetch 261 101 = some (.iload 5, 2) := by decide +kernel
theorem n_261_101 : ∀ l, xpr 261 101 l = l := xpr_no (by decide +kernel)
theorem r_261_103 : xfetch 261 103 = some (.iconst 4, 1) := by decide +kernel
theorem n_261_103 : ∀ l, xpr 261 103 l = l := xpr_no (by decide +kernel)
theorem r_261_104 : xfetch 261 104 = some (.invokevirtual 228, 3) := by decide +kernel
theorem n_261_104 : ∀ l, xpr 261 104 l = l := xpr_no (by decide +kernel)
theorem r_261_107 : xfetch 261 107 = some (.istore 6, 2) := by decide +kernel
theorem n_261_107 : ∀ l, xpr 261 107 l = l := xpr_no (by decide +kernel)
theorem r_261_109 : xfetch 261 109 = some (.iload 6, 2) := by decide +kernel
theorem n_261_109 : ∀ l, xpr 261 109 l = l := xpr_no (by decide +kernel)
theorem r_261_111 : xfetch 261 111 = some (.istore_n 3, 1) := by decide +kernel
theorem n_261_111 : ∀ l, xpr 261 111 l = l := xpr_no (by decide +kernel)
theorem r_261_112 : xfetch 261 112 = some (.iload_n 2, 1) := by decide +kernel
theorem n_261_112 : ∀ l, xpr 261 112 l = l := xpr_no (by decide +kernel)
theorem r_261_113 : xfetch 261 113 = some (.bipush 16, 2) := by decide +kernel
theorem n_261_113 : ∀ l, xpr 261 113 l = l := xpr_no (by decide +kernel)
theorem r_261_115 : xfetch 261 115 = some (.invokestatic 112, 3) := by decide +kernel
theorem n_261_115 : ∀ l, xpr 261 115 l = l := xpr_no (by decide +kernel)
theorem r_261_118 : xfetch 261 118 = some (.istore 7, 2) := by decide +kernel
theorem n_261_118 : ∀ l, xpr 261 118 l = l := xpr_no (by decide +kernel)
theorem r_261_120 : xfetch 261 120 = some (.iconst 0, 1) := by decide +kernel
theorem n_261_120 : ∀ l, xpr 261 120 l = l := xpr_no (by decide +kernel)
theorem r_261_121 : xfetch 261 121 = some (.istore 8, 2) := by decide +kernel
theorem n_261_121 : ∀ l, xpr 261 121 l = l := xpr_no (by decide +kernel)
theorem r_261_123 : xfetch 261 123 = some (.iload 8, 2) := by decide +kernel
theorem r_261_125 : xfetch 261 125 = some (.aload_n 0, 1) := by decide +kernel
theorem n_261_125 : ∀ l, xpr 261 125 l = l := xpr_no (by decide +kernel)
theorem r_261_126 : xfetch 261 126 = some (.iload 5, 2) := by decide +kernel
theorem n_261_126 : ∀ l, xpr 261 126 l = l := xpr_no (by decide +kernel)
theorem r_261_128 : xfetch 261 128 = some (.iconst 5, 1) := by decide +kernel
theorem n_261_128 : ∀ l, xpr 261 128 l = l := xpr_no (by decide +kernel)
theorem r_261_129 : xfetch 261 129 = some (.invokevirtual 228, 3) := by decide +kernel
theorem n_261_129 : ∀ l, xpr 261 129 l = l := xpr_no (by decide +kernel)
theorem r_261_132 : xfetch 261 132 = some (.if_icmp .ge 37, 3) := by decide +kernel
theorem n_261_132 : ∀ l, xpr 261 132 l = l := xpr_no (by decide +kernel)
theorem r_261_135 : xfetch 261 135 = some (.aload_n 0, 1) := by decide +kernel
theorem n_261_135 : ∀ l, xpr 261 135 l = l := xpr_no (by decide +kernel)
theorem r_261_136 : xfetch 261 136 = some (.getfield 7, 3) := by decide +kernel
theorem n_261_136 : ∀ l, xpr 261 136 l = l := xpr_no (by decide +kernel)
theorem r_261_139 : xfetch 261 139 = some (.sipush 175, 3) := by decide +kernel
theorem n_261_139 : ∀ l, xpr 261 139 l = l := xpr_no (by decide +kernel)
theorem r_261_142 : xfetch 261 142 = some (.iload 7, 2) := by decide +kernel
theorem n_261_142 : ∀ l, xpr 261 142 l = l := xpr_no (by decide +kernel)
theorem r_261_144 : xfetch 261 144 = some (.iadd, 1) := by decide +kernel
theorem n_261_144 : ∀ l, xpr 261 144 l = l := xpr_no (by decide +kernel)
theorem r_261_145 : xfetch 261 145 = some (.iload 8, 2) := by decide +kernel
theorem n_261_145 : ∀ l, xpr 261 145 l = l := xpr_no (by decide +kernel)
theorem r_261_147 : xfetch 261 147 = some (.iadd, 1) := by decide +kernel
theorem n_261_147 : ∀ l, xpr 261 147 l = l := xpr_no (by decide +kernel)
theorem r_261_148 : xfetch 261 148 = some (.aload_n 0, 1) := by decide +kernel
theorem n_261_148 : ∀ l, xpr 261 148 l = l := xpr_no (by decide +kernel)
theorem r_261_149 : xfetch 261 149 = some (.getfield 7, 3) := by decide +kernel
theorem n_261_149 : ∀ l, xpr 261 149 l = l := xpr_no (by decide +kernel)
theorem r_261_152 : xfetch 261 152 = some (.sipush 175, 3) := by decide +kernel
theorem n_261_152 : ∀ l, xpr 261 152 l = l := xpr_no (by decide +kernel)
theorem r_261_155 : xfetch 261 155 = some (.iload 6, 2) := by decide +kernel
theorem n_261_155 : ∀ l, xpr 261 155 l = l := xpr_no (by decide +kernel)
theorem r_261_157 : xfetch 261 157 = some (.iadd, 1) := by decide +kernel
theorem n_261_157 : ∀ l, xpr 261 157 l = l := xpr_no (by decide +kernel)
theorem r_261_158 : xfetch 261 158 = some (.iload 8, 2) := by decide +kernel
theorem n_261_158 : ∀ l, xpr 261 158 l = l := xpr_no (by decide +kernel)
theorem r_261_160 : xfetch 261 160 = some (.iadd, 1) := by decide +kernel
theorem n_261_160 : ∀ l, xpr 261 160 l = l := xpr_no (by decide +kernel)
theorem r_261_161 : xfetch 261 161 = some (.iaload, 1) := by decide +kernel
theorem n_261_161 : ∀ l, xpr 261 161 l = l := xpr_no (by decide +kernel)
theorem r_261_162 : xfetch 261 162 = some (.iastore, 1) := by decide +kernel
theorem n_261_162 : ∀ l, xpr 261 162 l = l := xpr_no (by decide +kernel)
theorem r_261_163 : xfetch 261 163 = some (.iinc 8 1, 3) := by decide +kernel
theorem n_261_163 : ∀ l, xpr 261 163 l = l := xpr_no (by decide +kernel)
theorem r_261_166 : xfetch 261 166 = some (.goto (-43), 3) := by decide +kernel
theorem n_261_166 : ∀ l, xpr 261 166 l = l := xpr_no (by decide +kernel)
theorem r_261_169 : xfetch 261 169 = some (.aload_n 0, 1) := by decide +kernel
theorem n_261_169 : ∀ l, xpr 261 169 l = l := xpr_no (by decide +kernel)
theorem r_261_170 : xfetch 261 170 = some (.getfield 7, 3) := by decide +kernel
theorem n_261_170 : ∀ l, xpr 261 170 l = l := xpr_no (by decide +kernel)
theorem r_261_173 : xfetch 261 173 = some (.sipush 157, 3) := by decide +kernel
theorem n_261_173 : ∀ l, xpr 261 173 l = l := xpr_no (by decide +kernel)
theorem r_261_176 : xfetch 261 176 = some (.bipush 6, 2) := by decide +kernel
theorem n_261_176 : ∀ l, xpr 261 176 l = l := xpr_no (by decide +kernel)
theorem r_261_178 : xfetch 261 178 = some (.iload 5, 2) := by decide +kernel
theorem n_261_178 : ∀ l, xpr 261 178 l = l := xpr_no (by decide +kernel)
theorem r_261_180 : xfetch 261 180 = some (.imul, 1) := by decide +kernel
theorem n_261_180 : ∀ l, xpr 261 180 l = l := xpr_no (by decide +kernel)
theorem r_261_181 : xfetch 261 181 = some (.iadd, 1) := by decide +kernel
theorem n_261_181 : ∀ l, xpr 261 181 l = l := xpr_no (by decide +kernel)
theorem r_261_182 : xfetch 261 182 = some (.iconst 4, 1) := by decide +kernel
theorem n_261_182 : ∀ l, xpr 261 182 l = l := xpr_no (by decide +kernel)
theorem r_261_183 : xfetch 261 183 = some (.iadd, 1) := by decide +kernel
theorem n_261_183 : ∀ l, xpr 261 183 l = l := xpr_no (by decide +kernel)
theorem r_261_184 : xfetch 261 184 = some (.iload 7, 2) := by decide +kernel
theorem n_261_184 : ∀ l, xpr 261 184 l = l := xpr_no (by decide +kernel)
theorem r_261_186 : xfetch 261 186 = some (.iastore, 1) := by decide +kernel
theorem n_261_186 : ∀ l, xpr 261 186 l = l := xpr_no (by decide +kernel)
theorem r_261_187 : xfetch 261 187 = some (.iload_n 1, 1) := by decide +kernel
theorem n_261_187 : ∀ l, xpr 261 187 l = l := xpr_no (by decide +kernel)
theorem r_261_188 : xfetch 261 188 = some (.iload 7, 2) := by decide +kernel
theorem n_261_188 : ∀ l, xpr 261 188 l = l := xpr_no (by decide +kernel)
theorem r_261_190 : xfetch 261 190 = some (.iload 6, 2) := by decide +kernel
theorem n_261_190 : ∀ l, xpr 261 190 l = l := xpr_no (by decide +kernel)
theorem r_261_192 : xfetch 261 192 = some (.if_icmp .ne 7, 3) := by decide +kernel
theorem n_261_192 : ∀ l, xpr 261 192 l = l := xpr_no (by decide +kernel)
theorem r_261_195 : xfetch 261 195 = some (.iconst 0, 1) := by decide +kernel
theorem n_261_195 : ∀ l, xpr 261 195 l = l := xpr_no (by decide +kernel)
theorem r_261_196 : xfetch 261 196 = some (.goto 4, 3) := by decide +kernel
theorem n_261_196 : ∀ l, xpr 261 196 l = l := xpr_no (by decide +kernel)
theorem r_261_199 : xfetch 261 199 = some (.iconst 1, 1) := by decide +kernel
theorem n_261_199 : ∀ l, xpr 261 199 l = l := xpr_no (by decide +kernel)
theorem r_261_200 : xfetch 261 200 = some (.iadd, 1) := by decide +kernel
theorem n_261_200 : ∀ l, xpr 261 200 l = l := xpr_no (by decide +kernel)
theorem r_261_201 : xfetch 261 201 = some (.istore_n 1, 1) := by decide +kernel
theorem n_261_201 : ∀ l, xpr 261 201 l = l := xpr_no (by decide +kernel)
theorem r_261_202 : xfetch 261 202 = some (.iload 7, 2) := by decide +kernel
theorem n_261_202 : ∀ l, xpr 261 202 l = l := xpr_no (by decide +kernel)
theorem r_261_204 : xfetch 261 204 = some (.aload_n 0, 1) := by decide +kernel
theorem n_261_204 : ∀ l, xpr 261 204 l = l := xpr_no (by decide +kernel)
theorem r_261_205 : xfetch 261 205 = some (.iload 5, 2) := by decide +kernel
theorem n_261_205 : ∀ l, xpr 261 205 l = l := xpr_no (by decide +kernel)
theorem r_261_207 : xfetch 261 207 = some (.iconst 5, 1) := by decide +kernel
theorem n_261_207 : ∀ l, xpr 261 207 l = l := xpr_no (by decide +kernel)
theorem r_261_208 : xfetch 261 208 = some (.invokevirtual 228, 3) := by decide +kernel
theorem n_261_208 : ∀ l, xpr 261 208 l = l := xpr_no (by decide +kernel)
theorem r_261_211 : xfetch 261 211 = some (.iadd, 1) := by decide +kernel
theorem n_261_211 : ∀ l, xpr 261 211 l = l := xpr_no (by decide +kernel)
theorem r_261_212 : xfetch 261 212 = some (.istore_n 2, 1) := by decide +kernel
theorem n_261_212 : ∀ l, xpr 261 212 l = l := xpr_no (by decide +kernel)
theorem r_261_213 : xfetch 261 213 = some (.iinc 4 1, 3) := by decide +kernel
theorem n_261_213 : ∀ l, xpr 261 213 l = l := xpr_no (by decide +kernel)
theorem r_261_216 : xfetch 261 216 = some (.goto (-198), 3) := by decide +kernel
theorem n_261_216 : ∀ l, xpr 261 216 l = l := xpr_no (by decide +kernel)
theorem r_261_219 : xfetch 261 219 = some (.iload_n 1, 1) := by decide +kernel
theorem n_261_219 : ∀ l, xpr 261 219 l = l := xpr_no (by decide +kernel)
theorem r_261_220 : xfetch 261 220 = some (.ireturn, 1) := by decide +kernel
theorem n_261_220 : ∀ l, xpr 261 220 l = l := xpr_no (by decide +kernel)
theorem v_Model_compact_0 {S : Option (Nat × (Nat → Int32))} {s : zSt} {Q : Option Value ⊕ Nat → zSt → Prop}  
    (h : wp S 182 0 [(0, rf 252)] [] (zwI s 252 3 0) (fun o1 s1 => zkU (wp S 261 18 [(0, rf 252), (1, iv 0), (2, iv 0), (3, iv (-1)), (4, iv 0)] [] s1 Q) (fun e1 => False) o1)) :
    wp S 261 0 [(0, rf 252)] [] s Q := by
  refine i_aload_n (a := 252) r_261_0 (n_261_0 _) rfl ?_
  refine i_iconst r_261_1 (n_261_1 _) ?_
  refine i_putI (a := 252) (x := 0) r_261_2 (n_261_2 _) rfl (.inl rfl) rfl lf_252 ⟨by omega, by omega⟩ ?_
  refine i_aload_n (a := 252) r_261_5 (n_261_5 _) rfl ?_
  refine wp_virt (b := 252) (rest := []) (Ls := [(0, rf 252)]) r_261_6 (n_261_6 _) rfl ⟨rfl, rfl, by decide, by decide⟩ rfl rfl lf_252 ⟨rfl, Nat.le_of_ble_eq_true rfl, Nat.le_of_ble_eq_true rfl⟩ rfl h ?_
  intro o1 s1 h
  rcases h with ⟨rfl, h⟩ | ⟨e1, rfl, h⟩
  · refine .inl ⟨none, rfl, ?_⟩
    refine i_iconst r_261_9 (n_261_9 _) ?_
    refine i_istore_n (l' := [(0, rf 252), (1, iv 0)]) r_261_10 (n_261_10 _) (by decide) rfl ?_
    refine i_iconst r_261_11 (n_261_11 _) ?_
    refine i_istore_n (l' := [(0, rf 252), (1, iv 0), (2, iv 0)]) r_261_12 (n_261_12 _) (by decide) rfl ?_
    refine i_iconst r_261_13 (n_261_13 _) ?_
    refine i_istore_n (l' := [(0, rf 252), (1, iv 0), (2, iv 0), (3, iv (-1))]) r_261_14 (n_261_14 _) (by decide) rfl ?_
    refine i_iconst r_261_15 (n_261_15 _) ?_
    refine i_istore (l' := [(0, rf 252), (1, iv 0), (2, iv 0), (3, iv (-1)), (4, iv 0)]) r_261_16 (n_261_16 _) (by decide) rfl ?_
    exact wp_pr (l' := [(0, rf 252), (1, iv 0), (2, iv 0), (3, iv (-1)), (4, iv 0)]) rfl h
  · skip
    exact h.elim
theorem v_Model_compact_18 {S : Option (Nat × (Nat → Int32))} {s : zSt} {Q : Option Value ⊕ Nat → zSt → Prop} {x1 : Int} {x2 : Int} {x3 : Int} {x4 : Int} 
    (h : rng x4 ∧ ((3 ≤ x4 → Q (rI x1) s) ∧ (x4 < 3 → wp S 261 30 [(0, rf 252), (1, iv x1), (2, iv x2), (3, iv x3), (4, iv x4), (5, iv (-1)), (6, iv 0)] [] s Q))) :
    wp S 261 18 [(0, rf 252), (1, iv x1), (2, iv x2), (3, iv x3), (4, iv x4)] [] s Q := by
  refine i_iload (x := x4) r_261_18 rfl rfl ?_
  refine i_iconst r_261_20 (n_261_20 _) ?_
  obtain ⟨g1, h⟩ := h
  refine i_icmp (t := 219) r_261_21 (n_261_21 _) rfl (T_ge g1 ⟨by omega, by omega⟩) (fun c2 => ?_) (fun c2 => ?_)
  · replace h := h.1 c2
    refine i_iload_n (x := x1) r_261_219 (n_261_219 _) rfl ?_
    exact i_ireturn r_261_220 (n_261_220 _) rfl h
  · replace h := h.2 c2
    refine i_iconst r_261_24 (n_261_24 _) ?_
    refine i_istore (l' := [(0, rf 252), (1, iv x1), (2, iv x2), (3, iv x3), (4, iv x4), (5, iv (-1))]) r_261_25 (n_261_25 _) (by decide) rfl ?_
    refine i_iconst r_261_27 (n_261_27 _) ?_
    refine i_istore (l' := [(0, rf 252), (1, iv x1), (2, iv x2), (3, iv x3), (4, iv x4), (5, iv (-1)), (6, iv 0)]) r_261_28 (n_261_28 _) (by decide) rfl ?_
    exact wp_pr (l' := [(0, rf 252), (1, iv x1), (2, iv x2), (3, iv x3), (4, iv x4), (5, iv (-1)), (6, iv 0)]) rfl h
theorem v_Model_compact_30 {S : Option (Nat × (Nat → Int32))} {s : zSt} {Q : Option Value ⊕ Nat → zSt → Prop} {x1 : Int} {x2 : Int} {x3 : Int} {x4 : Int} {x5 : Int} {x6 : Int} 
    (h : rng x6 ∧ ((3 ≤ x6 → rng x5 ∧ ((x5 = (-1) → wp S 261 18 [(0, rf 252), (1, iv x1), (2, iv x2), (3, iv x3), (4, iv (x4 + 1))] [] s Q) ∧ (x5 ≠ (-1) → wp S 236 0 [(0, rf 252), (1, iv x5), (2, iv 4)] [] s (fun o5 s5 => zkI (fun y5 => wp S 198 0 [(0, iv x2), (1, iv 16)] [] s5 (fun o7 s7 => zkI (fun y7 => wp S 261 123 [(0, rf 252), (1, iv x1), (3, iv y5), (4, iv x4), (5, iv x5), (6, iv y5), (7, iv y7), (8, iv 0)] [] s7 Q) (fun e7 => False) o7)) (fun e5 => False) o5)))) ∧ (x6 < 3 → wp S 229 0 [(0, rf 252), (1, iv x6)] [] s (fun o9 s9 => zkI (fun y9 => (y9 = 0 → wp S 261 30 [(0, rf 252), (1, iv x1), (2, iv x2), (3, iv x3), (4, iv x4), (5, iv x5), (6, iv (x6 + 1))] [] s9 Q) ∧ (y9 ≠ 0 → wp S 236 0 [(0, rf 252), (1, iv x6), (2, iv 4)] [] s9 (fun o12 s12 => zkI (fun y12 => rng x3 ∧ ((y12 ≤ x3 → wp S 261 30 [(0, rf 252), (1, iv x1), (2, iv x2), (3, iv x3), (4, iv x4), (5, iv x5), (6, iv (x6 + 1))] [] s12 Q) ∧ (x3 < y12 → rng x5 ∧ ((x5 = (-1) → wp S 261 30 [(0, rf 252), (1, iv x1), (2, iv x2), (3, iv x3), (4, iv x4), (5, iv x6), (6, iv (x6 + 1))] [] s12 Q) ∧ (x5 ≠ (-1) → wp S 236 0 [(0, rf 252), (1, iv x6), (2, iv 4)] [] s12 (fun o18 s18 => zkI (fun y18 => wp S 236 0 [(0, rf 252), (1, iv x5), (2, iv 4)] [] s18 (fun o20 s20 => zkI (fun y20 => (y20 ≤ y18 → wp S 261 30 [(0, rf 252), (1, iv x1), (2, iv x2), (3, iv x3), (4, iv x4), (5, iv x5), (6, iv (x6 + 1))] [] s20 Q) ∧ (y18 < y20 → wp S 261 30 [(0, rf 252), (1, iv x1), (2, iv x2), (3, iv x3), (4, iv x4), (5, iv x6), (6, iv (x6 + 1))] [] s20 Q)) (fun e20 => False) o20)) (fun e18 => False) o18)))))) (fun e12 => False) o12))) (fun e9 => False) o9)))) :
    wp S 261 30 [(0, rf 252), (1, iv x1), (2, iv x2), (3, iv x3), (4, iv x4), (5, iv x5), (6, iv x6)] [] s Q := by
  refine i_iload (x := x6) r_261_30 rfl rfl ?_
  refine i_iconst r_261_32 (n_261_32 _) ?_
  obtain ⟨g1, h⟩ := h
  refine i_icmp (t := 94) r_261_33 (n_261_33 _) rfl (T_ge g1 ⟨by omega, by omega⟩) (fun c2 => ?_) (fun c2 => ?_)
  · replace h := h.1 c2
    refine i_iload (x := x5) r_261_94 (n_261_94 _) rfl ?_
    refine i_iconst r_261_96 (n_261_96 _) ?_
    obtain ⟨g3, h⟩ := h
    refine i_icmp (t := 213) r_261_97 (n_261_97 _) rfl (T_eq g3 ⟨by omega, by omega⟩) (fun c4 => ?_) (fun c4 => ?_)
    · replace h := h.1 c4
      refine i_iinc (x := x4) (l' := [(0, rf 252), (1, iv x1), (2, iv x2), (3, iv x3), (4, iv (x4 + 1)), (5, iv x5), (6, iv x6)]) r_261_213 (n_261_213 _) (by decide) rfl rfl ?_
      refine i_goto (t := 18) r_261_216 (n_261_216 _) rfl ?_
      exact wp_pr (l' := [(0, rf 252), (1, iv x1), (2, iv x2), (3, iv x3), (4, iv (x4 + 1))]) rfl h
    · replace h := h.2 c4
      refine i_aload_n (a := 252) r_261_100 (n_261_100 _) rfl ?_
      refine i_iload (x := x5) r_261_101 (n_261_101 _) rfl ?_
      refine i_iconst r_261_103 (n_261_103 _) ?_
      refine wp_virt (b := 252) (rest := []) (Ls := [(0, rf 252), (1, iv x5), (2, iv 4)]) r_261_104 (n_261_104 _) rfl ⟨rfl, rfl, by decide, by decide⟩ rfl rfl lf_252 ⟨rfl, Nat.le_of_ble_eq_true rfl, Nat.le_of_ble_eq_true rfl⟩ rfl h ?_
      intro o5 s5 h
      rcases h with ⟨y5, q6, rfl, h⟩ | ⟨e5, rfl, h⟩
      · refine .inl ⟨some (iv y5), rfl, ?_⟩
        show wp S 261 107 [(0, rf 252), (1, iv x1), (2, iv x2), (3, iv x3), (4, iv x4), (5, iv x5), (6, iv x6)] [iv y5] s5 Q
        refine i_istore (l' := [(0, rf 252), (1, iv x1), (2, iv x2), (3, iv x3), (4, iv x4), (5, iv x5), (6, iv y5)]) r_261_107 (n_261_107 _) (by decide) rfl ?_
        refine i_iload (x := y5) r_261_109 (n_261_109 _) rfl ?_
        refine i_istore_n (l' := [(0, rf 252), (1, iv x1), (2, iv x2), (3, iv y5), (4, iv x4), (5, iv x5), (6, iv y5)]) r_261_111 (n_261_111 _) (by decide) rfl ?_
        refine i_iload_n (x := x2) r_261_112 (n_261_112 _) rfl ?_
        refine i_bipush r_261_113 (n_261_113 _) rfl ?_
        refine wp_stat (rest := []) (Ls := [(0, iv x2), (1, iv 16)]) r_261_115 (n_261_115 _) rfl ⟨rfl, by decide, by decide, by decide⟩ rfl rfl ⟨rfl, Nat.le_of_ble_eq_true rfl, Nat.le_of_ble_eq_true rfl⟩ rfl h ?_
        intro o7 s7 h
        rcases h with ⟨y7, q8, rfl, h⟩ | ⟨e7, rfl, h⟩
        · refine .inl ⟨some (iv y7), rfl, ?_⟩
          show wp S 261 118 [(0, rf 252), (1, iv x1), (2, iv x2), (3, iv y5), (4, iv x4), (5, iv x5), (6, iv y5)] [iv y7] s7 Q
          refine i_istore (l' := [(0, rf 252), (1, iv x1), (2, iv x2), (3, iv y5), (4, iv x4), (5, iv x5), (6, iv y5), (7, iv y7)]) r_261_118 (n_261_118 _) (by decide) rfl ?_
          refine i_iconst r_261_120 (n_261_120 _) ?_
          refine i_istore (l' := [(0, rf 252), (1, iv x1), (2, iv x2), (3, iv y5), (4, iv x4), (5, iv x5), (6, iv y5), (7, iv y7), (8, iv 0)]) r_261_121 (n_261_121 _) (by decide) rfl ?_
          exact wp_pr (l' := [(0, rf 252), (1, iv x1), (3, iv y5), (4, iv x4), (5, iv x5), (6, iv y5), (7, iv y7), (8, iv 0)]) rfl h
        · skip
          exact h.elim
      · skip
        exact h.elim
  · replace h := h.2 c2
    refine i_aload_n (a := 252) r_261_36 (n_261_36 _) rfl ?_
    refine i_iload (x := x6) r_261_37 (n_261_37 _) rfl ?_
    refine wp_virt (b := 252) (rest := []) (Ls := [(0, rf 252), (1, iv x6)]) r_261_39 (n_261_39 _) rfl ⟨rfl, rfl, by decide, by decide⟩ rfl rfl lf_252 ⟨rfl, Nat.le_of_ble_eq_true rfl, Nat.le_of_ble_eq_true rfl⟩ rfl h ?_
    intro o9 s9 h
    rcases h with ⟨y9, q10, rfl, h⟩ | ⟨e9, rfl, h⟩
    · refine .inl ⟨some (iv y9), rfl, ?_⟩
      show wp S 261 42 [(0, rf 252), (1, iv x1), (2, iv x2), (3, iv x3), (4, iv x4), (5, iv x5), (6, iv x6)] [iv y9] s9 Q
      refine i_if (t := 84) r_261_42 (n_261_42 _) rfl (T_eq q10 ⟨by omega, by omega⟩) (fun c11 => ?_) (fun c11 => ?_)
      · replace h := h.1 c11
        refine i_iload (x := x5) r_261_84 (n_261_84 _) rfl ?_
        refine i_istore (l' := [(0, rf 252), (1, iv x1), (2, iv x2), (3, iv x3), (4, iv x4), (5, iv x5), (6, iv x6)]) r_261_86 (n_261_86 _) (by decide) rfl ?_
        refine i_iinc (x := x6) (l' := [(0, rf 252), (1, iv x1), (2, iv x2), (3, iv x3), (4, iv x4), (5, iv x5), (6, iv (x6 + 1))]) r_261_88 (n_261_88 _) (by decide) rfl rfl ?_
        refine i_goto (t := 30) r_261_91 (n_261_91 _) rfl ?_
        exact wp_pr (l' := [(0, rf 252), (1, iv x1), (2, iv x2), (3, iv x3), (4, iv x4), (5, iv x5), (6, iv (x6 + 1))]) rfl h
      · replace h := h.2 c11
        refine i_aload_n (a := 252) r_261_45 (n_261_45 _) rfl ?_
        refine i_iload (x := x6) r_261_46 (n_261_46 _) rfl ?_
        refine i_iconst r_261_48 (n_261_48 _) ?_
        refine wp_virt (b := 252) (rest := []) (Ls := [(0, rf 252), (1, iv x6), (2, iv 4)]) r_261_49 (n_261_49 _) rfl ⟨rfl, rfl, by decide, by decide⟩ rfl rfl lf_252 ⟨rfl, Nat.le_of_ble_eq_true rfl, Nat.le_of_ble_eq_true rfl⟩ rfl h ?_
        intro o12 s12 h
        rcases h with ⟨y12, q13, rfl, h⟩ | ⟨e12, rfl, h⟩
        · refine .inl ⟨some (iv y12), rfl, ?_⟩
          show wp S 261 52 [(0, rf 252), (1, iv x1), (2, iv x2), (3, iv x3), (4, iv x4), (5, iv x5), (6, iv x6)] [iv y12] s12 Q
          refine i_iload_n (x := x3) r_261_52 (n_261_52 _) rfl ?_
          obtain ⟨g14, h⟩ := h
          refine i_icmp (t := 84) r_261_53 (n_261_53 _) rfl (T_le q13 g14) (fun c15 => ?_) (fun c15 => ?_)
          · replace h := h.1 c15
            refine i_iload (x := x5) r_261_84 (n_261_84 _) rfl ?_
            refine i_istore (l' := [(0, rf 252), (1, iv x1), (2, iv x2), (3, iv x3), (4, iv x4), (5, iv x5), (6, iv x6)]) r_261_86 (n_261_86 _) (by decide) rfl ?_
            refine i_iinc (x := x6) (l' := [(0, rf 252), (1, iv x1), (2, iv x2), (3, iv x3), (4, iv x4), (5, iv x5), (6, iv (x6 + 1))]) r_261_88 (n_261_88 _) (by decide) rfl rfl ?_
            refine i_goto (t := 30) r_261_91 (n_261_91 _) rfl ?_
            exact wp_pr (l' := [(0, rf 252), (1, iv x1), (2, iv x2), (3, iv x3), (4, iv x4), (5, iv x5), (6, iv (x6 + 1))]) rfl h
          · replace h := h.2 c15
            refine i_iload (x := x5) r_261_56 (n_261_56 _) rfl ?_
            refine i_iconst r_261_58 (n_261_58 _) ?_
            obtain ⟨g16, h⟩ := h
            refine i_icmp (t := 79) r_261_59 (n_261_59 _) rfl (T_eq g16 ⟨by omega, by omega⟩) (fun c17 => ?_) (fun c17 => ?_)
            · replace h := h.1 c17
              refine i_iload (x := x6) r_261_79 (n_261_79 _) rfl ?_
              refine i_goto (t := 86) r_261_81 (n_261_81 _) rfl ?_
              refine i_istore (l' := [(0, rf 252), (1, iv x1), (2, iv x2), (3, iv x3), (4, iv x4), (5, iv x6), (6, iv x6)]) r_261_86 (n_261_86 _) (by decide) rfl ?_
              refine i_iinc (x := x6) (l' := [(0, rf 252), (1, iv x1), (2, iv x2), (3, iv x3), (4, iv x4), (5, iv x6), (6, iv (x6 + 1))]) r_261_88 (n_261_88 _) (by decide) rfl rfl ?_
              refine i_goto (t := 30) r_261_91 (n_261_91 _) rfl ?_
              exact wp_pr (l' := [(0, rf 252), (1, iv x1), (2, iv x2), (3, iv x3), (4, iv x4), (5, iv x6), (6, iv (x6 + 1))]) rfl h
            · replace h := h.2 c17
              refine i_aload_n (a := 252) r_261_62 (n_261_62 _) rfl ?_
              refine i_iload (x := x6) r_261_63 (n_261_63 _) rfl ?_
              refine i_iconst r_261_65 (n_261_65 _) ?_
              refine wp_virt (b := 252) (rest := []) (Ls := [(0, rf 252), (1, iv x6), (2, iv 4)]) r_261_66 (n_261_66 _) rfl ⟨rfl, rfl, by decide, by decide⟩ rfl rfl lf_252 ⟨rfl, Nat.le_of_ble_eq_true rfl, Nat.le_of_ble_eq_true rfl⟩ rfl h ?_
              intro o18 s18 h
              rcases h with ⟨y18, q19, rfl, h⟩ | ⟨e18, rfl, h⟩
              · refine .inl ⟨some (iv y18), rfl, ?_⟩
                show wp S 261 69 [(0, rf 252), (1, iv x1), (2, iv x2), (3, iv x3), (4, iv x4), (5, iv x5), (6, iv x6)] [iv y18] s18 Q
                refine i_aload_n (a := 252) r_261_69 (n_261_69 _) rfl ?_
                refine i_iload (x := x5) r_261_70 (n_261_70 _) rfl ?_
                refine i_iconst r_261_72 (n_261_72 _) ?_
                refine wp_virt (b := 252) (rest := [iv y18]) (Ls := [(0, rf 252), (1, iv x5), (2, iv 4)]) r_261_73 (n_261_73 _) rfl ⟨rfl, rfl, by decide, by decide⟩ rfl rfl lf_252 ⟨rfl, Nat.le_of_ble_eq_true rfl, Nat.le_of_ble_eq_true rfl⟩ rfl h ?_
                intro o20 s20 h
                rcases h with ⟨y20, q21, rfl, h⟩ | ⟨e20, rfl, h⟩
                · refine .inl ⟨some (iv y20), rfl, ?_⟩
                  show wp S 261 76 [(0, rf 252), (1, iv x1), (2, iv x2), (3, iv x3), (4, iv x4), (5, iv x5), (6, iv x6)] [iv y20, iv y18] s20 Q
                  refine i_icmp (t := 84) r_261_76 (n_261_76 _) rfl (T_ge q19 q21) (fun c22 => ?_) (fun c22 => ?_)
                  · replace h := h.1 c22
                    refine i_iload (x := x5) r_261_84 (n_261_84 _) rfl ?_
                    refine i_istore (l' := [(0, rf 252), (1, iv x1), (2, iv x2), (3, iv x3), (4, iv x4), (5, iv x5), (6, iv x6)]) r_261_86 (n_261_86 _) (by decide) rfl ?_
                    refine i_iinc (x := x6) (l' := [(0, rf 252), (1, iv x1), (2, iv x2), (3, iv x3), (4, iv x4), (5, iv x5), (6, iv (x6 + 1))]) r_261_88 (n_261_88 _) (by decide) rfl rfl ?_
                    refine i_goto (t := 30) r_261_91 (n_261_91 _) rfl ?_
                    exact wp_pr (l' := [(0, rf 252), (1, iv x1), (2, iv x2), (3, iv x3), (4, iv x4), (5, iv x5), (6, iv (x6 + 1))]) rfl h
                  · replace h := h.2 c22
                    refine i_iload (x := x6) r_261_79 (n_261_79 _) rfl ?_
                    refine i_goto (t := 86) r_261_81 (n_261_81 _) rfl ?_
                    refine i_istore (l' := [(0, rf 252), (1, iv x1), (2, iv x2), (3, iv x3), (4, iv x4), (5, iv x6), (6, iv x6)]) r_261_86 (n_261_86 _) (by decide) rfl ?_
                    refine i_iinc (x := x6) (l' := [(0, rf 252), (1, iv x1), (2, iv x2), (3, iv x3), (4, iv x4), (5, iv x6), (6, iv (x6 + 1))]) r_261_88 (n_261_88 _) (by decide) rfl rfl ?_
                    refine i_goto (t := 30) r_261_91 (n_261_91 _) rfl ?_
                    exact wp_pr (l' := [(0, rf 252), (1, iv x1), (2, iv x2), (3, iv x3), (4, iv x4), (5, iv x6), (6, iv (x6 + 1))]) rfl h
                · skip
                  exact h.elim
              · skip
                exact h.elim
        · skip
          exact h.elim
    · skip
      exact h.elim
theorem v_Model_compact_123 {S : Option (Nat × (Nat → Int32))} {s : zSt} {Q : Option Value ⊕ Nat → zSt → Prop} {x1 : Int} {x3 : Int} {x4 : Int} {x5 : Int} {x6 : Int} {x7 : Int} {x8 : Int} 
    (h : wp S 236 0 [(0, rf 252), (1, iv x5), (2, iv 5)] [] s (fun o1 s1 => zkI (fun y1 => rng x8 ∧ ((y1 ≤ x8 → (0 ≤ ((157 + (6 * x5)) + 4) ∧ ((157 + (6 * x5)) + 4) < 1199) ∧ (rng x7 ∧ (rng x6 ∧ ((x7 ≠ x6 → wp S 236 0 [(0, rf 252), (1, iv x5), (2, iv 5)] [] (zwI s1 253 ((157 + (6 * x5)) + 4) x7) (fun o9 s9 => zkI (fun y9 => wp S 261 18 [(0, rf 252), (1, iv (x1 + 1)), (2, iv (x7 + y9)), (3, iv x3), (4, iv (x4 + 1))] [] s9 Q) (fun e9 => False) o9)) ∧ (x7 = x6 → wp S 236 0 [(0, rf 252), (1, iv x5), (2, iv 5)] [] (zwI s1 253 ((157 + (6 * x5)) + 4) x7) (fun o11 s11 => zkI (fun y11 => wp S 261 18 [(0, rf 252), (1, iv (x1 + 0)), (2, iv (x7 + y11)), (3, iv x3), (4, iv (x4 + 1))] [] s11 Q) (fun e11 => False) o11)))))) ∧ (x8 < y1 → (0 ≤ ((175 + x6) + x8) ∧ ((175 + x6) + x8) < 1199) ∧ ((0 ≤ ((175 + x7) + x8) ∧ ((175 + x7) + x8) < 1199) ∧ (wp S 261 123 [(0, rf 252), (1, iv x1), (3, iv x3), (4, iv x4), (5, iv x5), (6, iv x6), (7, iv x7), (8, iv (x8 + 1))] [] (zwI s1 253 ((175 + x7) + x8) (zI s1 253 ((175 + x6) + x8))) Q))))) (fun e1 => False) o1)) :
    wp S 261 123 [(0, rf 252), (1, iv x1), (3, iv x3), (4, iv x4), (5, iv x5), (6, iv x6), (7, iv x7), (8, iv x8)] [] s Q := by
  refine i_iload (x := x8) r_261_123 rfl rfl ?_
  refine i_aload_n (a := 252) r_261_125 (n_261_125 _) rfl ?_
  refine i_iload (x := x5) r_261_126 (n_261_126 _) rfl ?_
  refine i_iconst r_261_128 (n_261_128 _) ?_
  refine wp_virt (b := 252) (rest := [iv x8]) (Ls := [(0, rf 252), (1, iv x5), (2, iv 5)]) r_261_129 (n_261_129 _) rfl ⟨rfl, rfl, by decide, by decide⟩ rfl rfl lf_252 ⟨rfl, Nat.le_of_ble_eq_true rfl, Nat.le_of_ble_eq_true rfl⟩ rfl h ?_
  intro o1 s1 h
  rcases h with ⟨y1, q2, rfl, h⟩ | ⟨e1, rfl, h⟩
  · refine .inl ⟨some (iv y1), rfl, ?_⟩
    show wp S 261 132 [(0, rf 252), (1, iv x1), (3, iv x3), (4, iv x4), (5, iv x5), (6, iv x6), (7, iv x7), (8, iv x8)] [iv y1, iv x8] s1 Q
    obtain ⟨g3, h⟩ := h
    refine i_icmp (t := 169) r_261_132 (n_261_132 _) rfl (T_ge g3 q2) (fun c4 => ?_) (fun c4 => ?_)
    · replace h := h.1 c4
      refine i_aload_n (a := 252) r_261_169 (n_261_169 _) rfl ?_
      refine i_getR (a := 252) (b := 253) r_261_170 (n_261_170 _) rfl rfl rfl (by omega) lf_252 (by omega) ?_
      refine i_sipush r_261_173 (n_261_173 _) rfl ?_
      refine i_bipush r_261_176 (n_261_176 _) rfl ?_
      refine i_iload (x := x5) r_261_178 (n_261_178 _) rfl ?_
      refine i_imul r_261_180 (n_261_180 _) ?_
      refine i_iadd r_261_181 (n_261_181 _) ?_
      refine i_iconst r_261_182 (n_261_182 _) ?_
      refine i_iadd r_261_183 (n_261_183 _) ?_
      refine i_iload (x := x7) r_261_184 (n_261_184 _) rfl ?_
      obtain ⟨g5, h⟩ := h
      obtain ⟨g6, h⟩ := h
      refine i_iastore (a := 253) (j := (157 + (6 * x5)) + 4) (x := x7) r_261_186 (n_261_186 _) lf_253 ⟨by omega, by omega⟩ (by omega) (by omega) g6 ?_
      refine i_iload_n (x := x1) r_261_187 (n_261_187 _) rfl ?_
      refine i_iload (x := x7) r_261_188 (n_261_188 _) rfl ?_
      refine i_iload (x := x6) r_261_190 (n_261_190 _) rfl ?_
      obtain ⟨g7, h⟩ := h
      refine i_icmp (t := 199) r_261_192 (n_261_192 _) rfl (T_ne g6 g7) (fun c8 => ?_) (fun c8 => ?_)
      · replace h := h.1 c8
        refine i_iconst r_261_199 (n_261_199 _) ?_
        refine i_iadd r_261_200 (n_261_200 _) ?_
        refine i_istore_n (l' := [(0, rf 252), (1, iv (x1 + 1)), (3, iv x3), (4, iv x4), (5, iv x5), (6, iv x6), (7, iv x7), (8, iv x8)]) r_261_201 (n_261_201 _) (by decide) rfl ?_
        refine i_iload (x := x7) r_261_202 (n_261_202 _) rfl ?_
        refine i_aload_n (a := 252) r_261_204 (n_261_204 _) rfl ?_
        refine i_iload (x := x5) r_261_205 (n_261_205 _) rfl ?_
        refine i_iconst r_261_207 (n_261_207 _) ?_
        refine wp_virt (b := 252) (rest := [iv x7]) (Ls := [(0, rf 252), (1, iv x5), (2, iv 5)]) r_261_208 (n_261_208 _) rfl ⟨rfl, rfl, by decide, by decide⟩ rfl rfl lf_252 ⟨rfl, Nat.le_of_ble_eq_true rfl, Nat.le_of_ble_eq_true rfl⟩ rfl h ?_
        intro o9 s9 h
        rcases h with ⟨y9, q10, rfl, h⟩ | ⟨e9, rfl, h⟩
        · refine .inl ⟨some (iv y9), rfl, ?_⟩
          show wp S 261 211 [(0, rf 252), (1, iv (x1 + 1)), (3, iv x3), (4, iv x4), (5, iv x5), (6, iv x6), (7, iv x7), (8, iv x8)] [iv y9, iv x7] s9 Q
          refine i_iadd r_261_211 (n_261_211 _) ?_
          refine i_istore_n (l' := [(0, rf 252), (1, iv (x1 + 1)), (2, iv (x7 + y9)), (3, iv x3), (4, iv x4), (5, iv x5), (6, iv x6), (7, iv x7), (8, iv x8)]) r_261_212 (n_261_212 _) (by decide) rfl ?_
          refine i_iinc (x := x4) (l' := [(0, rf 252), (1, iv (x1 + 1)), (2, iv (x7 + y9)), (3, iv x3), (4, iv (x4 + 1)), (5, iv x5), (6, iv x6), (7, iv x7), (8, iv x8)]) r_261_213 (n_261_213 _) (by decide) rfl rfl ?_
          refine i_goto (t := 18) r_261_216 (n_261_216 _) rfl ?_
          exact wp_pr (l' := [(0, rf 252), (1, iv (x1 + 1)), (2, iv (x7 + y9)), (3, iv x3), (4, iv (x4 + 1))]) rfl h
        · skip
          exact h.elim
      · replace h := h.2 c8
        refine i_iconst r_261_195 (n_261_195 _) ?_
        refine i_goto (t := 200) r_261_196 (n_261_196 _) rfl ?_
        refine i_iadd r_261_200 (n_261_200 _) ?_
        refine i_istore_n (l' := [(0, rf 252), (1, iv (x1 + 0)), (3, iv x3), (4, iv x4), (5, iv x5), (6, iv x6), (7, iv x7), (8, iv x8)]) r_261_201 (n_261_201 _) (by decide) rfl ?_
        refine i_iload (x := x7) r_261_202 (n_261_202 _) rfl ?_
        refine i_aload_n (a := 252) r_261_204 (n_261_204 _) rfl ?_
        refine i_iload (x := x5) r_261_205 (n_261_205 _) rfl ?_
        refine i_iconst r_261_207 (n_261_207 _) ?_
        refine wp_virt (b := 252) (rest := [iv x7]) (Ls := [(0, rf 252), (1, iv x5), (2, iv 5)]) r_261_208 (n_261_208 _) rfl ⟨rfl, rfl, by decide, by decide⟩ rfl rfl lf_252 ⟨rfl, Nat.le_of_ble_eq_true rfl, Nat.le_of_ble_eq_true rfl⟩ rfl h ?_
        intro o11 s11 h
        rcases h with ⟨y11, q12, rfl, h⟩ | ⟨e11, rfl, h⟩
        · refine .inl ⟨some (iv y11), rfl, ?_⟩
          show wp S 261 211 [(0, rf 252), (1, iv (x1 + 0)), (3, iv x3), (4, iv x4), (5, iv x5), (6, iv x6), (7, iv x7), (8, iv x8)] [iv y11, iv x7] s11 Q
          refine i_iadd r_261_211 (n_261_211 _) ?_
          refine i_istore_n (l' := [(0, rf 252), (1, iv (x1 + 0)), (2, iv (x7 + y11)), (3, iv x3), (4, iv x4), (5, iv x5), (6, iv x6), (7, iv x7), (8, iv x8)]) r_261_212 (n_261_212 _) (by decide) rfl ?_
          refine i_iinc (x := x4) (l' := [(0, rf 252), (1, iv (x1 + 0)), (2, iv (x7 + y11)), (3, iv x3), (4, iv (x4 + 1)), (5, iv x5), (6, iv x6), (7, iv x7), (8, iv x8)]) r_261_213 (n_261_213 _) (by decide) rfl rfl ?_
          refine i_goto (t := 18) r_261_216 (n_261_216 _) rfl ?_
          exact wp_pr (l' := [(0, rf 252), (1, iv (x1 + 0)), (2, iv (x7 + y11)), (3, iv x3), (4, iv (x4 + 1))]) rfl h
        · skip
          exact h.elim
    · replace h := h.2 c4
      refine i_aload_n (a := 252) r_261_135 (n_261_135 _) rfl ?_
      refine i_getR (a := 252) (b := 253) r_261_136 (n_261_136 _) rfl rfl rfl (by omega) lf_252 (by omega) ?_
      refine i_sipush r_261_139 (n_261_139 _) rfl ?_
      refine i_iload (x := x7) r_261_142 (n_261_142 _) rfl ?_
      refine i_iadd r_261_144 (n_261_144 _) ?_
      refine i_iload (x := x8) r_261_145 (n_261_145 _) rfl ?_
      refine i_iadd r_261_147 (n_261_147 _) ?_
      refine i_aload_n (a := 252) r_261_148 (n_261_148 _) rfl ?_
      refine i_getR (a := 252) (b := 253) r_261_149 (n_261_149 _) rfl rfl rfl (by omega) lf_252 (by omega) ?_
      refine i_sipush r_261_152 (n_261_152 _) rfl ?_
      refine i_iload (x := x6) r_261_155 (n_261_155 _) rfl ?_
      refine i_iadd r_261_157 (n_261_157 _) ?_
      refine i_iload (x := x8) r_261_158 (n_261_158 _) rfl ?_
      refine i_iadd r_261_160 (n_261_160 _) ?_
      obtain ⟨g13, h⟩ := h
      refine i_iaload (a := 253) (j := (175 + x6) + x8) r_261_161 (n_261_161 _) lf_253 ⟨by omega, by omega⟩ (by omega) (by omega) (fun q14 => ?_)
      obtain ⟨g15, h⟩ := h
      refine i_iastore (a := 253) (j := (175 + x7) + x8) (x := zI s1 253 ((175 + x6) + x8)) r_261_162 (n_261_162 _) lf_253 ⟨by omega, by omega⟩ (by omega) (by omega) q14 ?_
      refine i_iinc (x := x8) (l' := [(0, rf 252), (1, iv x1), (3, iv x3), (4, iv x4), (5, iv x5), (6, iv x6), (7, iv x7), (8, iv (x8 + 1))]) r_261_163 (n_261_163 _) (by decide) rfl rfl ?_
      refine i_goto (t := 123) r_261_166 (n_261_166 _) rfl ?_
      exact wp_pr (l' := [(0, rf 252), (1, iv x1), (3, iv x3), (4, iv x4), (5, iv x5), (6, iv x6), (7, iv x7), (8, iv (x8 + 1))]) rfl h
  · skip
    exact h.elim
theorem r_262_0 : xfetch 262 0 = some (.aload_n 0, 1) := by decide +kernel
theorem n_262_0 : ∀ l, xpr 262 0 l = l := xpr_no (by decide +kernel)
theorem r_262_1 : xfetch 262 1 = some (.aload_n 0, 1) := by decide +kernel
theorem n_262_1 : ∀ l, xpr 262 1 l = l := xpr_no (by decide +kernel)
theorem r_262_2 : xfetch 262 2 = some (.aload_n 0, 1) := by decide +kernel
theorem n_262_2 : ∀ l, xpr 262 2 l = l := xpr_no (by decide +kernel)
theorem r_262_3 : xfetch 262 3 = some (.iload_n 1, 1) := by decide +kernel
theorem n_262_3 : ∀ l, xpr 262 3 l = l := xpr_no (by decide +kernel)
theorem r_262_4 : xfetch 262 4 = some (.iload_n 2, 1) := by decide +kernel
theorem n_262_4 : ∀ l, xpr 262 4 l = l := xpr_no (by decide +kernel)
theorem r_262_5 : xfetch 262 5 = some (.invokevirtual 254, 3) := by decide +kernel
theorem n_262_5 : ∀ l, xpr 262 5 l = l := xpr_no (by decide +kernel)
theorem r_262_8 : xfetch 262 8 = some (.invokevirtual 175, 3) := by decide +kernel
theorem n_262_8 : ∀ l, xpr 262 8 l = l := xpr_no (by decide +kernel)
theorem r_262_11 : xfetch 262 11 = some (.invokevirtual 84, 3) := by decide +kernel
theorem n_262_11 : ∀ l, xpr 262 11 l = l := xpr_no (by decide +kernel)
theorem r_262_14 : xfetch 262 14 = some (.ifCond .eq 5, 3) := by decide +kernel
theorem n_262_14 : ∀ l, xpr 262 14 l = l := xpr_no (by decide +kernel)
theorem r_262_17 : xfetch 262 17 = some (.iconst 0, 1) := by decide +kernel
theorem n_262_17 : ∀ l, xpr 262 17 l = l := xpr_no (by decide +kernel)
theorem r_262_18 : xfetch 262 18 = some (.ireturn, 1) := by decide +kernel
theorem n_262_18 : ∀ l, xpr 262 18 l = l := xpr_no (by decide +kernel)
theorem r_262_19 : xfetch 262 19 = some (.aload_n 0, 1) := by decide +kernel
theorem n_262_19 : ∀ l, xpr 262 19 l = l := xpr_no (by decide +kernel)
theorem r_262_20 : xfetch 262 20 = some (.invokevirtual 135, 3) := by decide +kernel
theorem n_262_20 : ∀ l, xpr 262 20 l = l := xpr_no (by decide +kernel)
theorem r_262_23 : xfetch 262 23 = some (.aload_n 0, 1) := by decide +kernel
theorem n_262_23 : ∀ l, xpr 262 23 l = l := xpr_no (by decide +kernel)
theorem r_262_24 : xfetch 262 24 = some (.iload_n 1, 1) := by decide +kernel
theorem n_262_24 : ∀ l, xpr 262 24 l = l := xpr_no (by decide +kernel)
theorem r_262_25 : xfetch 262 25 = some (.invokevirtual 284, 3) := by decide +kernel
theorem n_262_25 : ∀ l, xpr 262 25 l = l := xpr_no (by decide +kernel)
theorem r_262_28 : xfetch 262 28 = some (.iconst 0, 1) := by decide +kernel
theorem n_262_28 : ∀ l, xpr 262 28 l = l := xpr_no (by decide +kernel)
theorem r_262_29 : xfetch 262 29 = some (.istore 4, 2) := by decide +kernel
theorem n_262_29 : ∀ l, xpr 262 29 l = l := xpr_no (by decide +kernel)
theorem r_262_31 : xfetch 262 31 = some (.iconst 0, 1) := by decide +kernel
theorem n_262_31 : ∀ l, xpr 262 31 l = l := xpr_no (by decide +kernel)
theorem r_262_32 : xfetch 262 32 = some (.istore 5, 2) := by decide +kernel
theorem n_262_32 : ∀ l, xpr 262 32 l = l := xpr_no (by decide +kernel)
theorem r_262_34 : xfetch 262 34 = some (.iload 5, 2) := by decide +kernel
theorem r_262_36 : xfetch 262 36 = some (.aload_n 0, 1) := by decide +kernel
theorem n_262_36 : ∀ l, xpr 262 36 l = l := xpr_no (by decide +kernel)
theorem r_262_37 : xfetch 262 37 = some (.iload_n 1, 1) := by decide +kernel
theorem n_262_37 : ∀ l, xpr 262 37 l = l := xpr_no (by decide +kernel)
theorem r_262_38 : xfetch 262 38 = some (.iconst 1, 1) := by decide +kernel
theorem n_262_38 : ∀ l, xpr 262 38 l = l := xpr_no (by decide +kernel)
theorem r_262_39 : xfetch 262 39 = some (.invokevirtual 228, 3) := by decide +kernel
theorem n_262_39 : ∀ l, xpr 262 39 l = l := xpr_no (by decide +kernel)
theorem r_262_42 : xfetch 262 42 = some (.if_icmp .ge 136, 3) := by decide +kernel
theorem n_262_42 : ∀ l, xpr 262 42 l = l := xpr_no (by decide +kernel)
theorem r_262_45 : xfetch 262 45 = some (.iconst 0, 1) := by decide +kernel
theorem n_262_45 : ∀ l, xpr 262 45 l = l := xpr_no (by decide +kernel)
theorem r_262_46 : xfetch 262 46 = some (.istore 6, 2) := by decide +kernel
theorem n_262_46 : ∀ l, xpr 262 46 l = l := xpr_no (by decide +kernel)
theorem r_262_48 : xfetch 262 48 = some (.iconst 0, 1) := by decide +kernel
theorem n_262_48 : ∀ l, xpr 262 48 l = l := xpr_no (by decide +kernel)
theorem r_262_49 : xfetch 262 49 = some (.istore 7, 2) := by decide +kernel
theorem n_262_49 : ∀ l, xpr 262 49 l = l := xpr_no (by decide +kernel)
theorem r_262_51 : xfetch 262 51 = some (.iload 7, 2) := by decide +kernel
theorem r_262_53 : xfetch 262 53 = some (.aload_n 0, 1) := by decide +kernel
theorem n_262_53 : ∀ l, xpr 262 53 l = l := xpr_no (by decide +kernel)
theorem r_262_54 : xfetch 262 54 = some (.iload_n 1, 1) := by decide +kernel
theorem n_262_54 : ∀ l, xpr 262 54 l = l := xpr_no (by decide +kernel)
theorem r_262_55 : xfetch 262 55 = some (.iconst 1, 1) := by decide +kernel
theorem n_262_55 : ∀ l, xpr 262 55 l = l := xpr_no (by decide +kernel)
theorem r_262_56 : xfetch 262 56 = some (.invokevirtual 228, 3) := by decide +kernel
theorem n_262_56 : ∀ l, xpr 262 56 l = l := xpr_no (by decide +kernel)
theorem r_262_59 : xfetch 262 59 = some (.if_icmp .ge 87, 3) := by decide +kernel
theorem n_262_59 : ∀ l, xpr 262 59 l = l := xpr_no (by decide +kernel)
theorem r_262_62 : xfetch 262 62 = some (.aload_n 0, 1) := by decide +kernel
theorem n_262_62 : ∀ l, xpr 262 62 l = l := xpr_no (by decide +kernel)
theorem r_262_63 : xfetch 262 63 = some (.getfield 67, 3) := by decide +kernel
theorem n_262_63 : ∀ l, xpr 262 63 l = l := xpr_no (by decide +kernel)
theorem r_262_66 : xfetch 262 66 = some (.bipush 40, 2) := by decide +kernel
theorem n_262_66 : ∀ l, xpr 262 66 l = l := xpr_no (by decide +kernel)
theorem r_262_68 : xfetch 262 68 = some (.iload 7, 2) := by decide +kernel
theorem n_262_68 : ∀ l, xpr 262 68 l = l := xpr_no (by decide +kernel)
theorem r_262_70 : xfetch 262 70 = some (.imul, 1) := by decide +kernel
theorem n_262_70 : ∀ l, xpr 262 70 l = l := xpr_no (by decide +kernel)
theorem r_262_71 : xfetch 262 71 = some (.iload_n 2, 1) := by decide +kernel
theorem n_262_71 : ∀ l, xpr 262 71 l = l := xpr_no (by decide +kernel)
theorem r_262_72 : xfetch 262 72 = some (.iadd, 1) := by decide +kernel
theorem n_262_72 : ∀ l, xpr 262 72 l = l := xpr_no (by decide +kernel)
theorem r_262_73 : xfetch 262 73 = some (.laload, 1) := by decide +kernel
theorem n_262_73 : ∀ l, xpr 262 73 l = l := xpr_no (by decide +kernel)
theorem r_262_74 : xfetch 262 74 = some (.lstore 8, 2) := by decide +kernel
theorem n_262_74 : ∀ l, xpr 262 74 l = l := xpr_no (by decide +kernel)
theorem r_262_76 : xfetch 262 76 = some (.aload_n 0, 1) := by decide +kernel
theorem n_262_76 : ∀ l, xpr 262 76 l = l := xpr_no (by decide +kernel)
theorem r_262_77 : xfetch 262 77 = some (.getfield 67, 3) := by decide +kernel
theorem n_262_77 : ∀ l, xpr 262 77 l = l := xpr_no (by decide +kernel)
theorem r_262_80 : xfetch 262 80 = some (.bipush 40, 2) := by decide +kernel
theorem n_262_80 : ∀ l, xpr 262 80 l = l := xpr_no (by decide +kernel)
theorem r_262_82 : xfetch 262 82 = some (.iload 5, 2) := by decide +kernel
theorem n_262_82 : ∀ l, xpr 262 82 l = l := xpr_no (by decide +kernel)
theorem r_262_84 : xfetch 262 84 = some (.imul, 1) := by decide +kernel
theorem n_262_84 : ∀ l, xpr 262 84 l = l := xpr_no (by decide +kernel)
theorem r_262_85 : xfetch 262 85 = some (.iload_n 2, 1) := by decide +kernel
theorem n_262_85 : ∀ l, xpr 262 85 l = l := xpr_no (by decide +kernel)
theorem r_262_86 : xfetch 262 86 = some (.iadd, 1) := by decide +kernel
theorem n_262_86 : ∀ l, xpr 262 86 l = l := xpr_no (by decide +kernel)
theorem r_262_87 : xfetch 262 87 = some (.laload, 1) := by decide +kernel
theorem n_262_87 : ∀ l, xpr 262 87 l = l := xpr_no (by decide +kernel)
theorem r_262_88 : xfetch 262 88 = some (.lstore 10, 2) := by decide +kernel
theorem n_262_88 : ∀ l, xpr 262 88 l = l := xpr_no (by decide +kernel)
theorem r_262_90 : xfetch 262 90 = some (.iload 6, 2) := by decide +kernel
theorem n_262_90 : ∀ l, xpr 262 90 l = l := xpr_no (by decide +kernel)
theorem r_262_92 : xfetch 262 92 = some (.lload 8, 2) := by decide +kernel
theorem n_262_92 : ∀ l, xpr 262 92 l = l := xpr_no (by decide +kernel)
theorem r_262_94 : xfetch 262 94 = some (.lload 10, 2) := by decide +kernel
theorem n_262_94 : ∀ l, xpr 262 94 l = l := xpr_no (by decide +kernel)
theorem r_262_96 : xfetch 262 96 = some (.lcmp, 1) := by decide +kernel
theorem n_262_96 : ∀ l, xpr 262 96 l = l := xpr_no (by decide +kernel)
theorem r_262_97 : xfetch 262 97 = some (.ifCond .ne 18, 3) := by decide +kernel
theorem n_262_97 : ∀ l, xpr 262 97 l = l := xpr_no (by decide +kernel)
theorem r_262_100 : xfetch 262 100 = some (.iload 7, 2) := by decide +kernel
theorem n_262_100 : ∀ l, xpr 262 100 l = l := xpr_no (by decide +kernel)
theorem r_262_102 : xfetch 262 102 = some (.iload 5, 2) := by decide +kernel
theorem n_262_102 : ∀ l, xpr 262 102 l = l := xpr_no (by decide +kernel)
theorem r_262_104 : xfetch 262 104 = some (.if_icmp .ge 7, 3) := by decide +kernel
theorem n_262_104 : ∀ l, xpr 262 104 l = l := xpr_no (by decide +kernel)
theorem r_262_107 : xfetch 262 107 = some (.iconst 1, 1) := by decide +kernel
theorem n_262_107 : ∀ l, xpr 262 107 l = l := xpr_no (by decide +kernel)
theorem r_262_108 : xfetch 262 108 = some (.goto 29, 3) := by decide +kernel
theorem n_262_108 : ∀ l, xpr 262 108 l = l := xpr_no (by decide +kernel)
theorem r_262_111 : xfetch 262 111 = some (.iconst 0, 1) := by decide +kernel
theorem n_262_111 : ∀ l, xpr 262 111 l = l := xpr_no (by decide +kernel)
theorem r_262_112 : xfetch 262 112 = some (.goto 25, 3) := by decide +kernel
theorem n_262_112 : ∀ l, xpr 262 112 l = l := xpr_no (by decide +kernel)
theorem r_262_115 : xfetch 262 115 = some (.lload 8, 2) := by decide +kernel
theorem n_262_115 : ∀ l, xpr 262 115 l = l := xpr_no (by decide +kernel)
theorem r_262_117 : xfetch 262 117 = some (.lload 10, 2) := by decide +kernel
theorem n_262_117 : ∀ l, xpr 262 117 l = l := xpr_no (by decide +kernel)
theorem r_262_119 : xfetch 262 119 = some (.lcmp, 1) := by decide +kernel
theorem n_262_119 : ∀ l, xpr 262 119 l = l := xpr_no (by decide +kernel)
theorem r_262_120 : xfetch 262 120 = some (.ifCond .ge 7, 3) := by decide +kernel
theorem n_262_120 : ∀ l, xpr 262 120 l = l := xpr_no (by decide +kernel)
theorem r_262_123 : xfetch 262 123 = some (.iconst 1, 1) := by decide +kernel
theorem n_262_123 : ∀ l, xpr 262 123 l = l := xpr_no (by decide +kernel)
theorem r_262_124 : xfetch 262 124 = some (.goto 4, 3) := by decide +kernel
theorem n_262_124 : ∀ l, xpr 262 124 l = l := xpr_no (by decide +kernel)
theorem r_262_127 : xfetch 262 127 = some (.iconst 0, 1) := by decide +kernel
theorem n_262_127 : ∀ l, xpr 262 127 l = l := xpr_no (by decide +kernel)
theorem r_262_128 : xfetch 262 128 = some (.iload_n 3, 1) := by decide +kernel
theorem n_262_128 : ∀ l, xpr 262 128 l = l := xpr_no (by decide +kernel)
theorem r_262_129 : xfetch 262 129 = some (.if_icmp .eq 7, 3) := by decide +kernel
theorem n_262_129 : ∀ l, xpr 262 129 l = l := xpr_no (by decide +kernel)
theorem r_262_132 : xfetch 262 132 = some (.iconst 1, 1) := by decide +kernel
theorem n_262_132 : ∀ l, xpr 262 132 l = l := xpr_no (by decide +kernel)
theorem r_262_133 : xfetch 262 133 = some (.goto 4, 3) := by decide +kernel
theorem n_262_133 : ∀ l, xpr 262 133 l = l := xpr_no (by decide +kernel)
theorem r_262_136 : xfetch 262 136 = some (.iconst 0, 1) := by decide +kernel
theorem n_262_136 : ∀ l, xpr 262 136 l = l := xpr_no (by decide +kernel)
theorem r_262_137 : xfetch 262 137 = some (.iadd, 1) := by decide +kernel
theorem n_262_137 : ∀ l, xpr 262 137 l = l := xpr_no (by decide +kernel)
theorem r_262_138 : xfetch 262 138 = some (.istore 6, 2) := by decide +kernel
theorem n_262_138 : ∀ l, xpr 262 138 l = l := xpr_no (by decide +kernel)
theorem r_262_140 : xfetch 262 140 = some (.iinc 7 1, 3) := by decide +kernel
theorem n_262_140 : ∀ l, xpr 262 140 l = l := xpr_no (by decide +kernel)
theorem r_262_143 : xfetch 262 143 = some (.goto (-92), 3) := by decide +kernel
theorem n_262_143 : ∀ l, xpr 262 143 l = l := xpr_no (by decide +kernel)
theorem r_262_146 : xfetch 262 146 = some (.aload_n 0, 1) := by decide +kernel
theorem n_262_146 : ∀ l, xpr 262 146 l = l := xpr_no (by decide +kernel)
theorem r_262_147 : xfetch 262 147 = some (.getfield 71, 3) := by decide +kernel
theorem n_262_147 : ∀ l, xpr 262 147 l = l := xpr_no (by decide +kernel)
theorem r_262_150 : xfetch 262 150 = some (.iload 5, 2) := by decide +kernel
theorem n_262_150 : ∀ l, xpr 262 150 l = l := xpr_no (by decide +kernel)
theorem r_262_152 : xfetch 262 152 = some (.iload 6, 2) := by decide +kernel
theorem n_262_152 : ∀ l, xpr 262 152 l = l := xpr_no (by decide +kernel)
theorem r_262_154 : xfetch 262 154 = some (.iastore, 1) := by decide +kernel
theorem n_262_154 : ∀ l, xpr 262 154 l = l := xpr_no (by decide +kernel)
theorem r_262_155 : xfetch 262 155 = some (.iload 4, 2) := by decide +kernel
theorem n_262_155 : ∀ l, xpr 262 155 l = l := xpr_no (by decide +kernel)
theorem r_262_157 : xfetch 262 157 = some (.iload 6, 2) := by decide +kernel
theorem n_262_157 : ∀ l, xpr 262 157 l = l := xpr_no (by decide +kernel)
theorem r_262_159 : xfetch 262 159 = some (.iload 5, 2) := by decide +kernel
theorem n_262_159 : ∀ l, xpr 262 159 l = l := xpr_no (by decide +kernel)
theorem r_262_161 : xfetch 262 161 = some (.if_icmp .ne 7, 3) := by decide +kernel
theorem n_262_161 : ∀ l, xpr 262 161 l = l := xpr_no (by decide +kernel)
theorem r_262_164 : xfetch 262 164 = some (.iconst 0, 1) := by decide +kernel
theorem n_262_164 : ∀ l, xpr 262 164 l = l := xpr_no (by decide +kernel)
theorem r_262_165 : xfetch 262 165 = some (.goto 4, 3) := by decide +kernel
theorem n_262_165 : ∀ l, xpr 262 165 l = l := xpr_no (by decide +kernel)
theorem r_262_168 : xfetch 262 168 = some (.iconst 1, 1) := by decide +kernel
theorem n_262_168 : ∀ l, xpr 262 168 l = l := xpr_no (by decide +kernel)
theorem r_262_169 : xfetch 262 169 = some (.iadd, 1) := by decide +kernel
theorem n_262_169 : ∀ l, xpr 262 169 l = l := xpr_no (by decide +kernel)
theorem r_262_170 : xfetch 262 170 = some (.istore 4, 2) := by decide +kernel
theorem n_262_170 : ∀ l, xpr 262 170 l = l := xpr_no (by decide +kernel)
theorem r_262_172 : xfetch 262 172 = some (.iinc 5 1, 3) := by decide +kernel
theorem n_262_172 : ∀ l, xpr 262 172 l = l := xpr_no (by decide +kernel)
theorem r_262_175 : xfetch 262 175 = some (.goto (-141), 3) := by decide +kernel
theorem n_262_175 : ∀ l, xpr 262 175 l = l := xpr_no (by decide +kernel)
theorem r_262_178 : xfetch 262 178 = some (.iconst 0, 1) := by decide +kernel
theorem n_262_178 : ∀ l, xpr 262 178 l = l := xpr_no (by decide +kernel)
theorem r_262_179 : xfetch 262 179 = some (.istore 5, 2) := by decide +kernel
theorem n_262_179 : ∀ l, xpr 262 179 l = l := xpr_no (by decide +kernel)
theorem r_262_181 : xfetch 262 181 = some (.iload 5, 2) := by decide +kernel
theorem r_262_183 : xfetch 262 183 = some (.aload_n 0, 1) := by decide +kernel
theorem n_262_183 : ∀ l, xpr 262 183 l = l := xpr_no (by decide +kernel)
theorem r_262_184 : xfetch 262 184 = some (.iload_n 1, 1) := by decide +kernel
theorem n_262_184 : ∀ l, xpr 262 184 l = l := xpr_no (by decide +kernel)
theorem r_262_185 : xfetch 262 185 = some (.iconst 1, 1) := by decide +kernel
theorem n_262_185 : ∀ l, xpr 262 185 l = l := xpr_no (by decide +kernel)
theorem r_262_186 : xfetch 262 186 = some (.invokevirtual 228, 3) := by decide +kernel
theorem n_262_186 : ∀ l, xpr 262 186 l = l := xpr_no (by decide +kernel)
theorem r_262_189 : xfetch 262 189 = some (.if_icmp .ge 61, 3) := by decide +kernel
theorem n_262_189 : ∀ l, xpr 262 189 l = l := xpr_no (by decide +kernel)
theorem r_262_192 : xfetch 262 192 = some (.iconst 0, 1) := by decide +kernel
theorem n_262_192 : ∀ l, xpr 262 192 l = l := xpr_no (by decide +kernel)
theorem r_262_193 : xfetch 262 193 = some (.istore 6, 2) := by decide +kernel
theorem n_262_193 : ∀ l, xpr 262 193 l = l := xpr_no (by decide +kernel)
theorem r_262_195 : xfetch 262 195 = some (.iload 6, 2) := by decide +kernel
theorem r_262_197 : xfetch 262 197 = some (.aload_n 0, 1) := by decide +kernel
theorem n_262_197 : ∀ l, xpr 262 197 l = l := xpr_no (by decide +kernel)
theorem r_262_198 : xfetch 262 198 = some (.getfield 19, 3) := by decide +kernel
theorem n_262_198 : ∀ l, xpr 262 198 l = l := xpr_no (by decide +kernel)
theorem r_262_201 : xfetch 262 201 = some (.aload_n 0, 1) := by decide +kernel
theorem n_262_201 : ∀ l, xpr 262 201 l = l := xpr_no (by decide +kernel)
theorem r_262_202 : xfetch 262 202 = some (.iload_n 1, 1) := by decide +kernel
theorem n_262_202 : ∀ l, xpr 262 202 l = l := xpr_no (by decide +kernel)
theorem r_262_203 : xfetch 262 203 = some (.iconst 0, 1) := by decide +kernel
theorem n_262_203 : ∀ l, xpr 262 203 l = l := xpr_no (by decide +kernel)
theorem r_262_204 : xfetch 262 204 = some (.invokevirtual 228, 3) := by decide +kernel
theorem n_262_204 : ∀ l, xpr 262 204 l = l := xpr_no (by decide +kernel)
theorem r_262_207 : xfetch 262 207 = some (.iaload, 1) := by decide +kernel
theorem n_262_207 : ∀ l, xpr 262 207 l = l := xpr_no (by decide +kernel)
theorem r_262_208 : xfetch 262 208 = some (.if_icmp .ge 36, 3) := by decide +kernel
theorem n_262_208 : ∀ l, xpr 262 208 l = l := xpr_no (by decide +kernel)
theorem r_262_211 : xfetch 262 211 = some (.aload_n 0, 1) := by decide +kernel
theorem n_262_211 : ∀ l, xpr 262 211 l = l := xpr_no (by decide +kernel)
theorem r_262_212 : xfetch 262 212 = some (.iload_n 1, 1) := by decide +kernel
theorem n_262_212 : ∀ l, xpr 262 212 l = l := xpr_no (by decide +kernel)
theorem r_262_213 : xfetch 262 213 = some (.aload_n 0, 1) := by decide +kernel
theorem n_262_213 : ∀ l, xpr 262 213 l = l := xpr_no (by decide +kernel)
theorem r_262_214 : xfetch 262 214 = some (.getfield 71, 3) := by decide +kernel
theorem n_262_214 : ∀ l, xpr 262 214 l = l := xpr_no (by decide +kernel)
theorem r_262_217 : xfetch 262 217 = some (.iload 5, 2) := by decide +kernel
theorem n_262_217 : ∀ l, xpr 262 217 l = l := xpr_no (by decide +kernel)
theorem r_262_219 : xfetch 262 219 = some (.iaload, 1) := by decide +kernel
theorem n_262_219 : ∀ l, xpr 262 219 l = l := xpr_no (by decide +kernel)
theorem r_262_220 : xfetch 262 220 = some (.iload 6, 2) := by decide +kernel
theorem n_262_220 : ∀ l, xpr 262 220 l = l := xpr_no (by decide +kernel)
theorem r_262_222 : xfetch 262 222 = some (.aload_n 0, 1) := by decide +kernel
theorem n_262_222 : ∀ l, xpr 262 222 l = l := xpr_no (by decide +kernel)
theorem r_262_223 : xfetch 262 223 = some (.getfield 67, 3) := by decide +kernel
theorem n_262_223 : ∀ l, xpr 262 223 l = l := xpr_no (by decide +kernel)
theorem r_262_226 : xfetch 262 226 = some (.bipush 40, 2) := by decide +kernel
theorem n_262_226 : ∀ l, xpr 262 226 l = l := xpr_no (by decide +kernel)
theorem r_262_228 : xfetch 262 228 = some (.iload 5, 2) := by decide +kernel
theorem n_262_228 : ∀ l, xpr 262 228 l = l := xpr_no (by decide +kernel)
theorem r_262_230 : xfetch 262 230 = some (.imul, 1) := by decide +kernel
theorem n_262_230 : ∀ l, xpr 262 230 l = l := xpr_no (by decide +kernel)
theorem r_262_231 : xfetch 262 231 = some (.iload 6, 2) := by decide +kernel
theorem n_262_231 : ∀ l, xpr 262 231 l = l := xpr_no (by decide +kernel)
theorem r_262_233 : xfetch 262 233 = some (.iadd, 1) := by decide +kernel
theorem n_262_233 : ∀ l, xpr 262 233 l = l := xpr_no (by decide +kernel)
theorem r_262_234 : xfetch 262 234 = some (.laload, 1) := by decide +kernel
theorem n_262_234 : ∀ l, xpr 262 234 l = l := xpr_no (by decide +kernel)
theorem r_262_235 : xfetch 262 235 = some (.invokevirtual 281, 3) := by decide +kernel
theorem n_262_235 : ∀ l, xpr 262 235 l = l := xpr_no (by decide +kernel)
theorem r_262_238 : xfetch 262 238 = some (.iinc 6 1, 3) := by decide +kernel
theorem n_262_238 : ∀ l, xpr 262 238 l = l := xpr_no (by decide +kernel)
theorem r_262_241 : xfetch 262 241 = some (.goto (-46), 3) := by decide +kernel
theorem n_262_241 : ∀ l, xpr 262 241 l = l := xpr_no (by decide +kernel)
theorem r_262_244 : xfetch 262 244 = some (.iinc 5 1, 3) := by decide +kernel
theorem n_262_244 : ∀ l, xpr 262 244 l = l := xpr_no (by decide +kernel)
theorem r_262_247 : xfetch 262 247 = some (.goto (-66), 3) := by decide +kernel
theorem n_262_247 : ∀ l, xpr 262 247 l = l := xpr_no (by decide +kernel)
theorem r_262_250 : xfetch 262 250 = some (.iload 4, 2) := by decide +kernel
theorem n_262_250 : ∀ l, xpr 262 250 l = l := xpr_no (by decide +kernel)
theorem r_262_252 : xfetch 262 252 = some (.ireturn, 1) := by decide +kernel
theorem n_262_252 : ∀ l, xpr 262 252 l = l := xpr_no (by decide +kernel)
theorem v_Model_sort_0 {S : Option (Nat × (Nat → Int32))} {s : zSt} {Q : Option Value ⊕ Nat → zSt → Prop} {x1 : Int} {x2 : Int} {x3 : Int} 
    (h : wp S 243 0 [(0, rf 252), (1, iv x1), (2, iv x2)] [] s (fun o1 s1 => zkI (fun y1 => wp S 213 0 [(0, rf 252), (1, iv y1)] [] s1 (fun o3 s3 => zkI (fun y3 => wp S 179 0 [(0, rf 252), (1, iv y3)] [] s3 (fun o5 s5 => zkI (fun y5 => (y5 = 0 → wp S 182 0 [(0, rf 252)] [] s5 (fun o8 s8 => zkU (wp S 258 0 [(0, rf 252), (1, iv x1)] [] s8 (fun o10 s10 => zkU (wp S 262 34 [(0, rf 252), (1, iv x1), (2, iv x2), (3, iv x3), (4, iv 0), (5, iv 0)] [] s10 Q) (fun e10 => False) o10)) (fun e8 => False) o8)) ∧ (y5 ≠ 0 → Q (rI 0) s5)) (fun e5 => False) o5)) (fun e3 => False) o3)) (fun e1 => False) o1)) :
    wp S 262 0 [(0, rf 252), (1, iv x1), (2, iv x2), (3, iv x3)] [] s Q := by
  refine i_aload_n (a := 252) r_262_0 (n_262_0 _) rfl ?_
  refine i_aload_n (a := 252) r_262_1 (n_262_1 _) rfl ?_
  refine i_aload_n (a := 252) r_262_2 (n_262_2 _) rfl ?_
  refine i_iload_n (x := x1) r_262_3 (n_262_3 _) rfl ?_
  refine i_iload_n (x := x2) r_262_4 (n_262_4 _) rfl ?_
  refine wp_virt (b := 252) (rest := [rf 252, rf 252]) (Ls := [(0, rf 252), (1, iv x1), (2, iv x2)]) r_262_5 (n_262_5 _) rfl ⟨rfl, rfl, by decide, by decide⟩ rfl rfl lf_252 ⟨rfl, Nat.le_of_ble_eq_true rfl, Nat.le_of_ble_eq_true rfl⟩ rfl h ?_
  intro o1 s1 h
  rcases h with ⟨y1, q2, rfl, h⟩ | ⟨e1, rfl, h⟩
  · refine .inl ⟨some (iv y1), rfl, ?_⟩
    show wp S 262 8 [(0, rf 252), (1, iv x1), (2, iv x2), (3, iv x3)] [iv y1, rf 252, rf 252] s1 Q
    refine wp_virt (b := 252) (rest := [rf 252]) (Ls := [(0, rf 252), (1, iv y1)]) r_262_8 (n_262_8 _) rfl ⟨rfl, rfl, by decide, by decide⟩ rfl rfl lf_252 ⟨rfl, Nat.le_of_ble_eq_true rfl, Nat.le_of_ble_eq_true rfl⟩ rfl h ?_
    intro o3 s3 h
    rcases h with ⟨y3, q4, rfl, h⟩ | ⟨e3, rfl, h⟩
    · refine .inl ⟨some (iv y3), rfl, ?_⟩
      show wp S 262 11 [(0, rf 252), (1, iv x1), (2, iv x2), (3, iv x3)] [iv y3, rf 252] s3 Q
      refine wp_virt (b := 252) (rest := []) (Ls := [(0, rf 252), (1, iv y3)]) r_262_11 (n_262_11 _) rfl ⟨rfl, rfl, by decide, by decide⟩ rfl rfl lf_252 ⟨rfl, Nat.le_of_ble_eq_true rfl, Nat.le_of_ble_eq_true rfl⟩ rfl h ?_
      intro o5 s5 h
      rcases h with ⟨y5, q6, rfl, h⟩ | ⟨e5, rfl, h⟩
      · refine .inl ⟨some (iv y5), rfl, ?_⟩
        show wp S 262 14 [(0, rf 252), (1, iv x1), (2, iv x2), (3, iv x3)] [iv y5] s5 Q
        refine i_if (t := 19) r_262_14 (n_262_14 _) rfl (T_eq q6 ⟨by omega, by omega⟩) (fun c7 => ?_) (fun c7 => ?_)
        · replace h := h.1 c7
          refine i_aload_n (a := 252) r_262_19 (n_262_19 _) rfl ?_
          refine wp_virt (b := 252) (rest := []) (Ls := [(0, rf 252)]) r_262_20 (n_262_20 _) rfl ⟨rfl, rfl, by decide, by decide⟩ rfl rfl lf_252 ⟨rfl, Nat.le_of_ble_eq_true rfl, Nat.le_of_ble_eq_true rfl⟩ rfl h ?_
          intro o8 s8 h
          rcases h with ⟨rfl, h⟩ | ⟨e8, rfl, h⟩
          · refine .inl ⟨none, rfl, ?_⟩
            refine i_aload_n (a := 252) r_262_23 (n_262_23 _) rfl ?_
            refine i_iload_n (x := x1) r_262_24 (n_262_24 _) rfl ?_
            refine wp_virt (b := 252) (rest := []) (Ls := [(0, rf 252), (1, iv x1)]) r_262_25 (n_262_25 _) rfl ⟨rfl, rfl, by decide, by decide⟩ rfl rfl lf_252 ⟨rfl, Nat.le_of_ble_eq_true rfl, Nat.le_of_ble_eq_true rfl⟩ rfl h ?_
            intro o10 s10 h
            rcases h with ⟨rfl, h⟩ | ⟨e10, rfl, h⟩
            · refine .inl ⟨none, rfl, ?_⟩
              refine i_iconst r_262_28 (n_262_28 _) ?_
              refine i_istore (l' := [(0, rf 252), (1, iv x1), (2, iv x2), (3, iv x3), (4, iv 0)]) r_262_29 (n_262_29 _) (by decide) rfl ?_
              refine i_iconst r_262_31 (n_262_31 _) ?_
              refine i_istore (l' := [(0, rf 252), (1, iv x1), (2, iv x2), (3, iv x3), (4, iv 0), (5, iv 0)]) r_262_32 (n_262_32 _) (by decide) rfl ?_
              exact wp_pr (l' := [(0, rf 252), (1, iv x1), (2, iv x2), (3, iv x3), (4, iv 0), (5, iv 0)]) rfl h
            · skip
              exact h.elim
          · skip
            exact h.elim
        · replace h := h.2 c7
          refine i_iconst r_262_17 (n_262_17 _) ?_
          exact i_ireturn r_262_18 (n_262_18 _) rfl h
      · skip
        exact h.elim
    · skip
      exact h.elim
  · skip
    exact h.elim
theorem v_Model_sort_34 {S : Option (Nat × (Nat → Int32))} {s : zSt} {Q : Option Value ⊕ Nat → zSt → Prop} {x1 : Int} {x2 : Int} {x3 : Int} {x4 : Int} {x5 : Int} 
    (h : wp S 236 0 [(0, rf 252), (1, iv x1), (2, iv 1)] [] s (fun o1 s1 => zkI (fun y1 => rng x5 ∧ ((y1 ≤ x5 → wp S 262 181 [(0, rf 252), (1, iv x1), (4, iv x4), (5, iv 0)] [] s1 Q) ∧ (x5 < y1 → wp S 262 51 [(0, rf 252), (1, iv x1), (2, iv x2), (3, iv x3), (4, iv x4), (5, iv x5), (6, iv 0), (7, iv 0)] [] s1 Q))) (fun e1 => False) o1)) :
    wp S 262 34 [(0, rf 252), (1, iv x1), (2, iv x2), (3, iv x3), (4, iv x4), (5, iv x5)] [] s Q := by
  refine i_iload (x := x5) r_262_34 rfl rfl ?_
  refine i_aload_n (a := 252) r_262_36 (n_262_36 _) rfl ?_
  refine i_iload_n (x := x1) r_262_37 (n_262_37 _) rfl ?_
  refine i_iconst r_262_38 (n_262_38 _) ?_
  refine wp_virt (b := 252) (rest := [iv x5]) (Ls := [(0, rf 252), (1, iv x1), (2, iv 1)]) r_262_39 (n_262_39 _) rfl ⟨rfl, rfl, by decide, by decide⟩ rfl rfl lf_252 ⟨rfl, Nat.le_of_ble_eq_true rfl, Nat.le_of_ble_eq_true rfl⟩ rfl h ?_
  intro o1 s1 h
  rcases h with ⟨y1, q2, rfl, h⟩ | ⟨e1, rfl, h⟩
  · refine .inl ⟨some (iv y1), rfl, ?_⟩
    show wp S 262 42 [(0, rf 252), (1, iv x1), (2, iv x2), (3, iv x3), (4, iv x4), (5, iv x5)] [iv y1, iv x5] s1 Q
    obtain ⟨g3, h⟩ := h
    refine i_icmp (t := 178) r_262_42 (n_262_42 _) rfl (T_ge g3 q2) (fun c4 => ?_) (fun c4 => ?_)
    · replace h := h.1 c4
      refine i_iconst r_262_178 (n_262_178 _) ?_
      refine i_istore (l' := [(0, rf 252), (1, iv x1), (2, iv x2), (3, iv x3), (4, iv x4), (5, iv 0)]) r_262_179 (n_262_179 _) (by decide) rfl ?_
      exact wp_pr (l' := [(0, rf 252), (1, iv x1), (4, iv x4), (5, iv 0)]) rfl h
    · replace h := h.2 c4
      refine i_iconst r_262_45 (n_262_45 _) ?_
      refine i_istore (l' := [(0, rf 252), (1, iv x1), (2, iv x2), (3, iv x3), (4, iv x4), (5, iv x5), (6, iv 0)]) r_262_46 (n_262_46 _) (by decide) rfl ?_
      refine i_iconst r_262_48 (n_262_48 _) ?_
      refine i_istore (l' := [(0, rf 252), (1, iv x1), (2, iv x2), (3, iv x3), (4, iv x4), (5, iv x5), (6, iv 0), (7, iv 0)]) r_262_49 (n_262_49 _) (by decide) rfl ?_
      exact wp_pr (l' := [(0, rf 252), (1, iv x1), (2, iv x2), (3, iv x3), (4, iv x4), (5, iv x5), (6, iv 0), (7, iv 0)]) rfl h
  · skip
    exact h.elim
theorem v_Model_sort_51 {S : Option (Nat × (Nat → Int32))} {s : zSt} {Q : Option Value ⊕ Nat → zSt → Prop} {x1 : Int} {x2 : Int} {x3 : Int} {x4 : Int} {x5 : Int} {x6 : Int} {x7 : Int} 
    (h : wp S 236 0 [(0, rf 252), (1, iv x1), (2, iv 1)] [] s (fun o1 s1 => zkI (fun y1 => rng x7 ∧ ((y1 ≤ x7 → (0 ≤ x5 ∧ x5 < 12) ∧ (rng x6 ∧ (rng x5 ∧ ((x6 ≠ x5 → wp S 262 34 [(0, rf 252), (1, iv x1), (2, iv x2), (3, iv x3), (4, iv (x4 + 1)), (5, iv (x5 + 1))] [] (zwI s1 273 x5 x6) Q) ∧ (x6 = x5 → wp S 262 34 [(0, rf 252), (1, iv x1), (2, iv x2), (3, iv x3), (4, iv (x4 + 0)), (5, iv (x5 + 1))] [] (zwI s1 273 x5 x6) Q))))) ∧ (x7 < y1 → (0 ≤ ((40 * x7) + x2) ∧ ((40 * x7) + x2) < 480) ∧ ((0 ≤ ((40 * x5) + x2) ∧ ((40 * x5) + x2) < 480) ∧ (((zcmp (zL s1 272 ((40 * x7) + x2)) (zL s1 272 ((40 * x5) + x2))) ≠ 0 → (0 ≤ (zcmp (zL s1 272 ((40 * x7) + x2)) (zL s1 272 ((40 * x5) + x2))) → rng x3 ∧ ((0 = x3 → wp S 262 51 [(0, rf 252), (1, iv x1), (2, iv x2), (3, iv x3), (4, iv x4), (5, iv x5), (6, iv (x6 + 0)), (7, iv (x7 + 1))] [] s1 Q) ∧ (0 ≠ x3 → wp S 262 51 [(0, rf 252), (1, iv x1), (2, iv x2), (3, iv x3), (4, iv x4), (5, iv x5), (6, iv (x6 + 1)), (7, iv (x7 + 1))] [] s1 Q))) ∧ ((zcmp (zL s1 272 ((40 * x7) + x2)) (zL s1 272 ((40 * x5) + x2))) < 0 → rng x3 ∧ ((1 = x3 → wp S 262 51 [(0, rf 252), (1, iv x1), (2, iv x2), (3, iv x3), (4, iv x4), (5, iv x5), (6, iv (x6 + 0)), (7, iv (x7 + 1))] [] s1 Q) ∧ (1 ≠ x3 → wp S 262 51 [(0, rf 252), (1, iv x1), (2, iv x2), (3, iv x3), (4, iv x4), (5, iv x5), (6, iv (x6 + 1)), (7, iv (x7 + 1))] [] s1 Q)))) ∧ ((zcmp (zL s1 272 ((40 * x7) + x2)) (zL s1 272 ((40 * x5) + x2))) = 0 → rng x5 ∧ ((x5 ≤ x7 → wp S 262 51 [(0, rf 252), (1, iv x1), (2, iv x2), (3, iv x3), (4, iv x4), (5, iv x5), (6, iv (x6 + 0)), (7, iv (x7 + 1))] [] s1 Q) ∧ (x7 < x5 → wp S 262 51 [(0, rf 252), (1, iv x1), (2, iv x2), (3, iv x3), (4, iv x4), (5, iv x5), (6, iv (x6 + 1)), (7, iv (x7 + 1))] [] s1 Q)))))))) (fun e1 => False) o1)) :
    wp S 262 51 [(0, rf 252), (1, iv x1), (2, iv x2), (3, iv x3), (4, iv x4), (5, iv x5), (6, iv x6), (7, iv x7)] [] s Q := by
  refine i_iload (x := x7) r_262_51 rfl rfl ?_
  refine i_aload_n (a := 252) r_262_53 (n_262_53 _) rfl ?_
  refine i_iload_n (x := x1) r_262_54 (n_262_54 _) rfl ?_
  refine i_iconst r_262_55 (n_262_55 _) ?_
  refine wp_virt (b := 252) (rest := [iv x7]) (Ls := [(0, rf 252), (1, iv x1), (2, iv 1)]) r_262_56 (n_262_56 _) rfl ⟨rfl, rfl, by decide, by decide⟩ rfl rfl lf_252 ⟨rfl, Nat.le_of_ble_eq_true rfl, Nat.le_of_ble_eq_true rfl⟩ rfl h ?_
  intro o1 s1 h
  rcases h with ⟨y1, q2, rfl, h⟩ | ⟨e1, rfl, h⟩
  · refine .inl ⟨some (iv y1), rfl, ?_⟩
    show wp S 262 59 [(0, rf 252), (1, iv x1), (2, iv x2), (3, iv x3), (4, iv x4), (5, iv x5), (6, iv x6), (7, iv x7)] [iv y1, iv x7] s1 Q
    obtain ⟨g3, h⟩ := h
    refine i_icmp (t := 146) r_262_59 (n_262_59 _) rfl (T_ge g3 q2) (fun c4 => ?_) (fun c4 => ?_)
    · replace h := h.1 c4
      refine i_aload_n (a := 252) r_262_146 (n_262_146 _) rfl ?_
      refine i_getR (a := 252) (b := 273) r_262_147 (n_262_147 _) rfl rfl rfl (by omega) lf_252 (by omega) ?_
      refine i_iload (x := x5) r_262_150 (n_262_150 _) rfl ?_
      refine i_iload (x := x6) r_262_152 (n_262_152 _) rfl ?_
      obtain ⟨g5, h⟩ := h
      obtain ⟨g6, h⟩ := h
      refine i_iastore (a := 273) (j := x5) (x := x6) r_262_154 (n_262_154 _) lf_273 ⟨by omega, by omega⟩ (by omega) (by omega) g6 ?_
      refine i_iload (x := x4) r_262_155 (n_262_155 _) rfl ?_
      refine i_iload (x := x6) r_262_157 (n_262_157 _) rfl ?_
      refine i_iload (x := x5) r_262_159 (n_262_159 _) rfl ?_
      obtain ⟨g7, h⟩ := h
      refine i_icmp (t := 168) r_262_161 (n_262_161 _) rfl (T_ne g6 g7) (fun c8 => ?_) (fun c8 => ?_)
      · replace h := h.1 c8
        refine i_iconst r_262_168 (n_262_168 _) ?_
        refine i_iadd r_262_169 (n_262_169 _) ?_
        refine i_istore (l' := [(0, rf 252), (1, iv x1), (2, iv x2), (3, iv x3), (4, iv (x4 + 1)), (5, iv x5), (6, iv x6), (7, iv x7)]) r_262_170 (n_262_170 _) (by decide) rfl ?_
        refine i_iinc (x := x5) (l' := [(0, rf 252), (1, iv x1), (2, iv x2), (3, iv x3), (4, iv (x4 + 1)), (5, iv (x5 + 1)), (6, iv x6), (7, iv x7)]) r_262_172 (n_262_172 _) (by decide) rfl rfl ?_
        refine i_goto (t := 34) r_262_175 (n_262_175 _) rfl ?_
        exact wp_pr (l' := [(0, rf 252), (1, iv x1), (2, iv x2), (3, iv x3), (4, iv (x4 + 1)), (5, iv (x5 + 1))]) rfl h
      · replace h := h.2 c8
        refine i_iconst r_262_164 (n_262_164 _) ?_
        refine i_goto (t := 169) r_262_165 (n_262_165 _) rfl ?_
        refine i_iadd r_262_169 (n_262_169 _) ?_
        refine i_istore (l' := [(0, rf 252), (1, iv x1), (2, iv x2), (3, iv x3), (4, iv (x4 + 0)), (5, iv x5), (6, iv x6), (7, iv x7)]) r_262_170 (n_262_170 _) (by decide) rfl ?_
        refine i_iinc (x := x5) (l' := [(0, rf 252), (1, iv x1), (2, iv x2), (3, iv x3), (4, iv (x4 + 0)), (5, iv (x5 + 1)), (6, iv x6), (7, iv x7)]) r_262_172 (n_262_172 _) (by decide) rfl rfl ?_
        refine i_goto (t := 34) r_262_175 (n_262_175 _) rfl ?_
        exact wp_pr (l' := [(0, rf 252), (1, iv x1), (2, iv x2), (3, iv x3), (4, iv (x4 + 0)), (5, iv (x5 + 1))]) rfl h
    · replace h := h.2 c4
      refine i_aload_n (a := 252) r_262_62 (n_262_62 _) rfl ?_
      refine i_getR (a := 252) (b := 272) r_262_63 (n_262_63 _) rfl rfl rfl (by omega) lf_252 (by omega) ?_
      refine i_bipush r_262_66 (n_262_66 _) rfl ?_
      refine i_iload (x := x7) r_262_68 (n_262_68 _) rfl ?_
      refine i_imul r_262_70 (n_262_70 _) ?_
      refine i_iload_n (x := x2) r_262_71 (n_262_71 _) rfl ?_
      refine i_iadd r_262_72 (n_262_72 _) ?_
      obtain ⟨g9, h⟩ := h
      refine i_laload (a := 272) (j := (40 * x7) + x2) r_262_73 (n_262_73 _) lf_272 ⟨by omega, by omega⟩ (by omega) (by omega) ?_
      refine i_lstore (l' := [(0, rf 252), (1, iv x1), (2, iv x2), (3, iv x3), (4, iv x4), (5, iv x5), (6, iv x6), (7, iv x7), (8, .long (zL s1 272 ((40 * x7) + x2)))]) r_262_74 (n_262_74 _) (by decide) rfl ?_
      refine i_aload_n (a := 252) r_262_76 (n_262_76 _) rfl ?_
      refine i_getR (a := 252) (b := 272) r_262_77 (n_262_77 _) rfl rfl rfl (by omega) lf_252 (by omega) ?_
      refine i_bipush r_262_80 (n_262_80 _) rfl ?_
      refine i_iload (x := x5) r_262_82 (n_262_82 _) rfl ?_
      refine i_imul r_262_84 (n_262_84 _) ?_
      refine i_iload_n (x := x2) r_262_85 (n_262_85 _) rfl ?_
      refine i_iadd r_262_86 (n_262_86 _) ?_
      obtain ⟨g10, h⟩ := h
      refine i_laload (a := 272) (j := (40 * x5) + x2) r_262_87 (n_262_87 _) lf_272 ⟨by omega, by omega⟩ (by omega) (by omega) ?_
      refine i_lstore (l' := [(0, rf 252), (1, iv x1), (2, iv x2), (3, iv x3), (4, iv x4), (5, iv x5), (6, iv x6), (7, iv x7), (8, .long (zL s1 272 ((40 * x7) + x2))), (10, .long (zL s1 272 ((40 * x5) + x2)))]) r_262_88 (n_262_88 _) (by decide) rfl ?_
      refine i_iload (x := x6) r_262_90 (n_262_90 _) rfl ?_
      refine i_lload (u := zL s1 272 ((40 * x7) + x2)) r_262_92 (n_262_92 _) rfl ?_
      refine i_lload (u := zL s1 272 ((40 * x5) + x2)) r_262_94 (n_262_94 _) rfl ?_
      refine i_lcmp r_262_96 (n_262_96 _) ?_
      refine i_if (t := 115) r_262_97 (n_262_97 _) rfl (T_ne (zcmp_rng _ _) ⟨by omega, by omega⟩) (fun c11 => ?_) (fun c11 => ?_)
      · replace h := h.1 c11
        refine i_lload (u := zL s1 272 ((40 * x7) + x2)) r_262_115 (n_262_115 _) rfl ?_
        refine i_lload (u := zL s1 272 ((40 * x5) + x2)) r_262_117 (n_262_117 _) rfl ?_
        refine i_lcmp r_262_119 (n_262_119 _) ?_
        refine i_if (t := 127) r_262_120 (n_262_120 _) rfl (T_ge (zcmp_rng _ _) ⟨by omega, by omega⟩) (fun c12 => ?_) (fun c12 => ?_)
        · replace h := h.1 c12
          refine i_iconst r_262_127 (n_262_127 _) ?_
          refine i_iload_n (x := x3) r_262_128 (n_262_128 _) rfl ?_
          obtain ⟨g13, h⟩ := h
          refine i_icmp (t := 136) r_262_129 (n_262_129 _) rfl (T_eq ⟨by omega, by omega⟩ g13) (fun c14 => ?_) (fun c14 => ?_)
          · replace h := h.1 c14
            refine i_iconst r_262_136 (n_262_136 _) ?_
            refine i_iadd r_262_137 (n_262_137 _) ?_
            refine i_istore (l' := [(0, rf 252), (1, iv x1), (2, iv x2), (3, iv x3), (4, iv x4), (5, iv x5), (6, iv (x6 + 0)), (7, iv x7), (8, .long (zL s1 272 ((40 * x7) + x2))), (10, .long (zL s1 272 ((40 * x5) + x2)))]) r_262_138 (n_262_138 _) (by decide) rfl ?_
            refine i_iinc (x := x7) (l' := [(0, rf 252), (1, iv x1), (2, iv x2), (3, iv x3), (4, iv x4), (5, iv x5), (6, iv (x6 + 0)), (7, iv (x7 + 1)), (8, .long (zL s1 272 ((40 * x7) + x2))), (10, .long (zL s1 272 ((40 * x5) + x2)))]) r_262_140 (n_262_140 _) (by decide) rfl rfl ?_
            refine i_goto (t := 51) r_262_143 (n_262_143 _) rfl ?_
            exact wp_pr (l' := [(0, rf 252), (1, iv x1), (2, iv x2), (3, iv x3), (4, iv x4), (5, iv x5), (6, iv (x6 + 0)), (7, iv (x7 + 1))]) rfl h
          · replace h := h.2 c14
            refine i_iconst r_262_132 (n_262_132 _) ?_
            refine i_goto (t := 137) r_262_133 (n_262_133 _) rfl ?_
            refine i_iadd r_262_137 (n_262_137 _) ?_
            refine i_istore (l' := [(0, rf 252), (1, iv x1), (2, iv x2), (3, iv x3), (4, iv x4), (5, iv x5), (6, iv (x6 + 1)), (7, iv x7), (8, .long (zL s1 272 ((40 * x7) + x2))), (10, .long (zL s1 272 ((40 * x5) + x2)))]) r_262_138 (n_262_138 _) (by decide) rfl ?_
            refine i_iinc (x := x7) (l' := [(0, rf 252), (1, iv x1), (2, iv x2), (3, iv x3), (4, iv x4), (5, iv x5), (6, iv (x6 + 1)), (7, iv (x7 + 1)), (8, .long (zL s1 272 ((40 * x7) + x2))), (10, .long (zL s1 272 ((40 * x5) + x2)))]) r_262_140 (n_262_140 _) (by decide) rfl rfl ?_
            refine i_goto (t := 51) r_262_143 (n_262_143 _) rfl ?_
            exact wp_pr (l' := [(0, rf 252), (1, iv x1), (2, iv x2), (3, iv x3), (4, iv x4), (5, iv x5), (6, iv (x6 + 1)), (7, iv (x7 + 1))]) rfl h
        · replace h := h.2 c12
          refine i_iconst r_262_123 (n_262_123 _) ?_
          refine i_goto (t := 128) r_262_124 (n_262_124 _) rfl ?_
          refine i_iload_n (x := x3) r_262_128 (n_262_128 _) rfl ?_
          obtain ⟨g15, h⟩ := h
          refine i_icmp (t := 136) r_262_129 (n_262_129 _) rfl (T_eq ⟨by omega, by omega⟩ g15) (fun c16 => ?_) (fun c16 => ?_)
          · replace h := h.1 c16
            refine i_iconst r_262_136 (n_262_136 _) ?_
            refine i_iadd r_262_137 (n_262_137 _) ?_
            refine i_istore (l' := [(0, rf 252), (1, iv x1), (2, iv x2), (3, iv x3), (4, iv x4), (5, iv x5), (6, iv (x6 + 0)), (7, iv x7), (8, .long (zL s1 272 ((40 * x7) + x2))), (10, .long (zL s1 272 ((40 * x5) + x2)))]) r_262_138 (n_262_138 _) (by decide) rfl ?_
            refine i_iinc (x := x7) (l' := [(0, rf 252), (1, iv x1), (2, iv x2), (3, iv x3), (4, iv x4), (5, iv x5), (6, iv (x6 + 0)), (7, iv (x7 + 1)), (8, .long (zL s1 272 ((40 * x7) + x2))), (10, .long (zL s1 272 ((40 * x5) + x2)))]) r_262_140 (n_262_140 _) (by decide) rfl rfl ?_
            refine i_goto (t := 51) r_262_143 (n_262_143 _) rfl ?_
            exact wp_pr (l' := [(0, rf 252), (1, iv x1), (2, iv x2), (3, iv x3), (4, iv x4), (5, iv x5), (6, iv (x6 + 0)), (7, iv (x7 + 1))]) rfl h
          · replace h := h.2 c16
            refine i_iconst r_262_132 (n_262_132 _) ?_
            refine i_goto (t := 137) r_262_133 (n_262_133 _) rfl ?_
            refine i_iadd r_262_137 (n_262_137 _) ?_
            refine i_istore (l' := [(0, rf 252), (1, iv x1), (2, iv x2), (3, iv x3), (4, iv x4), (5, iv x5), (6, iv (x6 + 1)), (7, iv x7), (8, .long (zL s1 272 ((40 * x7) + x2))), (10, .long (zL s1 272 ((40 * x5) + x2)))]) r_262_138 (n_262_138 _) (by decide) rfl ?_
            refine i_iinc (x := x7) (l' := [(0, rf 252), (1, iv x1), (2, iv x2), (3, iv x3), (4, iv x4), (5, iv x5), (6, iv (x6 + 1)), (7, iv (x7 + 1)), (8, .long (zL s1 272 ((40 * x7) + x2))), (10, .long (zL s1 272 ((40 * x5) + x2)))]) r_262_140 (n_262_140 _) (by decide) rfl rfl ?_
            refine i_goto (t := 51) r_262_143 (n_262_143 _) rfl ?_
            exact wp_pr (l' := [(0, rf 252), (1, iv x1), (2, iv x2), (3, iv x3), (4, iv x4), (5, iv x5), (6, iv (x6 + 1)), (7, iv (x7 + 1))]) rfl h
      · replace h := h.2 c11
        refine i_iload (x := x7) r_262_100 (n_262_100 _) rfl ?_
        refine i_iload (x := x5) r_262_102 (n_262_102 _) rfl ?_
        obtain ⟨g17, h⟩ := h
        refine i_icmp (t := 111) r_262_104 (n_262_104 _) rfl (T_ge g3 g17) (fun c18 => ?_) (fun c18 => ?_)
        · replace h := h.1 c18
          refine i_iconst r_262_111 (n_262_111 _) ?_
          refine i_goto (t := 137) r_262_112 (n_262_112 _) rfl ?_
          refine i_iadd r_262_137 (n_262_137 _) ?_
          refine i_istore (l' := [(0, rf 252), (1, iv x1), (2, iv x2), (3, iv x3), (4, iv x4), (5, iv x5), (6, iv (x6 + 0)), (7, iv x7), (8, .long (zL s1 272 ((40 * x7) + x2))), (10, .long (zL s1 272 ((40 * x5) + x2)))]) r_262_138 (n_262_138 _) (by decide) rfl ?_
          refine i_iinc (x := x7) (l' := [(0, rf 252), (1, iv x1), (2, iv x2), (3, iv x3), (4, iv x4), (5, iv x5), (6, iv (x6 + 0)), (7, iv (x7 + 1)), (8, .long (zL s1 272 ((40 * x7) + x2))), (10, .long (zL s1 272 ((40 * x5) + x2)))]) r_262_140 (n_262_140 _) (by decide) rfl rfl ?_
          refine i_goto (t := 51) r_262_143 (n_262_143 _) rfl ?_
          exact wp_pr (l' := [(0, rf 252), (1, iv x1), (2, iv x2), (3, iv x3), (4, iv x4), (5, iv x5), (6, iv (x6 + 0)), (7, iv (x7 + 1))]) rfl h
        · replace h := h.2 c18
          refine i_iconst r_262_107 (n_262_107 _) ?_
          refine i_goto (t := 137) r_262_108 (n_262_108 _) rfl ?_
          refine i_iadd r_262_137 (n_262_137 _) ?_
          refine i_istore (l' := [(0, rf 252), (1, iv x1), (2, iv x2), (3, iv x3), (4, iv x4), (5, iv x5), (6, iv (x6 + 1)), (7, iv x7), (8, .long (zL s1 272 ((40 * x7) + x2))), (10, .long (zL s1 272 ((40 * x5) + x2)))]) r_262_138 (n_262_138 _) (by decide) rfl ?_
          refine i_iinc (x := x7) (l' := [(0, rf 252), (1, iv x1), (2, iv x2), (3, iv x3), (4, iv x4), (5, iv x5), (6, iv (x6 + 1)), (7, iv (x7 + 1)), (8, .long (zL s1 272 ((40 * x7) + x2))), (10, .long (zL s1 272 ((40 * x5) + x2)))]) r_262_140 (n_262_140 _) (by decide) rfl rfl ?_
          refine i_goto (t := 51) r_262_143 (n_262_143 _) rfl ?_
          exact wp_pr (l' := [(0, rf 252), (1, iv x1), (2, iv x2), (3, iv x3), (4, iv x4), (5, iv x5), (6, iv (x6 + 1)), (7, iv (x7 + 1))]) rfl h
  · skip
    exact h.elim
theorem v_Model_sort_181 {S : Option (Nat × (Nat → Int32))} {s : zSt} {Q : Option Value ⊕ Nat → zSt → Prop} {x1 : Int} {x4 : Int} {x5 : Int} 
    (h : wp S 236 0 [(0, rf 252), (1, iv x1), (2, iv 1)] [] s (fun o1 s1 => zkI (fun y1 => rng x5 ∧ ((y1 ≤ x5 → Q (rI x4) s1) ∧ (x5 < y1 → wp S 262 195 [(0, rf 252), (1, iv x1), (4, iv x4), (5, iv x5), (6, iv 0)] [] s1 Q))) (fun e1 => False) o1)) :
    wp S 262 181 [(0, rf 252), (1, iv x1), (4, iv x4), (5, iv x5)] [] s Q := by
  refine i_iload (x := x5) r_262_181 rfl rfl ?_
  refine i_aload_n (a := 252) r_262_183 (n_262_183 _) rfl ?_
  refine i_iload_n (x := x1) r_262_184 (n_262_184 _) rfl ?_
  refine i_iconst r_262_185 (n_262_185 _) ?_
  refine wp_virt (b := 252) (rest := [iv x5]) (Ls := [(0, rf 252), (1, iv x1), (2, iv 1)]) r_262_186 (n_262_186 _) rfl ⟨rfl, rfl, by decide, by decide⟩ rfl rfl lf_252 ⟨rfl, Nat.le_of_ble_eq_true rfl, Nat.le_of_ble_eq_true rfl⟩ rfl h ?_
  intro o1 s1 h
  rcases h with ⟨y1, q2, rfl, h⟩ | ⟨e1, rfl, h⟩
  · refine .inl ⟨some (iv y1), rfl, ?_⟩
    show wp S 262 189 [(0, rf 252), (1, iv x1), (4, iv x4), (5, iv x5)] [iv y1, iv x5] s1 Q
    obtain ⟨g3, h⟩ := h
    refine i_icmp (t := 250) r_262_189 (n_262_189 _) rfl (T_ge g3 q2) (fun c4 => ?_) (fun c4 => ?_)
    · replace h := h.1 c4
      refine i_iload (x := x4) r_262_250 (n_262_250 _) rfl ?_
      exact i_ireturn r_262_252 (n_262_252 _) rfl h
    · replace h := h.2 c4
      refine i_iconst r_262_192 (n_262_192 _) ?_
      refine i_istore (l' := [(0, rf 252), (1, iv x1), (4, iv x4), (5, iv x5), (6, iv 0)]) r_262_193 (n_262_193 _) (by decide) rfl ?_
      exact wp_pr (l' := [(0, rf 252), (1, iv x1), (4, iv x4), (5, iv x5), (6, iv 0)]) rfl h
  · skip
    exact h.elim
theorem v_Model_sort_195 {S : Option (Nat × (Nat → Int32))} {s : zSt} {Q : Option Value ⊕ Nat → zSt → Prop} {x1 : Int} {x4 : Int} {x5 : Int} {x6 : Int} 
    (h : wp S 236 0 [(0, rf 252), (1, iv x1), (2, iv 0)] [] s (fun o1 s1 => zkI (fun y1 => (0 ≤ y1 ∧ y1 < 6) ∧ (rng x6 ∧ (((zI s1 256 y1) ≤ x6 → wp S 262 181 [(0, rf 252), (1, iv x1), (4, iv x4), (5, iv (x5 + 1))] [] s1 Q) ∧ (x6 < (zI s1 256 y1) → (0 ≤ x5 ∧ x5 < 12) ∧ ((0 ≤ ((40 * x5) + x6) ∧ ((40 * x5) + x6) < 480) ∧ (wp S 252 0 [(0, rf 252), (1, iv x1), (2, iv (zI s1 273 x5)), (3, iv x6), (4, .long (zL s1 272 ((40 * x5) + x6)))] [] s1 (fun o10 s10 => zkU (wp S 262 195 [(0, rf 252), (1, iv x1), (4, iv x4), (5, iv x5), (6, iv (x6 + 1))] [] s10 Q) (fun e10 => False) o10))))))) (fun e1 => False) o1)) :
    wp S 262 195 [(0, rf 252), (1, iv x1), (4, iv x4), (5, iv x5), (6, iv x6)] [] s Q := by
  refine i_iload (x := x6) r_262_195 rfl rfl ?_
  refine i_aload_n (a := 252) r_262_197 (n_262_197 _) rfl ?_
  refine i_getR (a := 252) (b := 256) r_262_198 (n_262_198 _) rfl rfl rfl (by omega) lf_252 (by omega) ?_
  refine i_aload_n (a := 252) r_262_201 (n_262_201 _) rfl ?_
  refine i_iload_n (x := x1) r_262_202 (n_262_202 _) rfl ?_
  refine i_iconst r_262_203 (n_262_203 _) ?_
  refine wp_virt (b := 252) (rest := [rf 256, iv x6]) (Ls := [(0, rf 252), (1, iv x1), (2, iv 0)]) r_262_204 (n_262_204 _) rfl ⟨rfl, rfl, by decide, by decide⟩ rfl rfl lf_252 ⟨rfl, Nat.le_of_ble_eq_true rfl, Nat.le_of_ble_eq_true rfl⟩ rfl h ?_
  intro o1 s1 h
  rcases h with ⟨y1, q2, rfl, h⟩ | ⟨e1, rfl, h⟩
  · refine .inl ⟨some (iv y1), rfl, ?_⟩
    show wp S 262 207 [(0, rf 252), (1, iv x1), (4, iv x4), (5, iv x5), (6, iv x6)] [iv y1, rf 256, iv x6] s1 Q
    obtain ⟨g3, h⟩ := h
    refine i_iaload (a := 256) (j := y1) r_262_207 (n_262_207 _) lf_256 ⟨by omega, by omega⟩ (by omega) (by omega) (fun q4 => ?_)
    obtain ⟨g5, h⟩ := h
    refine i_icmp (t := 244) r_262_208 (n_262_208 _) rfl (T_ge g5 q4) (fun c6 => ?_) (fun c6 => ?_)
    · replace h := h.1 c6
      refine i_iinc (x := x5) (l' := [(0, rf 252), (1, iv x1), (4, iv x4), (5, iv (x5 + 1)), (6, iv x6)]) r_262_244 (n_262_244 _) (by decide) rfl rfl ?_
      refine i_goto (t := 181) r_262_247 (n_262_247 _) rfl ?_
      exact wp_pr (l' := [(0, rf 252), (1, iv x1), (4, iv x4), (5, iv (x5 + 1))]) rfl h
    · replace h := h.2 c6
      refine i_aload_n (a := 252) r_262_211 (n_262_211 _) rfl ?_
      refine i_iload_n (x := x1) r_262_212 (n_262_212 _) rfl ?_
      refine i_aload_n (a := 252) r_262_213 (n_262_213 _) rfl ?_
      refine i_getR (a := 252) (b := 273) r_262_214 (n_262_214 _) rfl rfl rfl (by omega) lf_252 (by omega) ?_
      refine i_iload (x := x5) r_262_217 (n_262_217 _) rfl ?_
      obtain ⟨g7, h⟩ := h
      refine i_iaload (a := 273) (j := x5) r_262_219 (n_262_219 _) lf_273 ⟨by omega, by omega⟩ (by omega) (by omega) (fun q8 => ?_)
      refine i_iload (x := x6) r_262_220 (n_262_220 _) rfl ?_
      refine i_aload_n (a := 252) r_262_222 (n_262_222 _) rfl ?_
      refine i_getR (a := 252) (b := 272) r_262_223 (n_262_223 _) rfl rfl rfl (by omega) lf_252 (by omega) ?_
      refine i_bipush r_262_226 (n_262_226 _) rfl ?_
      refine i_iload (x := x5) r_262_228 (n_262_228 _) rfl ?_
      refine i_imul r_262_230 (n_262_230 _) ?_
      refine i_iload (x := x6) r_262_231 (n_262_231 _) rfl ?_
      refine i_iadd r_262_233 (n_262_233 _) ?_
      obtain ⟨g9, h⟩ := h
      refine i_laload (a := 272) (j := (40 * x5) + x6) r_262_234 (n_262_234 _) lf_272 ⟨by omega, by omega⟩ (by omega) (by omega) ?_
      refine wp_virt (b := 252) (rest := []) (Ls := [(0, rf 252), (1, iv x1), (2, iv (zI s1 273 x5)), (3, iv x6), (4, .long (zL s1 272 ((40 * x5) + x6)))]) r_262_235 (n_262_235 _) rfl ⟨rfl, rfl, by decide, by decide⟩ rfl rfl lf_252 ⟨rfl, Nat.le_of_ble_eq_true rfl, Nat.le_of_ble_eq_true rfl⟩ rfl h ?_
      intro o10 s10 h
      rcases h with ⟨rfl, h⟩ | ⟨e10, rfl, h⟩
      · refine .inl ⟨none, rfl, ?_⟩
        refine i_iinc (x := x6) (l' := [(0, rf 252), (1, iv x1), (4, iv x4), (5, iv x5), (6, iv (x6 + 1))]) r_262_238 (n_262_238 _) (by decide) rfl rfl ?_
        refine i_goto (t := 195) r_262_241 (n_262_241 _) rfl ?_
        exact wp_pr (l' := [(0, rf 252), (1, iv x1), (4, iv x4), (5, iv x5), (6, iv (x6 + 1))]) rfl h
      · skip
        exact h.elim
  · skip
    exact h.elim
theorem r_263_0 : xfetch 263 0 = some (.aload_n 0, 1) := by decide +kernel
theorem n_263_0 : ∀ l, xpr 263 0 l = l := xpr_no (by decide +kernel)
theorem r_263_1 : xfetch 263 1 = some (.aload_n 0, 1) := by decide +kernel
theorem n_263_1 : ∀ l, xpr 263 1 l = l := xpr_no (by decide +kernel)
theorem r_263_2 : xfetch 263 2 = some (.aload_n 0, 1) := by decide +kernel
theorem n_263_2 : ∀ l, xpr 263 2 l = l := xpr_no (by decide +kernel)
theorem r_263_3 : xfetch 263 3 = some (.iload_n 1, 1) := by decide +kernel
theorem n_263_3 : ∀ l, xpr 263 3 l = l := xpr_no (by decide +kernel)
theorem r_263_4 : xfetch 263 4 = some (.iload_n 2, 1) := by decide +kernel
theorem n_263_4 : ∀ l, xpr 263 4 l = l := xpr_no (by decide +kernel)
theorem r_263_5 : xfetch 263 5 = some (.invokevirtual 254, 3) := by decide +kernel
theorem n_263_5 : ∀ l, xpr 263 5 l = l := xpr_no (by decide +kernel)
theorem r_263_8 : xfetch 263 8 = some (.invokevirtual 175, 3) := by decide +kernel
theorem n_263_8 : ∀ l, xpr 263 8 l = l := xpr_no (by decide +kernel)
theorem r_263_11 : xfetch 263 11 = some (.invokevirtual 84, 3) := by decide +kernel
theorem n_263_11 : ∀ l, xpr 263 11 l = l := xpr_no (by decide +kernel)
theorem r_263_14 : xfetch 263 14 = some (.ifCond .eq 5, 3) := by decide +kernel
theorem n_263_14 : ∀ l, xpr 263 14 l = l := xpr_no (by decide +kernel)
theorem r_263_17 : xfetch 263 17 = some (.iconst 0, 1) := by decide +kernel
theorem n_263_17 : ∀ l, xpr 263 17 l = l := xpr_no (by decide +kernel)
theorem r_263_18 : xfetch 263 18 = some (.ireturn, 1) := by decide +kernel
theorem n_263_18 : ∀ l, xpr 263 18 l = l := xpr_no (by decide +kernel)
theorem r_263_19 : xfetch 263 19 = some (.aload_n 0, 1) := by decide +kernel
theorem n_263_19 : ∀ l, xpr 263 19 l = l := xpr_no (by decide +kernel)
theorem r_263_20 : xfetch 263 20 = some (.invokevirtual 135, 3) := by decide +kernel
theorem n_263_20 : ∀ l, xpr 263 20 l = l := xpr_no (by decide +kernel)
theorem r_263_23 : xfetch 263 23 = some (.iconst 0, 1) := by decide +kernel
theorem n_263_23 : ∀ l, xpr 263 23 l = l := xpr_no (by decide +kernel)
theorem r_263_24 : xfetch 263 24 = some (.istore 7, 2) := by decide +kernel
theorem n_263_24 : ∀ l, xpr 263 24 l = l := xpr_no (by decide +kernel)
theorem r_263_26 : xfetch 263 26 = some (.iload 7, 2) := by decide +kernel
theorem r_263_28 : xfetch 263 28 = some (.aload_n 0, 1) := by decide +kernel
theorem n_263_28 : ∀ l, xpr 263 28 l = l := xpr_no (by decide +kernel)
theorem r_263_29 : xfetch 263 29 = some (.iload_n 1, 1) := by decide +kernel
theorem n_263_29 : ∀ l, xpr 263 29 l = l := xpr_no (by decide +kernel)
theorem r_263_30 : xfetch 263 30 = some (.iconst 1, 1) := by decide +kernel
theorem n_263_30 : ∀ l, xpr 263 30 l = l := xpr_no (by decide +kernel)
theorem r_263_31 : xfetch 263 31 = some (.invokevirtual 228, 3) := by decide +kernel
theorem n_263_31 : ∀ l, xpr 263 31 l = l := xpr_no (by decide +kernel)
theorem r_263_34 : xfetch 263 34 = some (.if_icmp .ge 25, 3) := by decide +kernel
theorem n_263_34 : ∀ l, xpr 263 34 l = l := xpr_no (by decide +kernel)
theorem r_263_37 : xfetch 263 37 = some (.aload_n 0, 1) := by decide +kernel
theorem n_263_37 : ∀ l, xpr 263 37 l = l := xpr_no (by decide +kernel)
theorem r_263_38 : xfetch 263 38 = some (.iload_n 1, 1) := by decide +kernel
theorem n_263_38 : ∀ l, xpr 263 38 l = l := xpr_no (by decide +kernel)
theorem r_263_39 : xfetch 263 39 = some (.iload 7, 2) := by decide +kernel
theorem n_263_39 : ∀ l, xpr 263 39 l = l := xpr_no (by decide +kernel)
theorem r_263_41 : xfetch 263 41 = some (.iload_n 2, 1) := by decide +kernel
theorem n_263_41 : ∀ l, xpr 263 41 l = l := xpr_no (by decide +kernel)
theorem r_263_42 : xfetch 263 42 = some (.lload_n 3, 1) := by decide +kernel
theorem n_263_42 : ∀ l, xpr 263 42 l = l := xpr_no (by decide +kernel)
theorem r_263_43 : xfetch 263 43 = some (.iload 7, 2) := by decide +kernel
theorem n_263_43 : ∀ l, xpr 263 43 l = l := xpr_no (by decide +kernel)
theorem r_263_45 : xfetch 263 45 = some (.i2l, 1) := by decide +kernel
theorem n_263_45 : ∀ l, xpr 263 45 l = l := xpr_no (by decide +kernel)
theorem r_263_46 : xfetch 263 46 = some (.lload 5, 2) := by decide +kernel
theorem n_263_46 : ∀ l, xpr 263 46 l = l := xpr_no (by decide +kernel)
theorem r_263_48 : xfetch 263 48 = some (.lmul, 1) := by decide +kernel
theorem n_263_48 : ∀ l, xpr 263 48 l = l := xpr_no (by decide +kernel)
theorem r_263_49 : xfetch 263 49 = some (.ladd, 1) := by decide +kernel
theorem n_263_49 : ∀ l, xpr 263 49 l = l := xpr_no (by decide +kernel)
theorem r_263_50 : xfetch 263 50 = some (.invokevirtual 281, 3) := by decide +kernel
theorem n_263_50 : ∀ l, xpr 263 50 l = l := xpr_no (by decide +kernel)
theorem r_263_53 : xfetch 263 53 = some (.iinc 7 1, 3) := by decide +kernel
theorem n_263_53 : ∀ l, xpr 263 53 l = l := xpr_no (by decide +kernel)
theorem r_263_56 : xfetch 263 56 = some (.goto (-30), 3) := by decide +kernel
theorem n_263_56 : ∀ l, xpr 263 56 l = l := xpr_no (by decide +kernel)
theorem r_263_59 : xfetch 263 59 = some (.aload_n 0, 1) := by decide +kernel
theorem n_263_59 : ∀ l, xpr 263 59 l = l := xpr_no (by decide +kernel)
theorem r_263_60 : xfetch 263 60 = some (.iload_n 1, 1) := by decide +kernel
theorem n_263_60 : ∀ l, xpr 263 60 l = l := xpr_no (by decide +kernel)
theorem r_263_61 : xfetch 263 61 = some (.iconst 1, 1) := by decide +kernel
theorem n_263_61 : ∀ l, xpr 263 61 l = l := xpr_no (by decide +kernel)
theorem r_263_62 : xfetch 263 62 = some (.invokevirtual 228, 3) := by decide +kernel
theorem n_263_62 : ∀ l, xpr 263 62 l = l := xpr_no (by decide +kernel)
theorem r_263_65 : xfetch 263 65 = some (.ireturn, 1) := by decide +kernel
theorem n_263_65 : ∀ l, xpr 263 65 l = l := xpr_no (by decide +kernel)
theorem v_Model_fill_0 {S : Option (Nat × (Nat → Int32))} {s : zSt} {Q : Option Value ⊕ Nat → zSt → Prop} {x1 : Int} {x2 : Int} {u3 : Int64} {u5 : Int64} 
    (h : wp S 243 0 [(0, rf 252), (1, iv x1), (2, iv x2)] [] s (fun o1 s1 => zkI (fun y1 => wp S 213 0 [(0, rf 252), (1, iv y1)] [] s1 (fun o3 s3 => zkI (fun y3 => wp S 179 0 [(0, rf 252), (1, iv y3)] [] s3 (fun o5 s5 => zkI (fun y5 => (y5 = 0 → wp S 182 0 [(0, rf 252)] [] s5 (fun o8 s8 => zkU (wp S 263 26 [(0, rf 252), (1, iv x1), (2, iv x2), (3, .long u3), (5, .long u5), (7, iv 0)] [] s8 Q) (fun e8 => False) o8)) ∧ (y5 ≠ 0 → Q (rI 0) s5)) (fun e5 => False) o5)) (fun e3 => False) o3)) (fun e1 => False) o1)) :
    wp S 263 0 [(0, rf 252), (1, iv x1), (2, iv x2), (3, .long u3), (5, .long u5)] [] s Q := by
  refine i_aload_n (a := 252) r_263_0 (n_263_0 _) rfl ?_
  refine i_aload_n (a := 252) r_263_1 (n_263_1 _) rfl ?_
  refine i_aload_n (a := 252) r_263_2 (n_263_2 _) rfl ?_
  refine i_iload_n (x := x1) r_263_3 (n_263_3 _) rfl ?_
  refine i_iload_n (x := x2) r_263_4 (n_263_4 _) rfl ?_
  refine wp_virt (b := 252) (rest := [rf 252, rf 252]) (Ls := [(0, rf 252), (1, iv x1), (2, iv x2)]) r_263_5 (n_263_5 _) rfl ⟨rfl, rfl, by decide, by decide⟩ rfl rfl lf_252 ⟨rfl, Nat.le_of_ble_eq_true rfl, Nat.le_of_ble_eq_true rfl⟩ rfl h ?_
  intro o1 s1 h
  rcases h with ⟨y1, q2, rfl, h⟩ | ⟨e1, rfl, h⟩
  · refine .inl ⟨some (iv y1), rfl, ?_⟩
    show wp S 263 8 [(0, rf 252), (1, iv x1), (2, iv x2), (3, .long u3), (5, .long u5)] [iv y1, rf 252, rf 252] s1 Q
    refine wp_virt (b := 252) (rest := [rf 252]) (Ls := [(0, rf 252), (1, iv y1)]) r_263_8 (n_263_8 _) rfl ⟨rfl, rfl, by decide, by decide⟩ rfl rfl lf_252 ⟨rfl, Nat.le_of_ble_eq_true rfl, Nat.le_of_ble_eq_true rfl⟩ rfl h ?_
    intro o3 s3 h
    rcases h with ⟨y3, q4, rfl, h⟩ | ⟨e3, rfl, h⟩
    · refine .inl ⟨some (iv y3), rfl, ?_⟩
      show wp S 263 11 [(0, rf 252), (1, iv x1), (2, iv x2), (3, .long u3), (5, .long u5)] [iv y3, rf 252] s3 Q
      refine wp_virt (b := 252) (rest := []) (Ls := [(0, rf 252), (1, iv y3)]) r_263_11 (n_263_11 _) rfl ⟨rfl, rfl, by decide, by decide⟩ rfl rfl lf_252 ⟨rfl, Nat.le_of_ble_eq_true rfl, Nat.le_of_ble_eq_true rfl⟩ rfl h ?_
      intro o5 s5 h
      rcases h with ⟨y5, q6, rfl, h⟩ | ⟨e5, rfl, h⟩
      · refine .inl ⟨some (iv y5), rfl, ?_⟩
        show wp S 263 14 [(0, rf 252), (1, iv x1), (2, iv x2), (3, .long u3), (5, .long u5)] [iv y5] s5 Q
        refine i_if (t := 19) r_263_14 (n_263_14 _) rfl (T_eq q6 ⟨by omega, by omega⟩) (fun c7 => ?_) (fun c7 => ?_)
        · replace h := h.1 c7
          refine i_aload_n (a := 252) r_263_19 (n_263_19 _) rfl ?_
          refine wp_virt (b := 252) (rest := []) (Ls := [(0, rf 252)]) r_263_20 (n_263_20 _) rfl ⟨rfl, rfl, by decide, by decide⟩ rfl rfl lf_252 ⟨rfl, Nat.le_of_ble_eq_true rfl, Nat.le_of_ble_eq_true rfl⟩ rfl h ?_
          intro o8 s8 h
          rcases h with ⟨rfl, h⟩ | ⟨e8, rfl, h⟩
          · refine .inl ⟨none, rfl, ?_⟩
            refine i_iconst r_263_23 (n_263_23 _) ?_
            refine i_istore (l' := [(0, rf 252), (1, iv x1), (2, iv x2), (3, .long u3), (5, .long u5), (7, iv 0)]) r_263_24 (n_263_24 _) (by decide) rfl ?_
            exact wp_pr (l' := [(0, rf 252), (1, iv x1), (2, iv x2), (3, .long u3), (5, .long u5), (7, iv 0)]) rfl h
          · skip
            exact h.elim
        · replace h := h.2 c7
          refine i_iconst r_263_17 (n_263_17 _) ?_
          exact i_ireturn r_263_18 (n_263_18 _) rfl h
      · skip
        exact h.elim
    · skip
      exact h.elim
  · skip
    exact h.elim
theorem v_Model_fill_26 {S : Option (Nat × (Nat → Int32))} {s : zSt} {Q : Option Value ⊕ Nat → zSt → Prop} {x1 : Int} {x2 : Int} {u3 : Int64} {u5 : Int64} {x7 : Int} 
    (h : wp S 236 0 [(0, rf 252), (1, iv x1), (2, iv 1)] [] s (fun o1 s1 => zkI (fun y1 => rng x7 ∧ ((y1 ≤ x7 → wp S 236 0 [(0, rf 252), (1, iv x1), (2, iv 1)] [] s1 (fun o5 s5 => zkI (fun y5 => Q (rI y5) s5) (fun e5 => False) o5)) ∧ (x7 < y1 → wp S 252 0 [(0, rf 252), (1, iv x1), (2, iv x7), (3, iv x2), (4, .long (u3 + ((zi2l x7) * u5)))] [] s1 (fun o7 s7 => zkU (wp S 263 26 [(0, rf 252), (1, iv x1), (2, iv x2), (3, .long u3), (5, .long u5), (7, iv (x7 + 1))] [] s7 Q) (fun e7 => False) o7)))) (fun e1 => False) o1)) :
    wp S 263 26 [(0, rf 252), (1, iv x1), (2, iv x2), (3, .long u3), (5, .long u5), (7, iv x7)] [] s Q := by
  refine i_iload (x := x7) r_263_26 rfl rfl ?_
  refine i_aload_n (a := 252) r_263_28 (n_263_28 _) rfl ?_
  refine i_iload_n (x := x1) r_263_29 (n_263_29 _) rfl ?_
  refine i_iconst r_263_30 (n_263_30 _) ?_
  refine wp_virt (b := 252) (rest := [iv x7]) (Ls := [(0, rf 252), (1, iv x1), (2, iv 1)]) r_263_31 (n_263_31 _) rfl ⟨rfl, rfl, by decide, by decide⟩ rfl rfl lf_252 ⟨rfl, Nat.le_of_ble_eq_true rfl, Nat.le_of_ble_eq_true rfl⟩ rfl h ?_
  intro o1 s1 h
  rcases h with ⟨y1, q2, rfl, h⟩ | ⟨e1, rfl, h⟩
  · refine .inl ⟨some (iv y1), rfl, ?_⟩
    show wp S 263 34 [(0, rf 252), (1, iv x1), (2, iv x2), (3, .long u3), (5, .long u5), (7, iv x7)] [iv y1, iv x7] s1 Q
    obtain ⟨g3, h⟩ := h
    refine i_icmp (t := 59) r_263_34 (n_263_34 _) rfl (T_ge g3 q2) (fun c4 => ?_) (fun c4 => ?_)
    · replace h := h.1 c4
      refine i_aload_n (a := 252) r_263_59 (n_263_59 _) rfl ?_
      refine i_iload_n (x := x1) r_263_60 (n_263_60 _) rfl ?_
      refine i_iconst r_263_61 (n_263_61 _) ?_
      refine wp_virt (b := 252) (rest := []) (Ls := [(0, rf 252), (1, iv x1), (2, iv 1)]) r_263_62 (n_263_62 _) rfl ⟨rfl, rfl, by decide, by decide⟩ rfl rfl lf_252 ⟨rfl, Nat.le_of_ble_eq_true rfl, Nat.le_of_ble_eq_true rfl⟩ rfl h ?_
      intro o5 s5 h
      rcases h with ⟨y5, q6, rfl, h⟩ | ⟨e5, rfl, h⟩
      · refine .inl ⟨some (iv y5), rfl, ?_⟩
        show wp S 263 65 [(0, rf 252), (1, iv x1), (2, iv x2), (3, .long u3), (5, .long u5), (7, iv x7)] [iv y5] s5 Q
        exact i_ireturn r_263_65 (n_263_65 _) rfl h
      · skip
        exact h.elim
    · replace h := h.2 c4
      refine i_aload_n (a := 252) r_263_37 (n_263_37 _) rfl ?_
      refine i_iload_n (x := x1) r_263_38 (n_263_38 _) rfl ?_
      refine i_iload (x := x7) r_263_39 (n_263_39 _) rfl ?_
      refine i_iload_n (x := x2) r_263_41 (n_263_41 _) rfl ?_
      refine i_lload_n (u := u3) r_263_42 (n_263_42 _) rfl ?_
      refine i_iload (x := x7) r_263_43 (n_263_43 _) rfl ?_
      refine i_i2l r_263_45 (n_263_45 _) ?_
      refine i_lload (u := u5) r_263_46 (n_263_46 _) rfl ?_
      refine i_lmul r_263_48 (n_263_48 _) ?_
      refine i_ladd r_263_49 (n_263_49 _) ?_
      refine wp_virt (b := 252) (rest := []) (Ls := [(0, rf 252), (1, iv x1), (2, iv x7), (3, iv x2), (4, .long (u3 + ((zi2l x7) * u5)))]) r_263_50 (n_263_50 _) rfl ⟨rfl, rfl, by decide, by decide⟩ rfl rfl lf_252 ⟨rfl, Nat.le_of_ble_eq_true rfl, Nat.le_of_ble_eq_true rfl⟩ rfl h ?_
      intro o7 s7 h
      rcases h with ⟨rfl, h⟩ | ⟨e7, rfl, h⟩
      · refine .inl ⟨none, rfl, ?_⟩
        refine i_iinc (x := x7) (l' := [(0, rf 252), (1, iv x1), (2, iv x2), (3, .long u3), (5, .long u5), (7, iv (x7 + 1))]) r_263_53 (n_263_53 _) (by decide) rfl rfl ?_
        refine i_goto (t := 26) r_263_56 (n_263_56 _) rfl ?_
        exact wp_pr (l' := [(0, rf 252), (1, iv x1), (2, iv x2), (3, .long u3), (5, .long u5), (7, iv (x7 + 1))]) rfl h
      · skip
        exact h.elim
  · skip
    exact h.elim
theorem r_264_0 : xfetch 264 0 = some (.aload_n 0, 1) := by decide +kernel
theorem n_264_0 : ∀ l, xpr 264 0 l = l := xpr_no (by decide +kernel)
theorem r_264_1 : xfetch 264 1 = some (.aload_n 0, 1) := by decide +kernel
theorem n_264_1 : ∀ l, xpr 264 1 l = l := xpr_no (by decide +kernel)
theorem r_264_2 : xfetch 264 2 = some (.aload_n 0, 1) := by decide +kernel
theorem n_264_2 : ∀ l, xpr 264 2 l = l := xpr_no (by decide +kernel)
theorem r_264_3 : xfetch 264 3 = some (.iload_n 1, 1) := by decide +kernel
theorem n_264_3 : ∀ l, xpr 264 3 l = l := xpr_no (by decide +kernel)
theorem r_264_4 : xfetch 264 4 = some (.invokevirtual 225, 3) := by decide +kernel
theorem n_264_4 : ∀ l, xpr 264 4 l = l := xpr_no (by decide +kernel)
theorem r_264_7 : xfetch 264 7 = some (.ifCond .eq 25, 3) := by decide +kernel
theorem n_264_7 : ∀ l, xpr 264 7 l = l := xpr_no (by decide +kernel)
theorem r_264_10 : xfetch 264 10 = some (.aload_n 0, 1) := by decide +kernel
theorem n_264_10 : ∀ l, xpr 264 10 l = l := xpr_no (by decide +kernel)
theorem r_264_11 : xfetch 264 11 = some (.iload_n 1, 1) := by decide +kernel
theorem n_264_11 : ∀ l, xpr 264 11 l = l := xpr_no (by decide +kernel)
theorem r_264_12 : xfetch 264 12 = some (.iload_n 2, 1) := by decide +kernel
theorem n_264_12 : ∀ l, xpr 264 12 l = l := xpr_no (by decide +kernel)
theorem r_264_13 : xfetch 264 13 = some (.invokevirtual 257, 3) := by decide +kernel
theorem n_264_13 : ∀ l, xpr 264 13 l = l := xpr_no (by decide +kernel)
theorem r_264_16 : xfetch 264 16 = some (.ifCond .eq 16, 3) := by decide +kernel
theorem n_264_16 : ∀ l, xpr 264 16 l = l := xpr_no (by decide +kernel)
theorem r_264_19 : xfetch 264 19 = some (.aload_n 0, 1) := by decide +kernel
theorem n_264_19 : ∀ l, xpr 264 19 l = l := xpr_no (by decide +kernel)
theorem r_264_20 : xfetch 264 20 = some (.iload_n 1, 1) := by decide +kernel
theorem n_264_20 : ∀ l, xpr 264 20 l = l := xpr_no (by decide +kernel)
theorem r_264_21 : xfetch 264 21 = some (.iload_n 3, 1) := by decide +kernel
theorem n_264_21 : ∀ l, xpr 264 21 l = l := xpr_no (by decide +kernel)
theorem r_264_22 : xfetch 264 22 = some (.invokevirtual 257, 3) := by decide +kernel
theorem n_264_22 : ∀ l, xpr 264 22 l = l := xpr_no (by decide +kernel)
theorem r_264_25 : xfetch 264 25 = some (.ifCond .eq 7, 3) := by decide +kernel
theorem n_264_25 : ∀ l, xpr 264 25 l = l := xpr_no (by decide +kernel)
theorem r_264_28 : xfetch 264 28 = some (.iconst 1, 1) := by decide +kernel
theorem n_264_28 : ∀ l, xpr 264 28 l = l := xpr_no (by decide +kernel)
theorem r_264_29 : xfetch 264 29 = some (.goto 4, 3) := by decide +kernel
theorem n_264_29 : ∀ l, xpr 264 29 l = l := xpr_no (by decide +kernel)
theorem r_264_32 : xfetch 264 32 = some (.iconst 0, 1) := by decide +kernel
theorem n_264_32 : ∀ l, xpr 264 32 l = l := xpr_no (by decide +kernel)
theorem r_264_33 : xfetch 264 33 = some (.invokevirtual 175, 3) := by decide +kernel
theorem n_264_33 : ∀ l, xpr 264 33 l = l := xpr_no (by decide +kernel)
theorem r_264_36 : xfetch 264 36 = some (.invokevirtual 84, 3) := by decide +kernel
theorem n_264_36 : ∀ l, xpr 264 36 l = l := xpr_no (by decide +kernel)
theorem r_264_39 : xfetch 264 39 = some (.ifCond .eq 5, 3) := by decide +kernel
theorem n_264_39 : ∀ l, xpr 264 39 l = l := xpr_no (by decide +kernel)
theorem r_264_42 : xfetch 264 42 = some (.iconst 0, 1) := by decide +kernel
theorem n_264_42 : ∀ l, xpr 264 42 l = l := xpr_no (by decide +kernel)
theorem r_264_43 : xfetch 264 43 = some (.ireturn, 1) := by decide +kernel
theorem n_264_43 : ∀ l, xpr 264 43 l = l := xpr_no (by decide +kernel)
theorem r_264_44 : xfetch 264 44 = some (.aload_n 0, 1) := by decide +kernel
theorem n_264_44 : ∀ l, xpr 264 44 l = l := xpr_no (by decide +kernel)
theorem r_264_45 : xfetch 264 45 = some (.invokevirtual 152, 3) := by decide +kernel
theorem n_264_45 : ∀ l, xpr 264 45 l = l := xpr_no (by decide +kernel)
theorem r_264_48 : xfetch 264 48 = some (.aload_n 0, 1) := by decide +kernel
theorem n_264_48 : ∀ l, xpr 264 48 l = l := xpr_no (by decide +kernel)
theorem r_264_49 : xfetch 264 49 = some (.invokevirtual 135, 3) := by decide +kernel
theorem n_264_49 : ∀ l, xpr 264 49 l = l := xpr_no (by decide +kernel)
theorem r_264_52 : xfetch 264 52 = some (.aload_n 0, 1) := by decide +kernel
theorem n_264_52 : ∀ l, xpr 264 52 l = l := xpr_no (by decide +kernel)
theorem r_264_53 : xfetch 264 53 = some (.iload_n 1, 1) := by decide +kernel
theorem n_264_53 : ∀ l, xpr 264 53 l = l := xpr_no (by decide +kernel)
theorem r_264_54 : xfetch 264 54 = some (.invokevirtual 284, 3) := by decide +kernel
theorem n_264_54 : ∀ l, xpr 264 54 l = l := xpr_no (by decide +kernel)
theorem r_264_57 : xfetch 264 57 = some (.iconst 0, 1) := by decide +kernel
theorem n_264_57 : ∀ l, xpr 264 57 l = l := xpr_no (by decide +kernel)
theorem r_264_58 : xfetch 264 58 = some (.istore 4, 2) := by decide +kernel
theorem n_264_58 : ∀ l, xpr 264 58 l = l := xpr_no (by decide +kernel)
theorem r_264_60 : xfetch 264 60 = some (.iconst 0, 1) := by decide +kernel
theorem n_264_60 : ∀ l, xpr 264 60 l = l := xpr_no (by decide +kernel)
theorem r_264_61 : xfetch 264 61 = some (.istore 5, 2) := by decide +kernel
theorem n_264_61 : ∀ l, xpr 264 61 l = l := xpr_no (by decide +kernel)
theorem r_264_63 : xfetch 264 63 = some (.iload 5, 2) := by decide +kernel
theorem r_264_65 : xfetch 264 65 = some (.aload_n 0, 1) := by decide +kernel
theorem n_264_65 : ∀ l, xpr 264 65 l = l := xpr_no (by decide +kernel)
theorem r_264_66 : xfetch 264 66 = some (.getfield 19, 3) := by decide +kernel
theorem n_264_66 : ∀ l, xpr 264 66 l = l := xpr_no (by decide +kernel)
theorem r_264_69 : xfetch 264 69 = some (.aload_n 0, 1) := by decide +kernel
theorem n_264_69 : ∀ l, xpr 264 69 l = l := xpr_no (by decide +kernel)
theorem r_264_70 : xfetch 264 70 = some (.iload_n 1, 1) := by decide +kernel
theorem n_264_70 : ∀ l, xpr 264 70 l = l := xpr_no (by decide +kernel)
theorem r_264_71 : xfetch 264 71 = some (.iconst 0, 1) := by decide +kernel
theorem n_264_71 : ∀ l, xpr 264 71 l = l := xpr_no (by decide +kernel)
theorem r_264_72 : xfetch 264 72 = some (.invokevirtual 228, 3) := by decide +kernel
theorem n_264_72 : ∀ l, xpr 264 72 l = l := xpr_no (by decide +kernel)
theorem r_264_75 : xfetch 264 75 = some (.iaload, 1) := by decide +kernel
theorem n_264_75 : ∀ l, xpr 264 75 l = l := xpr_no (by decide +kernel)
theorem r_264_76 : xfetch 264 76 = some (.if_icmp .ge 67, 3) := by decide +kernel
theorem n_264_76 : ∀ l, xpr 264 76 l = l := xpr_no (by decide +kernel)
theorem r_264_79 : xfetch 264 79 = some (.aload_n 0, 1) := by decide +kernel
theorem n_264_79 : ∀ l, xpr 264 79 l = l := xpr_no (by decide +kernel)
theorem r_264_80 : xfetch 264 80 = some (.iload_n 1, 1) := by decide +kernel
theorem n_264_80 : ∀ l, xpr 264 80 l = l := xpr_no (by decide +kernel)
theorem r_264_81 : xfetch 264 81 = some (.iload_n 3, 1) := by decide +kernel
theorem n_264_81 : ∀ l, xpr 264 81 l = l := xpr_no (by decide +kernel)
theorem r_264_82 : xfetch 264 82 = some (.iload 5, 2) := by decide +kernel
theorem n_264_82 : ∀ l, xpr 264 82 l = l := xpr_no (by decide +kernel)
theorem r_264_84 : xfetch 264 84 = some (.aload_n 0, 1) := by decide +kernel
theorem n_264_84 : ∀ l, xpr 264 84 l = l := xpr_no (by decide +kernel)
theorem r_264_85 : xfetch 264 85 = some (.getfield 67, 3) := by decide +kernel
theorem n_264_85 : ∀ l, xpr 264 85 l = l := xpr_no (by decide +kernel)
theorem r_264_88 : xfetch 264 88 = some (.bipush 40, 2) := by decide +kernel
theorem n_264_88 : ∀ l, xpr 264 88 l = l := xpr_no (by decide +kernel)
theorem r_264_90 : xfetch 264 90 = some (.iload_n 2, 1) := by decide +kernel
theorem n_264_90 : ∀ l, xpr 264 90 l = l := xpr_no (by decide +kernel)
theorem r_264_91 : xfetch 264 91 = some (.imul, 1) := by decide +kernel
theorem n_264_91 : ∀ l, xpr 264 91 l = l := xpr_no (by decide +kernel)
theorem r_264_92 : xfetch 264 92 = some (.iload 5, 2) := by decide +kernel
theorem n_264_92 : ∀ l, xpr 264 92 l = l := xpr_no (by decide +kernel)
theorem r_264_94 : xfetch 264 94 = some (.iadd, 1) := by decide +kernel
theorem n_264_94 : ∀ l, xpr 264 94 l = l := xpr_no (by decide +kernel)
theorem r_264_95 : xfetch 264 95 = some (.laload, 1) := by decide +kernel
theorem n_264_95 : ∀ l, xpr 264 95 l = l := xpr_no (by decide +kernel)
theorem r_264_96 : xfetch 264 96 = some (.invokevirtual 281, 3) := by decide +kernel
theorem n_264_96 : ∀ l, xpr 264 96 l = l := xpr_no (by decide +kernel)
theorem r_264_99 : xfetch 264 99 = some (.iload 4, 2) := by decide +kernel
theorem n_264_99 : ∀ l, xpr 264 99 l = l := xpr_no (by decide +kernel)
theorem r_264_101 : xfetch 264 101 = some (.aload_n 0, 1) := by decide +kernel
theorem n_264_101 : ∀ l, xpr 264 101 l = l := xpr_no (by decide +kernel)
theorem r_264_102 : xfetch 264 102 = some (.getfield 67, 3) := by decide +kernel
theorem n_264_102 : ∀ l, xpr 264 102 l = l := xpr_no (by decide +kernel)
theorem r_264_105 : xfetch 264 105 = some (.bipush 40, 2) := by decide +kernel
theorem n_264_105 : ∀ l, xpr 264 105 l = l := xpr_no (by decide +kernel)
theorem r_264_107 : xfetch 264 107 = some (.iload_n 2, 1) := by decide +kernel
theorem n_264_107 : ∀ l, xpr 264 107 l = l := xpr_no (by decide +kernel)
theorem r_264_108 : xfetch 264 108 = some (.imul, 1) := by decide +kernel
theorem n_264_108 : ∀ l, xpr 264 108 l = l := xpr_no (by decide +kernel)
theorem r_264_109 : xfetch 264 109 = some (.iload 5, 2) := by decide +kernel
theorem n_264_109 : ∀ l, xpr 264 109 l = l := xpr_no (by decide +kernel)
theorem r_264_111 : xfetch 264 111 = some (.iadd, 1) := by decide +kernel
theorem n_264_111 : ∀ l, xpr 264 111 l = l := xpr_no (by decide +kernel)
theorem r_264_112 : xfetch 264 112 = some (.laload, 1) := by decide +kernel
theorem n_264_112 : ∀ l, xpr 264 112 l = l := xpr_no (by decide +kernel)
theorem r_264_113 : xfetch 264 113 = some (.aload_n 0, 1) := by decide +kernel
theorem n_264_113 : ∀ l, xpr 264 113 l = l := xpr_no (by decide +kernel)
theorem r_264_114 : xfetch 264 114 = some (.getfield 67, 3) := by decide +kernel
theorem n_264_114 : ∀ l, xpr 264 114 l = l := xpr_no (by decide +kernel)
theorem r_264_117 : xfetch 264 117 = some (.bipush 40, 2) := by decide +kernel
theorem n_264_117 : ∀ l, xpr 264 117 l = l := xpr_no (by decide +kernel)
theorem r_264_119 : xfetch 264 119 = some (.iload_n 3, 1) := by decide +kernel
theorem n_264_119 : ∀ l, xpr 264 119 l = l := xpr_no (by decide +kernel)
theorem r_264_120 : xfetch 264 120 = some (.imul, 1) := by decide +kernel
theorem n_264_120 : ∀ l, xpr 264 120 l = l := xpr_no (by decide +kernel)
theorem r_264_121 : xfetch 264 121 = some (.iload 5, 2) := by decide +kernel
theorem n_264_121 : ∀ l, xpr 264 121 l = l := xpr_no (by decide +kernel)
theorem r_264_123 : xfetch 264 123 = some (.iadd, 1) := by decide +kernel
theorem n_264_123 : ∀ l, xpr 264 123 l = l := xpr_no (by decide +kernel)
theorem r_264_124 : xfetch 264 124 = some (.laload, 1) := by decide +kernel
theorem n_264_124 : ∀ l, xpr 264 124 l = l := xpr_no (by decide +kernel)
theorem r_264_125 : xfetch 264 125 = some (.lcmp, 1) := by decide +kernel
theorem n_264_125 : ∀ l, xpr 264 125 l = l := xpr_no (by decide +kernel)
theorem r_264_126 : xfetch 264 126 = some (.ifCond .ne 7, 3) := by decide +kernel
theorem n_264_126 : ∀ l, xpr 264 126 l = l := xpr_no (by decide +kernel)
theorem r_264_129 : xfetch 264 129 = some (.iconst 0, 1) := by decide +kernel
theorem n_264_129 : ∀ l, xpr 264 129 l = l := xpr_no (by decide +kernel)
theorem r_264_130 : xfetch 264 130 = some (.goto 4, 3) := by decide +kernel
theorem n_264_130 : ∀ l, xpr 264 130 l = l := xpr_no (by decide +kernel)
theorem r_264_133 : xfetch 264 133 = some (.iconst 1, 1) := by decide +kernel
theorem n_264_133 : ∀ l, xpr 264 133 l = l := xpr_no (by decide +kernel)
theorem r_264_134 : xfetch 264 134 = some (.iadd, 1) := by decide +kernel
theorem n_264_134 : ∀ l, xpr 264 134 l = l := xpr_no (by decide +kernel)
theorem r_264_135 : xfetch 264 135 = some (.istore 4, 2) := by decide +kernel
theorem n_264_135 : ∀ l, xpr 264 135 l = l := xpr_no (by decide +kernel)
theorem r_264_137 : xfetch 264 137 = some (.iinc 5 1, 3) := by decide +kernel
theorem n_264_137 : ∀ l, xpr 264 137 l = l := xpr_no (by decide +kernel)
theorem r_264_140 : xfetch 264 140 = some (.goto (-77), 3) := by decide +kernel
theorem n_264_140 : ∀ l, xpr 264 140 l = l := xpr_no (by decide +kernel)
theorem r_264_143 : xfetch 264 143 = some (.iload 4, 2) := by decide +kernel
theorem n_264_143 : ∀ l, xpr 264 143 l = l := xpr_no (by decide +kernel)
theorem r_264_145 : xfetch 264 145 = some (.ireturn, 1) := by decide +kernel
theorem n_264_145 : ∀ l, xpr 264 145 l = l := xpr_no (by decide +kernel)
theorem v_Model_copyRow_0 {S : Option (Nat × (Nat → Int32))} {s : zSt} {Q : Option Value ⊕ Nat → zSt → Prop} {x1 : Int} {x2 : Int} {x3 : Int} 
    (h : wp S 229 0 [(0, rf 252), (1, iv x1)] [] s (fun o1 s1 => zkI (fun y1 => (y1 = 0 → wp S 213 0 [(0, rf 252), (1, iv 0)] [] s1 (fun o4 s4 => zkI (fun y4 => wp S 179 0 [(0, rf 252), (1, iv y4)] [] s4 (fun o6 s6 => zkI (fun y6 => (y6 = 0 → wp S 193 0 [(0, rf 252)] [] s6 (fun o9 s9 => zkU (wp S 182 0 [(0, rf 252)] [] s9 (fun o11 s11 => zkU (wp S 258 0 [(0, rf 252), (1, iv x1)] [] s11 (fun o13 s13 => zkU (wp S 264 63 [(0, rf 252), (1, iv x1), (2, iv x2), (3, iv x3), (4, iv 0), (5, iv 0)] [] s13 Q) (fun e13 => False) o13)) (fun e11 => False) o11)) (fun e9 => False) o9)) ∧ (y6 ≠ 0 → Q (rI 0) s6)) (fun e6 => False) o6)) (fun e4 => False) o4)) ∧ (y1 ≠ 0 → wp S 244 0 [(0, rf 252), (1, iv x1), (2, iv x2)] [] s1 (fun o15 s15 => zkI (fun y15 => (y15 = 0 → wp S 213 0 [(0, rf 252), (1, iv 0)] [] s15 (fun o18 s18 => zkI (fun y18 => wp S 179 0 [(0, rf 252), (1, iv y18)] [] s18 (fun o20 s20 => zkI (fun y20 => (y20 = 0 → wp S 193 0 [(0, rf 252)] [] s20 (fun o23 s23 => zkU (wp S 182 0 [(0, rf 252)] [] s23 (fun o25 s25 => zkU (wp S 258 0 [(0, rf 252), (1, iv x1)] [] s25 (fun o27 s27 => zkU (wp S 264 63 [(0, rf 252), (1, iv x1), (2, iv x2), (3, iv x3), (4, iv 0), (5, iv 0)] [] s27 Q) (fun e27 => False) o27)) (fun e25 => False) o25)) (fun e23 => False) o23)) ∧ (y20 ≠ 0 → Q (rI 0) s20)) (fun e20 => False) o20)) (fun e18 => False) o18)) ∧ (y15 ≠ 0 → wp S 244 0 [(0, rf 252), (1, iv x1), (2, iv x3)] [] s15 (fun o29 s29 => zkI (fun y29 => (y29 = 0 → wp S 213 0 [(0, rf 252), (1, iv 0)] [] s29 (fun o32 s32 => zkI (fun y32 => wp S 179 0 [(0, rf 252), (1, iv y32)] [] s32 (fun o34 s34 => zkI (fun y34 => (y34 = 0 → wp S 193 0 [(0, rf 252)] [] s34 (fun o37 s37 => zkU (wp S 182 0 [(0, rf 252)] [] s37 (fun o39 s39 => zkU (wp S 258 0 [(0, rf 252), (1, iv x1)] [] s39 (fun o41 s41 => zkU (wp S 264 63 [(0, rf 252), (1, iv x1), (2, iv x2), (3, iv x3), (4, iv 0), (5, iv 0)] [] s41 Q) (fun e41 => False) o41)) (fun e39 => False) o39)) (fun e37 => False) o37)) ∧ (y34 ≠ 0 → Q (rI 0) s34)) (fun e34 => False) o34)) (fun e32 => False) o32)) ∧ (y29 ≠ 0 → wp S 213 0 [(0, rf 252), (1, iv 1)] [] s29 (fun o43 s43 => zkI (fun y43 => wp S 179 0 [(0, rf 252), (1, iv y43)] [] s43 (fun o45 s45 => zkI (fun y45 => (y45 = 0 → wp S 193 0 [(0, rf 252)] [] s45 (fun o48 s48 => zkU (wp S 182 0 [(0, rf 252)] [] s48 (fun o50 s50 => zkU (wp S 258 0 [(0, rf 252), (1, iv x1)] [] s50 (fun o52 s52 => zkU (wp S 264 63 [(0, rf 252), (1, iv x1), (2, iv x2), (3, iv x3), (4, iv 0), (5, iv 0)] [] s52 Q) (fun e52 => False) o52)) (fun e50 => False) o50)) (fun e48 => False) o48)) ∧ (y45 ≠ 0 → Q (rI 0) s45)) (fun e45 => False) o45)) (fun e43 => False) o43))) (fun e29 => False) o29))) (fun e15 => False) o15))) (fun e1 => False) o1)) :
    wp S 264 0 [(0, rf 252), (1, iv x1), (2, iv x2), (3, iv x3)] [] s Q := by
  refine i_aload_n (a := 252) r_264_0 (n_264_0 _) rfl ?_
  refine i_aload_n (a := 252) r_264_1 (n_264_1 _) rfl ?_
  refine i_aload_n (a := 252) r_264_2 (n_264_2 _) rfl ?_
  refine i_iload_n (x := x1) r_264_3 (n_264_3 _) rfl ?_
  refine wp_virt (b := 252) (rest := [rf 252, rf 252]) (Ls := [(0, rf 252), (1, iv x1)]) r_264_4 (n_264_4 _) rfl ⟨rfl, rfl, by decide, by decide⟩ rfl rfl lf_252 ⟨rfl, Nat.le_of_ble_eq_true rfl, Nat.le_of_ble_eq_true rfl⟩ rfl h ?_
  intro o1 s1 h
  rcases h with ⟨y1, q2, rfl, h⟩ | ⟨e1, rfl, h⟩
  · refine .inl ⟨some (iv y1), rfl, ?_⟩
    show wp S 264 7 [(0, rf 252), (1, iv x1), (2, iv x2), (3, iv x3)] [iv y1, rf 252, rf 252] s1 Q
    refine i_if (t := 32) r_264_7 (n_264_7 _) rfl (T_eq q2 ⟨by omega, by omega⟩) (fun c3 => ?_) (fun c3 => ?_)
    · replace h := h.1 c3
      refine i_iconst r_264_32 (n_264_32 _) ?_
      refine wp_virt (b := 252) (rest := [rf 252]) (Ls := [(0, rf 252), (1, iv 0)]) r_264_33 (n_264_33 _) rfl ⟨rfl, rfl, by decide, by decide⟩ rfl rfl lf_252 ⟨rfl, Nat.le_of_ble_eq_true rfl, Nat.le_of_ble_eq_true rfl⟩ rfl h ?_
      intro o4 s4 h
      rcases h with ⟨y4, q5, rfl, h⟩ | ⟨e4, rfl, h⟩
      · refine .inl ⟨some (iv y4), rfl, ?_⟩
        show wp S 264 36 [(0, rf 252), (1, iv x1), (2, iv x2), (3, iv x3)] [iv y4, rf 252] s4 Q
        refine wp_virt (b := 252) (rest := []) (Ls := [(0, rf 252), (1, iv y4)]) r_264_36 (n_264_36 _) rfl ⟨rfl, rfl, by decide, by decide⟩ rfl rfl lf_252 ⟨rfl, Nat.le_of_ble_eq_true rfl, Nat.le_of_ble_eq_true rfl⟩ rfl h ?_
        intro o6 s6 h
        rcases h with ⟨y6, q7, rfl, h⟩ | ⟨e6, rfl, h⟩
        · refine .inl ⟨some (iv y6), rfl, ?_⟩
          show wp S 264 39 [(0, rf 252), (1, iv x1), (2, iv x2), (3, iv x3)] [iv y6] s6 Q
          refine i_if (t := 44) r_264_39 (n_264_39 _) rfl (T_eq q7 ⟨by omega, by omega⟩) (fun c8 => ?_) (fun c8 => ?_)
          · replace h := h.1 c8
            refine i_aload_n (a := 252) r_264_44 (n_264_44 _) rfl ?_
            refine wp_virt (b := 252) (rest := []) (Ls := [(0, rf 252)]) r_264_45 (n_264_45 _) rfl ⟨rfl, rfl, by decide, by decide⟩ rfl rfl lf_252 ⟨rfl, Nat.le_of_ble_eq_true rfl, Nat.le_of_ble_eq_true rfl⟩ rfl h ?_
            intro o9 s9 h
            rcases h with ⟨rfl, h⟩ | ⟨e9, rfl, h⟩
            · refine .inl ⟨none, rfl, ?_⟩
              refine i_aload_n (a := 252) r_264_48 (n_264_48 _) rfl ?_
              refine wp_virt (b := 252) (rest := []) (Ls := [(0, rf 252)]) r_264_49 (n_264_49 _) rfl ⟨rfl, rfl, by decide, by decide⟩ rfl rfl lf_252 ⟨rfl, Nat.le_of_ble_eq_true rfl, Nat.le_of_ble_eq_true rfl⟩ rfl h ?_
              intro o11 s11 h
              rcases h with ⟨rfl, h⟩ | ⟨e11, rfl, h⟩
              · refine .inl ⟨none, rfl, ?_⟩
                refine i_aload_n (a := 252) r_264_52 (n_264_52 _) rfl ?_
                refine i_iload_n (x := x1) r_264_53 (n_264_53 _) rfl ?_
                refine wp_virt (b := 252) (rest := []) (Ls := [(0, rf 252), (1, iv x1)]) r_264_54 (n_264_54 _) rfl ⟨rfl, rfl, by decide, by decide⟩ rfl rfl lf_252 ⟨rfl, Nat.le_of_ble_eq_true rfl, Nat.le_of_ble_eq_true rfl⟩ rfl h ?_
                intro o13 s13 h
                rcases h with ⟨rfl, h⟩ | ⟨e13, rfl, h⟩
                · refine .inl ⟨none, rfl, ?_⟩
                  refine i_iconst r_264_57 (n_264_57 _) ?_
                  refine i_istore (l' := [(0, rf 252), (1, iv x1), (2, iv x2), (3, iv x3), (4, iv 0)]) r_264_58 (n_264_58 _) (by decide) rfl ?_
                  refine i_iconst r_264_60 (n_264_60 _) ?_
                  refine i_istore (l' := [(0, rf 252), (1, iv x1), (2, iv x2), (3, iv x3), (4, iv 0), (5, iv 0)]) r_264_61 (n_264_61 _) (by decide) rfl ?_
                  exact wp_pr (l' := [(0, rf 252), (1, iv x1), (2, iv x2), (3, iv x3), (4, iv 0), (5, iv 0)]) rfl h
                · skip
                  exact h.elim
              · skip
                exact h.elim
            · skip
              exact h.elim
          · replace h := h.2 c8
            refine i_iconst r_264_42 (n_264_42 _) ?_
            exact i_ireturn r_264_43 (n_264_43 _) rfl h
        · skip
          exact h.elim
      · skip
        exact h.elim
    · replace h := h.2 c3
      refine i_aload_n (a := 252) r_264_10 (n_264_10 _) rfl ?_
      refine i_iload_n (x := x1) r_264_11 (n_264_11 _) rfl ?_
      refine i_iload_n (x := x2) r_264_12 (n_264_12 _) rfl ?_
      refine wp_virt (b := 252) (rest := [rf 252, rf 252]) (Ls := [(0, rf 252), (1, iv x1), (2, iv x2)]) r_264_13 (n_264_13 _) rfl ⟨rfl, rfl, by decide, by decide⟩ rfl rfl lf_252 ⟨rfl, Nat.le_of_ble_eq_true rfl, Nat.le_of_ble_eq_true rfl⟩ rfl h ?_
      intro o15 s15 h
      rcases h with ⟨y15, q16, rfl, h⟩ | ⟨e15, rfl, h⟩
      · refine .inl ⟨some (iv y15), rfl, ?_⟩
        show wp S 264 16 [(0, rf 252), (1, iv x1), (2, iv x2), (3, iv x3)] [iv y15, rf 252, rf 252] s15 Q
        refine i_if (t := 32) r_264_16 (n_264_16 _) rfl (T_eq q16 ⟨by omega, by omega⟩) (fun c17 => ?_) (fun c17 => ?_)
        · replace h := h.1 c17
          refine i_iconst r_264_32 (n_264_32 _) ?_
          refine wp_virt (b := 252) (rest := [rf 252]) (Ls := [(0, rf 252), (1, iv 0)]) r_264_33 (n_264_33 _) rfl ⟨rfl, rfl, by decide, by decide⟩ rfl rfl lf_252 ⟨rfl, Nat.le_of_ble_eq_true rfl, Nat.le_of_ble_eq_true rfl⟩ rfl h ?_
          intro o18 s18 h
          rcases h with ⟨y18, q19, rfl, h⟩ | ⟨e18, rfl, h⟩
          · refine .inl ⟨some (iv y18), rfl, ?_⟩
            show wp S 264 36 [(0, rf 252), (1, iv x1), (2, iv x2), (3, iv x3)] [iv y18, rf 252] s18 Q
            refine wp_virt (b := 252) (rest := []) (Ls := [(0, rf 252), (1, iv y18)]) r_264_36 (n_264_36 _) rfl ⟨rfl, rfl, by decide, by decide⟩ rfl rfl lf_252 ⟨rfl, Nat.le_of_ble_eq_true rfl, Nat.le_of_ble_eq_true rfl⟩ rfl h ?_
            intro o20 s20 h
            rcases h with ⟨y20, q21, rfl, h⟩ | ⟨e20, rfl, h⟩
            · refine .inl ⟨some (iv y20), rfl, ?_⟩
              show wp S 264 39 [(0, rf 252), (1, iv x1), (2, iv x2), (3, iv x3)] [iv y20] s20 Q
              refine i_if (t := 44) r_264_39 (n_264_39 _) rfl (T_eq q21 ⟨by omega, by omega⟩) (fun c22 => ?_) (fun c22 => ?_)
              · replace h := h.1 c22
                refine i_aload_n (a := 252) r_264_44 (n_264_44 _) rfl ?_
                refine wp_virt (b := 252) (rest := []) (Ls := [(0, rf 252)]) r_264_45 (n_264_45 _) rfl ⟨rfl, rfl, by decide, by decide⟩ rfl rfl lf_252 ⟨rfl, Nat.le_of_ble_eq_true rfl, Nat.le_of_ble_eq_true rfl⟩ rfl h ?_
                intro o23 s23 h
                rcases h with ⟨rfl, h⟩ | ⟨e23, rfl, h⟩
                · refine .inl ⟨none, rfl, ?_⟩
                  refine i_aload_n (a := 252) r_264_48 (n_264_48 _) rfl ?_
                  refine wp_virt (b := 252) (rest := []) (Ls := [(0, rf 252)]) r_264_49 (n_264_49 _) rfl ⟨rfl, rfl, by decide, by decide⟩ rfl rfl lf_252 ⟨rfl, Nat.le_of_ble_eq_true rfl, Nat.le_of_ble_eq_true rfl⟩ rfl h ?_
                  intro o25 s25 h
                  rcases h with ⟨rfl, h⟩ | ⟨e25, rfl, h⟩
                  · refine .inl ⟨none, rfl, ?_⟩
                    refine i_aload_n (a := 252) r_264_52 (n_264_52 _) rfl ?_
                    refine i_iload_n (x := x1) r_264_53 (n_264_53 _) rfl ?_
                    refine wp_virt (b := 252) (rest := []) (Ls := [(0, rf 252), (1, iv x1)]) r_264_54 (n_264_54 _) rfl ⟨rfl, rfl, by decide, by decide⟩ rfl rfl lf_252 ⟨rfl, Nat.le_of_ble_eq_true rfl, Nat.le_of_ble_eq_true rfl⟩ rfl h ?_
                    intro o27 s27 h
                    rcases h with ⟨rfl, h⟩ | ⟨e27, rfl, h⟩
                    · refine .inl ⟨none, rfl, ?_⟩
                      refine i_iconst r_264_57 (n_264_57 _) ?_
                      refine i_istore (l' := [(0, rf 252), (1, iv x1), (2, iv x2), (3, iv x3), (4, iv 0)]) r_264_58 (n_264_58 _) (by decide) rfl ?_
                      refine i_iconst r_264_60 (n_264_60 _) ?_
                      refine i_istore (l' := [(0, rf 252), (1, iv x1), (2, iv x2), (3, iv x3), (4, iv 0), (5, iv 0)]) r_264_61 (n_264_61 _) (by decide) rfl ?_
                      exact wp_pr (l' := [(0, rf 252), (1, iv x1), (2, iv x2), (3, iv x3), (4, iv 0), (5, iv 0)]) rfl h
                    · skip
                      exact h.elim
                  · skip
                    exact h.elim
                · skip
                  exact h.elim
              · replace h := h.2 c22
                refine i_iconst r_264_42 (n_264_42 _) ?_
                exact i_ireturn r_264_43 (n_264_43 _) rfl h
            · skip
              exact h.elim
          · skip
            exact h.elim
        · replace h := h.2 c17
          refine i_aload_n (a := 252) r_264_19 (n_264_19 _) rfl ?_
          refine i_iload_n (x := x1) r_264_20 (n_264_20 _) rfl ?_
          refine i_iload_n (x := x3) r_264_21 (n_264_21 _) rfl ?_
          refine wp_virt (b := 252) (rest := [rf 252, rf 252]) (Ls := [(0, rf 252), (1, iv x1), (2, iv x3)]) r_264_22 (n_264_22 _) rfl ⟨rfl, rfl, by decide, by decide⟩ rfl rfl lf_252 ⟨rfl, Nat.le_of_ble_eq_true rfl, Nat.le_of_ble_eq_true rfl⟩ rfl h ?_
          intro o29 s29 h
          rcases h with ⟨y29, q30, rfl, h⟩ | ⟨e29, rfl, h⟩
          · refine .inl ⟨some (iv y29), rfl, ?_⟩
            show wp S 264 25 [(0, rf 252), (1, iv x1), (2, iv x2), (3, iv x3)] [iv y29, rf 252, rf 252] s29 Q
            refine i_if (t := 32) r_264_25 (n_264_25 _) rfl (T_eq q30 ⟨by omega, by omega⟩) (fun c31 => ?_) (fun c31 => ?_)
            · replace h := h.1 c31
              refine i_iconst r_264_32 (n_264_32 _) ?_
              refine wp_virt (b := 252) (rest := [rf 252]) (Ls := [(0, rf 252), (1, iv 0)]) r_264_33 (n_264_33 _) rfl ⟨rfl, rfl, by decide, by decide⟩ rfl rfl lf_252 ⟨rfl, Nat.le_of_ble_eq_true rfl, Nat.le_of_ble_eq_true rfl⟩ rfl h ?_
              intro o32 s32 h
              rcases h with ⟨y32, q33, rfl, h⟩ | ⟨e32, rfl, h⟩
              · refine .inl ⟨some (iv y32), rfl, ?_⟩
                show wp S 264 36 [(0, rf 252), (1, iv x1), (2, iv x2), (3, iv x3)] [iv y32, rf 252] s32 Q
                refine wp_virt (b := 252) (rest := []) (Ls := [(0, rf 252), (1, iv y32)]) r_264_36 (n_264_36 _) rfl ⟨rfl, rfl, by decide, by decide⟩ rfl rfl lf_252 ⟨rfl, Nat.le_of_ble_eq_true rfl, Nat.le_of_ble_eq_true rfl⟩ rfl h ?_
                intro o34 s34 h
                rcases h with ⟨y34, q35, rfl, h⟩ | ⟨e34, rfl, h⟩
                · refine .inl ⟨some (iv y34), rfl, ?_⟩
                  show wp S 264 39 [(0, rf 252), (1, iv x1), (2, iv x2), (3, iv x3)] [iv y34] s34 Q
                  refine i_if (t := 44) r_264_39 (n_264_39 _) rfl (T_eq q35 ⟨by omega, by omega⟩) (fun c36 => ?_) (fun c36 => ?_)
                  · replace h := h.1 c36
                    refine i_aload_n (a := 252) r_264_44 (n_264_44 _) rfl ?_
                    refine wp_virt (b := 252) (rest := []) (Ls := [(0, rf 252)]) r_264_45 (n_264_45 _) rfl ⟨rfl, rfl, by decide, by decide⟩ rfl rfl lf_252 ⟨rfl, Nat.le_of_ble_eq_true rfl, Nat.le_of_ble_eq_true rfl⟩ rfl h ?_
                    intro o37 s37 h
                    rcases h with ⟨rfl, h⟩ | ⟨e37, rfl, h⟩
                    · refine .inl ⟨none, rfl, ?_⟩
                      refine i_aload_n (a := 252) r_264_48 (n_264_48 _) rfl ?_
                      refine wp_virt (b := 252) (rest := []) (Ls := [(0, rf 252)]) r_264_49 (n_264_49 _) rfl ⟨rfl, rfl, by decide, by decide⟩ rfl rfl lf_252 ⟨rfl, Nat.le_of_ble_eq_true rfl, Nat.le_of_ble_eq_true rfl⟩ rfl h ?_
                      intro o39 s39 h
                      rcases h with ⟨rfl, h⟩ | ⟨e39, rfl, h⟩
                      · refine .inl ⟨none, rfl, ?_⟩
                        refine i_aload_n (a := 252) r_264_52 (n_264_52 _) rfl ?_
                        refine i_iload_n (x := x1) r_264_53 (n_264_53 _) rfl ?_
                        refine wp_virt (b := 252) (rest := []) (Ls := [(0, rf 252), (1, iv x1)]) r_264_54 (n_264_54 _) rfl ⟨rfl, rfl, by decide, by decide⟩ rfl rfl lf_252 ⟨rfl, Nat.le_of_ble_eq_true rfl, Nat.le_of_ble_eq_true rfl⟩ rfl h ?_
                        intro o41 s41 h
                        rcases h with ⟨rfl, h⟩ | ⟨e41, rfl, h⟩
                        · refine .inl ⟨none, rfl, ?_⟩
                          refine i_iconst r_264_57 (n_264_57 _) ?_
                          refine i_istore (l' := [(0, rf 252), (1, iv x1), (2, iv x2), (3, iv x3), (4, iv 0)]) r_264_58 (n_264_58 _) (by decide) rfl ?_
                          refine i_iconst r_264_60 (n_264_60 _) ?_
                          refine i_istore (l' := [(0, rf 252), (1, iv x1), (2, iv x2), (3, iv x3), (4, iv 0), (5, iv 0)]) r_264_61 (n_264_61 _) (by decide) rfl ?_
                          exact wp_pr (l' := [(0, rf 252), (1, iv x1), (2, iv x2), (3, iv x3), (4, iv 0), (5, iv 0)]) rfl h
                        · skip
                          exact h.elim
                      · skip
                        exact h.elim
                    · skip
                      exact h.elim
                  · replace h := h.2 c36
                    refine i_iconst r_264_42 (n_264_42 _) ?_
                    exact i_ireturn r_264_43 (n_264_43 _) rfl h
                · skip
                  exact h.elim
              · skip
                exact h.elim
            · replace h := h.2 c31
              refine i_iconst r_264_28 (n_264_28 _) ?_
              refine i_goto (t := 33) r_264_29 (n_264_29 _) rfl ?_
              refine wp_virt (b := 252) (rest := [rf 252]) (Ls := [(0, rf 252), (1, iv 1)]) r_264_33 (n_264_33 _) rfl ⟨rfl, rfl, by decide, by decide⟩ rfl rfl lf_252 ⟨rfl, Nat.le_of_ble_eq_true rfl, Nat.le_of_ble_eq_true rfl⟩ rfl h ?_
              intro o43 s43 h
              rcases h with ⟨y43, q44, rfl, h⟩ | ⟨e43, rfl, h⟩
              · refine .inl ⟨some (iv y43), rfl, ?_⟩
                show wp S 264 36 [(0, rf 252), (1, iv x1), (2, iv x2), (3, iv x3)] [iv y43, rf 252] s43 Q
                refine wp_virt (b := 252) (rest := []) (Ls := [(0, rf 252), (1, iv y43)]) r_264_36 (n_264_36 _) rfl ⟨rfl, rfl, by decide, by decide⟩ rfl rfl lf_252 ⟨rfl, Nat.le_of_ble_eq_true rfl, Nat.le_of_ble_eq_true rfl⟩ rfl h ?_
                intro o45 s45 h
                rcases h with ⟨y45, q46, rfl, h⟩ | ⟨e45, rfl, h⟩
                · refine .inl ⟨some (iv y45), rfl, ?_⟩
                  show wp S 264 39 [(0, rf 252), (1, iv x1), (2, iv x2), (3, iv x3)] [iv y45] s45 Q
                  refine i_if (t := 44) r_264_39 (n_264_39 _) rfl (T_eq q46 ⟨by omega, by omega⟩) (fun c47 => ?_) (fun c47 => ?_)
                  · replace h := h.1 c47
                    refine i_aload_n (a := 252) r_264_44 (n_264_44 _) rfl ?_
                    refine wp_virt (b := 252) (rest := []) (Ls := [(0, rf 252)]) r_264_45 (n_264_45 _) rfl ⟨rfl, rfl, by decide, by decide⟩ rfl rfl lf_252 ⟨rfl, Nat.le_of_ble_eq_true rfl, Nat.le_of_ble_eq_true rfl⟩ rfl h ?_
                    intro o48 s48 h
                    rcases h with ⟨rfl, h⟩ | ⟨e48, rfl, h⟩
                    · refine .inl ⟨none, rfl, ?_⟩
                      refine i_aload_n (a := 252) r_264_48 (n_264_48 _) rfl ?_
                      refine wp_virt (b := 252) (rest := []) (Ls := [(0, rf 252)]) r_264_49 (n_264_49 _) rfl ⟨rfl, rfl, by decide, by decide⟩ rfl rfl lf_252 ⟨rfl, Nat.le_of_ble_eq_true rfl, Nat.le_of_ble_eq_true rfl⟩ rfl h ?_
                      intro o50 s50 h
                      rcases h with ⟨rfl, h⟩ | ⟨e50, rfl, h⟩
                      · refine .inl ⟨none, rfl, ?_⟩
                        refine i_aload_n (a := 252) r_264_52 (n_264_52 _) rfl ?_
                        refine i_iload_n (x := x1) r_264_53 (n_264_53 _) rfl ?_
                        refine wp_virt (b := 252) (rest := []) (Ls := [(0, rf 252), (1, iv x1)]) r_264_54 (n_264_54 _) rfl ⟨rfl, rfl, by decide, by decide⟩ rfl rfl lf_252 ⟨rfl, Nat.le_of_ble_eq_true rfl, Nat.le_of_ble_eq_true rfl⟩ rfl h ?_
                        intro o52 s52 h
                        rcases h with ⟨rfl, h⟩ | ⟨e52, rfl, h⟩
                        · refine .inl ⟨none, rfl, ?_⟩
                          refine i_iconst r_264_57 (n_264_57 _) ?_
                          refine i_istore (l' := [(0, rf 252), (1, iv x1), (2, iv x2), (3, iv x3), (4, iv 0)]) r_264_58 (n_264_58 _) (by decide) rfl ?_
                          refine i_iconst r_264_60 (n_264_60 _) ?_
                          refine i_istore (l' := [(0, rf 252), (1, iv x1), (2, iv x2), (3, iv x3), (4, iv 0), (5, iv 0)]) r_264_61 (n_264_61 _) (by decide) rfl ?_
                          exact wp_pr (l' := [(0, rf 252), (1, iv x1), (2, iv x2), (3, iv x3), (4, iv 0), (5, iv 0)]) rfl h
                        · skip
                          exact h.elim
                      · skip
                        exact h.elim
                    · skip
                      exact h.elim
                  · replace h := h.2 c47
                    refine i_iconst r_264_42 (n_264_42 _) ?_
                    exact i_ireturn r_264_43 (n_264_43 _) rfl h
                · skip
                  exact h.elim
              · skip
                exact h.elim
          · skip
            exact h.elim
      · skip
        exact h.elim
  · skip
    exact h.elim
theorem v_Model_copyRow_63 {S : Option (Nat × (Nat → Int32))} {s : zSt} {Q : Option Value ⊕ Nat → zSt → Prop} {x1 : Int} {x2 : Int} {x3 : Int} {x4 : Int} {x5 : Int} 
    (h : wp S 236 0 [(0, rf 252), (1, iv x1), (2, iv 0)] [] s (fun o1 s1 => zkI (fun y1 => (0 ≤ y1 ∧ y1 < 6) ∧ (rng x5 ∧ (((zI s1 256 y1) ≤ x5 → Q (rI x4) s1) ∧ (x5 < (zI s1 256 y1) → (0 ≤ ((40 * x2) + x5) ∧ ((40 * x2) + x5) < 480) ∧ (wp S 252 0 [(0, rf 252), (1, iv x1), (2, iv x3), (3, iv x5), (4, .long (zL s1 272 ((40 * x2) + x5)))] [] s1 (fun o8 s8 => zkU ((0 ≤ ((40 * x3) + x5) ∧ ((40 * x3) + x5) < 480) ∧ (((zcmp (zL s8 272 ((40 * x2) + x5)) (zL s8 272 ((40 * x3) + x5))) ≠ 0 → wp S 264 63 [(0, rf 252), (1, iv x1), (2, iv x2), (3, iv x3), (4, iv (x4 + 1)), (5, iv (x5 + 1))] [] s8 Q) ∧ ((zcmp (zL s8 272 ((40 * x2) + x5)) (zL s8 272 ((40 * x3) + x5))) = 0 → wp S 264 63 [(0, rf 252), (1, iv x1), (2, iv x2), (3, iv x3), (4, iv (x4 + 0)), (5, iv (x5 + 1))] [] s8 Q))) (fun e8 => False) o8)))))) (fun e1 => False) o1)) :
    wp S 264 63 [(0, rf 252), (1, iv x1), (2, iv x2), (3, iv x3), (4, iv x4), (5, iv x5)] [] s Q := by
  refine i_iload (x := x5) r_264_63 rfl rfl ?_
  refine i_aload_n (a := 252) r_264_65 (n_264_65 _) rfl ?_
  refine i_getR (a := 252) (b := 256) r_264_66 (n_264_66 _) rfl rfl rfl (by omega) lf_252 (by omega) ?_
  refine i_aload_n (a := 252) r_264_69 (n_264_69 _) rfl ?_
  refine i_iload_n (x := x1) r_264_70 (n_264_70 _) rfl ?_
  refine i_iconst r_264_71 (n_264_71 _) ?_
  refine wp_virt (b := 252) (rest := [rf 256, iv x5]) (Ls := [(0, rf 252), (1, iv x1), (2, iv 0)]) r_264_72 (n_264_72 _) rfl ⟨rfl, rfl, by decide, by decide⟩ rfl rfl lf_252 ⟨rfl, Nat.le_of_ble_eq_true rfl, Nat.le_of_ble_eq_true rfl⟩ rfl h ?_
  intro o1 s1 h
  rcases h with ⟨y1, q2, rfl, h⟩ | ⟨e1, rfl, h⟩
  · refine .inl ⟨some (iv y1), rfl, ?_⟩
    show wp S 264 75 [(0, rf 252), (1, iv x1), (2, iv x2), (3, iv x3), (4, iv x4), (5, iv x5)] [iv y1, rf 256, iv x5] s1 Q
    obtain ⟨g3, h⟩ := h
    refine i_iaload (a := 256) (j := y1) r_264_75 (n_264_75 _) lf_256 ⟨by omega, by omega⟩ (by omega) (by omega) (fun q4 => ?_)
    obtain ⟨g5, h⟩ := h
    refine i_icmp (t := 143) r_264_76 (n_264_76 _) rfl (T_ge g5 q4) (fun c6 => ?_) (fun c6 => ?_)
    · replace h := h.1 c6
      refine i_iload (x := x4) r_264_143 (n_264_143 _) rfl ?_
      exact i_ireturn r_264_145 (n_264_145 _) rfl h
    · replace h := h.2 c6
      refine i_aload_n (a := 252) r_264_79 (n_264_79 _) rfl ?_
      refine i_iload_n (x := x1) r_264_80 (n_264_80 _) rfl ?_
      refine i_iload_n (x := x3) r_264_81 (n_264_81 _) rfl ?_
      refine i_iload (x := x5) r_264_82 (n_264_82 _) rfl ?_
      refine i_aload_n (a := 252) r_264_84 (n_264_84 _) rfl ?_
      refine i_getR (a := 252) (b := 272) r_264_85 (n_264_85 _) rfl rfl rfl (by omega) lf_252 (by omega) ?_
      refine i_bipush r_264_88 (n_264_88 _) rfl ?_
      refine i_iload_n (x := x2) r_264_90 (n_264_90 _) rfl ?_
      refine i_imul r_264_91 (n_264_91 _) ?_
      refine i_iload (x := x5) r_264_92 (n_264_92 _) rfl ?_
      refine i_iadd r_264_94 (n_264_94 _) ?_
      obtain ⟨g7, h⟩ := h
      refine i_laload (a := 272) (j := (40 * x2) + x5) r_264_95 (n_264_95 _) lf_272 ⟨by omega, by omega⟩ (by omega) (by omega) ?_
      refine wp_virt (b := 252) (rest := []) (Ls := [(0, rf 252), (1, iv x1), (2, iv x3), (3, iv x5), (4, .long (zL s1 272 ((40 * x2) + x5)))]) r_264_96 (n_264_96 _) rfl ⟨rfl, rfl, by decide, by decide⟩ rfl rfl lf_252 ⟨rfl, Nat.le_of_ble_eq_true rfl, Nat.le_of_ble_eq_true rfl⟩ rfl h ?_
      intro o8 s8 h
      rcases h with ⟨rfl, h⟩ | ⟨e8, rfl, h⟩
      · refine .inl ⟨none, rfl, ?_⟩
        refine i_iload (x := x4) r_264_99 (n_264_99 _) rfl ?_
        refine i_aload_n (a := 252) r_264_101 (n_264_101 _) rfl ?_
        refine i_getR (a := 252) (b := 272) r_264_102 (n_264_102 _) rfl rfl rfl (by omega) lf_252 (by omega) ?_
        refine i_bipush r_264_105 (n_264_105 _) rfl ?_
        refine i_iload_n (x := x2) r_264_107 (n_264_107 _) rfl ?_
        refine i_imul r_264_108 (n_264_108 _) ?_
        refine i_iload (x := x5) r_264_109 (n_264_109 _) rfl ?_
        refine i_iadd r_264_111 (n_264_111 _) ?_
        refine i_laload (a := 272) (j := (40 * x2) + x5) r_264_112 (n_264_112 _) lf_272 ⟨by omega, by omega⟩ (by omega) (by omega) ?_
        refine i_aload_n (a := 252) r_264_113 (n_264_113 _) rfl ?_
        refine i_getR (a := 252) (b := 272) r_264_114 (n_264_114 _) rfl rfl rfl (by omega) lf_252 (by omega) ?_
        refine i_bipush r_264_117 (n_264_117 _) rfl ?_
        refine i_iload_n (x := x3) r_264_119 (n_264_119 _) rfl ?_
        refine i_imul r_264_120 (n_264_120 _) ?_
        refine i_iload (x := x5) r_264_121 (n_264_121 _) rfl ?_
        refine i_iadd r_264_123 (n_264_123 _) ?_
        obtain ⟨g10, h⟩ := h
        refine i_laload (a := 272) (j := (40 * x3) + x5) r_264_124 (n_264_124 _) lf_272 ⟨by omega, by omega⟩ (by omega) (by omega) ?_
        refine i_lcmp r_264_125 (n_264_125 _) ?_
        refine i_if (t := 133) r_264_126 (n_264_126 _) rfl (T_ne (zcmp_rng _ _) ⟨by omega, by omega⟩) (fun c11 => ?_) (fun c11 => ?_)
        · replace h := h.1 c11
          refine i_iconst r_264_133 (n_264_133 _) ?_
          refine i_iadd r_264_134 (n_264_134 _) ?_
          refine i_istore (l' := [(0, rf 252), (1, iv x1), (2, iv x2), (3, iv x3), (4, iv (x4 + 1)), (5, iv x5)]) r_264_135 (n_264_135 _) (by decide) rfl ?_
          refine i_iinc (x := x5) (l' := [(0, rf 252), (1, iv x1), (2, iv x2), (3, iv x3), (4, iv (x4 + 1)), (5, iv (x5 + 1))]) r_264_137 (n_264_137 _) (by decide) rfl rfl ?_
          refine i_goto (t := 63) r_264_140 (n_264_140 _) rfl ?_
          exact wp_pr (l' := [(0, rf 252), (1, iv x1), (2, iv x2), (3, iv x3), (4, iv (x4 + 1)), (5, iv (x5 + 1))]) rfl h
        · replace h := h.2 c11
          refine i_iconst r_264_129 (n_264_129 _) ?_
          refine i_goto (t := 134) r_264_130 (n_264_130 _) rfl ?_
          refine i_iadd r_264_134 (n_264_134 _) ?_
          refine i_istore (l' := [(0, rf 252), (1, iv x1), (2, iv x2), (3, iv x3), (4, iv (x4 + 0)), (5, iv x5)]) r_264_135 (n_264_135 _) (by decide) rfl ?_
          refine i_iinc (x := x5) (l' := [(0, rf 252), (1, iv x1), (2, iv x2), (3, iv x3), (4, iv (x4 + 0)), (5, iv (x5 + 1))]) r_264_137 (n_264_137 _) (by decide) rfl rfl ?_
          refine i_goto (t := 63) r_264_140 (n_264_140 _) rfl ?_
          exact wp_pr (l' := [(0, rf 252), (1, iv x1), (2, iv x2), (3, iv x3), (4, iv (x4 + 0)), (5, iv (x5 + 1))]) rfl h
      · skip
        exact h.elim
  · skip
    exact h.elim
theorem r_265_0 : xfetch 265 0 = some (.aload_n 0, 1) := by decide +kernel
theorem n_265_0 : ∀ l, xpr 265 0 l = l := xpr_no (by decide +kernel)
theorem r_265_1 : xfetch 265 1 = some (.aload_n 0, 1) := by decide +kernel
theorem n_265_1 : ∀ l, xpr 265 1 l = l := xpr_no (by decide +kernel)
theorem r_265_2 : xfetch 265 2 = some (.iload_n 1, 1) := by decide +kernel
theorem n_265_2 : ∀ l, xpr 265 2 l = l := xpr_no (by decide +kernel)
theorem r_265_3 : xfetch 265 3 = some (.iload_n 2, 1) := by decide +kernel
theorem n_265_3 : ∀ l, xpr 265 3 l = l := xpr_no (by decide +kernel)
theorem r_265_4 : xfetch 265 4 = some (.invokevirtual 254, 3) := by decide +kernel
theorem n_265_4 : ∀ l, xpr 265 4 l = l := xpr_no (by decide +kernel)
theorem r_265_7 : xfetch 265 7 = some (.ifCond .ne 7, 3) := by decide +kernel
theorem n_265_7 : ∀ l, xpr 265 7 l = l := xpr_no (by decide +kernel)
theorem r_265_10 : xfetch 265 10 = some (.iconst 1, 1) := by decide +kernel
theorem n_265_10 : ∀ l, xpr 265 10 l = l := xpr_no (by decide +kernel)
theorem r_265_11 : xfetch 265 11 = some (.goto 17, 3) := by decide +kernel
theorem n_265_11 : ∀ l, xpr 265 11 l = l := xpr_no (by decide +kernel)
theorem r_265_14 : xfetch 265 14 = some (.iload_n 3, 1) := by decide +kernel
theorem n_265_14 : ∀ l, xpr 265 14 l = l := xpr_no (by decide +kernel)
theorem r_265_15 : xfetch 265 15 = some (.iconst 0, 1) := by decide +kernel
theorem n_265_15 : ∀ l, xpr 265 15 l = l := xpr_no (by decide +kernel)
theorem r_265_16 : xfetch 265 16 = some (.iconst 2, 1) := by decide +kernel
theorem n_265_16 : ∀ l, xpr 265 16 l = l := xpr_no (by decide +kernel)
theorem r_265_17 : xfetch 265 17 = some (.invokestatic 88, 3) := by decide +kernel
theorem n_265_17 : ∀ l, xpr 265 17 l = l := xpr_no (by decide +kernel)
theorem r_265_20 : xfetch 265 20 = some (.ifCond .ne 7, 3) := by decide +kernel
theorem n_265_20 : ∀ l, xpr 265 20 l = l := xpr_no (by decide +kernel)
theorem r_265_23 : xfetch 265 23 = some (.iconst 2, 1) := by decide +kernel
theorem n_265_23 : ∀ l, xpr 265 23 l = l := xpr_no (by decide +kernel)
theorem r_265_24 : xfetch 265 24 = some (.goto 4, 3) := by decide +kernel
theorem n_265_24 : ∀ l, xpr 265 24 l = l := xpr_no (by decide +kernel)
theorem r_265_27 : xfetch 265 27 = some (.iconst 0, 1) := by decide +kernel
theorem n_265_27 : ∀ l, xpr 265 27 l = l := xpr_no (by decide +kernel)
theorem r_265_28 : xfetch 265 28 = some (.invokevirtual 84, 3) := by decide +kernel
theorem n_265_28 : ∀ l, xpr 265 28 l = l := xpr_no (by decide +kernel)
theorem r_265_31 : xfetch 265 31 = some (.ifCond .eq 5, 3) := by decide +kernel
theorem n_265_31 : ∀ l, xpr 265 31 l = l := xpr_no (by decide +kernel)
theorem r_265_34 : xfetch 265 34 = some (.iconst 0, 1) := by decide +kernel
theorem n_265_34 : ∀ l, xpr 265 34 l = l := xpr_no (by decide +kernel)
theorem r_265_35 : xfetch 265 35 = some (.ireturn, 1) := by decide +kernel
theorem n_265_35 : ∀ l, xpr 265 35 l = l := xpr_no (by decide +kernel)
theorem r_265_36 : xfetch 265 36 = some (.iconst 0, 1) := by decide +kernel
theorem n_265_36 : ∀ l, xpr 265 36 l = l := xpr_no (by decide +kernel)
theorem r_265_37 : xfetch 265 37 = some (.istore 6, 2) := by decide +kernel
theorem n_265_37 : ∀ l, xpr 265 37 l = l := xpr_no (by decide +kernel)
theorem r_265_39 : xfetch 265 39 = some (.iconst 0, 1) := by decide +kernel
theorem n_265_39 : ∀ l, xpr 265 39 l = l := xpr_no (by decide +kernel)
theorem r_265_40 : xfetch 265 40 = some (.istore 7, 2) := by decide +kernel
theorem n_265_40 : ∀ l, xpr 265 40 l = l := xpr_no (by decide +kernel)
theorem r_265_42 : xfetch 265 42 = some (.iload 7, 2) := by decide +kernel
theorem r_265_44 : xfetch 265 44 = some (.aload_n 0, 1) := by decide +kernel
theorem n_265_44 : ∀ l, xpr 265 44 l = l := xpr_no (by decide +kernel)
theorem r_265_45 : xfetch 265 45 = some (.iload_n 1, 1) := by decide +kernel
theorem n_265_45 : ∀ l, xpr 265 45 l = l := xpr_no (by decide +kernel)
theorem r_265_46 : xfetch 265 46 = some (.iconst 1, 1) := by decide +kernel
theorem n_265_46 : ∀ l, xpr 265 46 l = l := xpr_no (by decide +kernel)
theorem r_265_47 : xfetch 265 47 = some (.invokevirtual 228, 3) := by decide +kernel
theorem n_265_47 : ∀ l, xpr 265 47 l = l := xpr_no (by decide +kernel)
theorem r_265_50 : xfetch 265 50 = some (.if_icmp .ge 68, 3) := by decide +kernel
theorem n_265_50 : ∀ l, xpr 265 50 l = l := xpr_no (by decide +kernel)
theorem r_265_53 : xfetch 265 53 = some (.aload_n 0, 1) := by decide +kernel
theorem n_265_53 : ∀ l, xpr 265 53 l = l := xpr_no (by decide +kernel)
theorem r_265_54 : xfetch 265 54 = some (.iload_n 1, 1) := by decide +kernel
theorem n_265_54 : ∀ l, xpr 265 54 l = l := xpr_no (by decide +kernel)
theorem r_265_55 : xfetch 265 55 = some (.iload 7, 2) := by decide +kernel
theorem n_265_55 : ∀ l, xpr 265 55 l = l := xpr_no (by decide +kernel)
theorem r_265_57 : xfetch 265 57 = some (.iload_n 2, 1) := by decide +kernel
theorem n_265_57 : ∀ l, xpr 265 57 l = l := xpr_no (by decide +kernel)
theorem r_265_58 : xfetch 265 58 = some (.invokevirtual 278, 3) := by decide +kernel
theorem n_265_58 : ∀ l, xpr 265 58 l = l := xpr_no (by decide +kernel)
theorem r_265_61 : xfetch 265 61 = some (.lstore 8, 2) := by decide +kernel
theorem n_265_61 : ∀ l, xpr 265 61 l = l := xpr_no (by decide +kernel)
theorem r_265_63 : xfetch 265 63 = some (.iload 6, 2) := by decide +kernel
theorem n_265_63 : ∀ l, xpr 265 63 l = l := xpr_no (by decide +kernel)
theorem r_265_65 : xfetch 265 65 = some (.iload_n 3, 1) := by decide +kernel
theorem n_265_65 : ∀ l, xpr 265 65 l = l := xpr_no (by decide +kernel)
theorem r_265_66 : xfetch 265 66 = some (.ifCond .ne 14, 3) := by decide +kernel
theorem n_265_66 : ∀ l, xpr 265 66 l = l := xpr_no (by decide +kernel)
theorem r_265_69 : xfetch 265 69 = some (.lload 8, 2) := by decide +kernel
theorem n_265_69 : ∀ l, xpr 265 69 l = l := xpr_no (by decide +kernel)
theorem r_265_71 : xfetch 265 71 = some (.lload 4, 2) := by decide +kernel
theorem n_265_71 : ∀ l, xpr 265 71 l = l := xpr_no (by decide +kernel)
theorem r_265_73 : xfetch 265 73 = some (.lcmp, 1) := by decide +kernel
theorem n_265_73 : ∀ l, xpr 265 73 l = l := xpr_no (by decide +kernel)
theorem r_265_74 : xfetch 265 74 = some (.ifCond .ge 34, 3) := by decide +kernel
theorem n_265_74 : ∀ l, xpr 265 74 l = l := xpr_no (by decide +kernel)
theorem r_265_77 : xfetch 265 77 = some (.goto 27, 3) := by decide +kernel
theorem n_265_77 : ∀ l, xpr 265 77 l = l := xpr_no (by decide +kernel)
theorem r_265_80 : xfetch 265 80 = some (.iload_n 3, 1) := by decide +kernel
theorem n_265_80 : ∀ l, xpr 265 80 l = l := xpr_no (by decide +kernel)
theorem r_265_81 : xfetch 265 81 = some (.iconst 1, 1) := by decide +kernel
theorem n_265_81 : ∀ l, xpr 265 81 l = l := xpr_no (by decide +kernel)
theorem r_265_82 : xfetch 265 82 = some (.if_icmp .ne 14, 3) := by decide +kernel
theorem n_265_82 : ∀ l, xpr 265 82 l = l := xpr_no (by decide +kernel)
theorem r_265_85 : xfetch 265 85 = some (.lload 8, 2) := by decide +kernel
theorem n_265_85 : ∀ l, xpr 265 85 l = l := xpr_no (by decide +kernel)
theorem r_265_87 : xfetch 265 87 = some (.lload 4, 2) := by decide +kernel
theorem n_265_87 : ∀ l, xpr 265 87 l = l := xpr_no (by decide +kernel)
theorem r_265_89 : xfetch 265 89 = some (.lcmp, 1) := by decide +kernel
theorem n_265_89 : ∀ l, xpr 265 89 l = l := xpr_no (by decide +kernel)
theorem r_265_90 : xfetch 265 90 = some (.ifCond .ne 18, 3) := by decide +kernel
theorem n_265_90 : ∀ l, xpr 265 90 l = l := xpr_no (by decide +kernel)
theorem r_265_93 : xfetch 265 93 = some (.goto 11, 3) := by decide +kernel
theorem n_265_93 : ∀ l, xpr 265 93 l = l := xpr_no (by decide +kernel)
theorem r_265_96 : xfetch 265 96 = some (.lload 8, 2) := by decide +kernel
theorem n_265_96 : ∀ l, xpr 265 96 l = l := xpr_no (by decide +kernel)
theorem r_265_98 : xfetch 265 98 = some (.lload 4, 2) := by decide +kernel
theorem n_265_98 : ∀ l, xpr 265 98 l = l := xpr_no (by decide +kernel)
theorem r_265_100 : xfetch 265 100 = some (.lcmp, 1) := by decide +kernel
theorem n_265_100 : ∀ l, xpr 265 100 l = l := xpr_no (by decide +kernel)
theorem r_265_101 : xfetch 265 101 = some (.ifCond .le 7, 3) := by decide +kernel
theorem n_265_101 : ∀ l, xpr 265 101 l = l := xpr_no (by decide +kernel)
theorem r_265_104 : xfetch 265 104 = some (.iconst 1, 1) := by decide +kernel
theorem n_265_104 : ∀ l, xpr 265 104 l = l := xpr_no (by decide +kernel)
theorem r_265_105 : xfetch 265 105 = some (.goto 4, 3) := by decide +kernel
theorem n_265_105 : ∀ l, xpr 265 105 l = l := xpr_no (by decide +kernel)
theorem r_265_108 : xfetch 265 108 = some (.iconst 0, 1) := by decide +kernel
theorem n_265_108 : ∀ l, xpr 265 108 l = l := xpr_no (by decide +kernel)
theorem r_265_109 : xfetch 265 109 = some (.iadd, 1) := by decide +kernel
theorem n_265_109 : ∀ l, xpr 265 109 l = l := xpr_no (by decide +kernel)
theorem r_265_110 : xfetch 265 110 = some (.istore 6, 2) := by decide +kernel
theorem n_265_110 : ∀ l, xpr 265 110 l = l := xpr_no (by decide +kernel)
theorem r_265_112 : xfetch 265 112 = some (.iinc 7 1, 3) := by decide +kernel
theorem n_265_112 : ∀ l, xpr 265 112 l = l := xpr_no (by decide +kernel)
theorem r_265_115 : xfetch 265 115 = some (.goto (-73), 3) := by decide +kernel
theorem n_265_115 : ∀ l, xpr 265 115 l = l := xpr_no (by decide +kernel)
theorem r_265_118 : xfetch 265 118 = some (.iload 6, 2) := by decide +kernel
theorem n_265_118 : ∀ l, xpr 265 118 l = l := xpr_no (by decide +kernel)
theorem r_265_120 : xfetch 265 120 = some (.ireturn, 1) := by decide +kernel
theorem n_265_120 : ∀ l, xpr 265 120 l = l := xpr_no (by decide +kernel)
theorem v_Model_count_0 {S : Option (Nat × (Nat → Int32))} {s : zSt} {Q : Option Value ⊕ Nat → zSt → Prop} {x1 : Int} {x2 : Int} {x3 : Int} {u4 : Int64} 
    (h : wp S 243 0 [(0, rf 252), (1, iv x1), (2, iv x2)] [] s (fun o1 s1 => zkI (fun y1 => (y1 ≠ 0 → wp S 187 0 [(0, iv x3), (1, iv 0), (2, iv 2)] [] s1 (fun o4 s4 => zkI (fun y4 => (y4 ≠ 0 → wp S 179 0 [(0, rf 252), (1, iv 0)] [] s4 (fun o7 s7 => zkI (fun y7 => (y7 = 0 → wp S 265 42 [(0, rf 252), (1, iv x1), (2, iv x2), (3, iv x3), (4, .long u4), (6, iv 0), (7, iv 0)] [] s7 Q) ∧ (y7 ≠ 0 → Q (rI 0) s7)) (fun e7 => False) o7)) ∧ (y4 = 0 → wp S 179 0 [(0, rf 252), (1, iv 2)] [] s4 (fun o10 s10 => zkI (fun y10 => (y10 = 0 → wp S 265 42 [(0, rf 252), (1, iv x1), (2, iv x2), (3, iv x3), (4, .long u4), (6, iv 0), (7, iv 0)] [] s10 Q) ∧ (y10 ≠ 0 → Q (rI 0) s10)) (fun e10 => False) o10))) (fun e4 => False) o4)) ∧ (y1 = 0 → wp S 179 0 [(0, rf 252), (1, iv 1)] [] s1 (fun o13 s13 => zkI (fun y13 => (y13 = 0 → wp S 265 42 [(0, rf 252), (1, iv x1), (2, iv x2), (3, iv x3), (4, .long u4), (6, iv 0), (7, iv 0)] [] s13 Q) ∧ (y13 ≠ 0 → Q (rI 0) s13)) (fun e13 => False) o13))) (fun e1 => False) o1)) :
    wp S 265 0 [(0, rf 252), (1, iv x1), (2, iv x2), (3, iv x3), (4, .long u4)] [] s Q := by
  refine i_aload_n (a := 252) r_265_0 (n_265_0 _) rfl ?_
  refine i_aload_n (a := 252) r_265_1 (n_265_1 _) rfl ?_
  refine i_iload_n (x := x1) r_265_2 (n_265_2 _) rfl ?_
  refine i_iload_n (x := x2) r_265_3 (n_265_3 _) rfl ?_
  refine wp_virt (b := 252) (rest := [rf 252]) (Ls := [(0, rf 252), (1, iv x1), (2, iv x2)]) r_265_4 (n_265_4 _) rfl ⟨rfl, rfl, by decide, by decide⟩ rfl rfl lf_252 ⟨rfl, Nat.le_of_ble_eq_true rfl, Nat.le_of_ble_eq_true rfl⟩ rfl h ?_
  intro o1 s1 h
  rcases h with ⟨y1, q2, rfl, h⟩ | ⟨e1, rfl, h⟩
  · refine .inl ⟨some (iv y1), rfl, ?_⟩
    show wp S 265 7 [(0, rf 252), (1, iv x1), (2, iv x2), (3, iv x3), (4, .long u4)] [iv y1, rf 252] s1 Q
    refine i_if (t := 14) r_265_7 (n_265_7 _) rfl (T_ne q2 ⟨by omega, by omega⟩) (fun c3 => ?_) (fun c3 => ?_)
    · replace h := h.1 c3
      refine i_iload_n (x := x3) r_265_14 (n_265_14 _) rfl ?_
      refine i_iconst r_265_15 (n_265_15 _) ?_
      refine i_iconst r_265_16 (n_265_16 _) ?_
      refine wp_stat (rest := [rf 252]) (Ls := [(0, iv x3), (1, iv 0), (2, iv 2)]) r_265_17 (n_265_17 _) rfl ⟨rfl, by decide, by decide, by decide⟩ rfl rfl ⟨rfl, Nat.le_of_ble_eq_true rfl, Nat.le_of_ble_eq_true rfl⟩ rfl h ?_
      intro o4 s4 h
      rcases h with ⟨y4, q5, rfl, h⟩ | ⟨e4, rfl, h⟩
      · refine .inl ⟨some (iv y4), rfl, ?_⟩
        show wp S 265 20 [(0, rf 252), (1, iv x1), (2, iv x2), (3, iv x3), (4, .long u4)] [iv y4, rf 252] s4 Q
        refine i_if (t := 27) r_265_20 (n_265_20 _) rfl (T_ne q5 ⟨by omega, by omega⟩) (fun c6 => ?_) (fun c6 => ?_)
        · replace h := h.1 c6
          refine i_iconst r_265_27 (n_265_27 _) ?_
          refine wp_virt (b := 252) (rest := []) (Ls := [(0, rf 252), (1, iv 0)]) r_265_28 (n_265_28 _) rfl ⟨rfl, rfl, by decide, by decide⟩ rfl rfl lf_252 ⟨rfl, Nat.le_of_ble_eq_true rfl, Nat.le_of_ble_eq_true rfl⟩ rfl h ?_
          intro o7 s7 h
          rcases h with ⟨y7, q8, rfl, h⟩ | ⟨e7, rfl, h⟩
          · refine .inl ⟨some (iv y7), rfl, ?_⟩
            show wp S 265 31 [(0, rf 252), (1, iv x1), (2, iv x2), (3, iv x3), (4, .long u4)] [iv y7] s7 Q
            refine i_if (t := 36) r_265_31 (n_265_31 _) rfl (T_eq q8 ⟨by omega, by omega⟩) (fun c9 => ?_) (fun c9 => ?_)
            · replace h := h.1 c9
              refine i_iconst r_265_36 (n_265_36 _) ?_
              refine i_istore (l' := [(0, rf 252), (1, iv x1), (2, iv x2), (3, iv x3), (4, .long u4), (6, iv 0)]) r_265_37 (n_265_37 _) (by decide) rfl ?_
              refine i_iconst r_265_39 (n_265_39 _) ?_
              refine i_istore (l' := [(0, rf 252), (1, iv x1), (2, iv x2), (3, iv x3), (4, .long u4), (6, iv 0), (7, iv 0)]) r_265_40 (n_265_40 _) (by decide) rfl ?_
              exact wp_pr (l' := [(0, rf 252), (1, iv x1), (2, iv x2), (3, iv x3), (4, .long u4), (6, iv 0), (7, iv 0)]) rfl h
            · replace h := h.2 c9
              refine i_iconst r_265_34 (n_265_34 _) ?_
              exact i_ireturn r_265_35 (n_265_35 _) rfl h
          · skip
            exact h.elim
        · replace h := h.2 c6
          refine i_iconst r_265_23 (n_265_23 _) ?_
          refine i_goto (t := 28) r_265_24 (n_265_24 _) rfl ?_
          refine wp_virt (b := 252) (rest := []) (Ls := [(0, rf 252), (1, iv 2)]) r_265_28 (n_265_28 _) rfl ⟨rfl, rfl, by decide, by decide⟩ rfl rfl lf_252 ⟨rfl, Nat.le_of_ble_eq_true rfl, Nat.le_of_ble_eq_true rfl⟩ rfl h ?_
          intro o10 s10 h
          rcases h with ⟨y10, q11, rfl, h⟩ | ⟨e10, rfl, h⟩
          · refine .inl ⟨some (iv y10), rfl, ?_⟩
            show wp S 265 31 [(0, rf 252), (1, iv x1), (2, iv x2), (3, iv x3), (4, .long u4)] [iv y10] s10 Q
            refine i_if (t := 36) r_265_31 (n_265_31 _) rfl (T_eq q11 ⟨by omega, by omega⟩) (fun c12 => ?_) (fun c12 => ?_)
            · replace h := h.1 c12
              refine i_iconst r_265_36 (n_265_36 _) ?_
              refine i_istore (l' := [(0, rf 252), (1, iv x1), (2, iv x2), (3, iv x3), (4, .long u4), (6, iv 0)]) r_265_37 (n_265_37 _) (by decide) rfl ?_
              refine i_iconst r_265_39 (n_265_39 _) ?_
              refine i_istore (l' := [(0, rf 252), (1, iv x1), (2, iv x2), (3, iv x3), (4, .long u4), (6, iv 0), (7, iv 0)]) r_265_40 (n_265_40 _) (by decide) rfl ?_
              exact wp_pr (l' := [(0, rf 252), (1, iv x1), (2, iv x2), (3, iv x3), (4, .long u4), (6, iv 0), (7, iv 0)]) rfl h
            · replace h := h.2 c12
              refine i_iconst r_265_34 (n_265_34 _) ?_
              exact i_ireturn r_265_35 (n_265_35 _) rfl h
          · skip
            exact h.elim
      · skip
        exact h.elim
    · replace h := h.2 c3
      refine i_iconst r_265_10 (n_265_10 _) ?_
      refine i_goto (t := 28) r_265_11 (n_265_11 _) rfl ?_
      refine wp_virt (b := 252) (rest := []) (Ls := [(0, rf 252), (1, iv 1)]) r_265_28 (n_265_28 _) rfl ⟨rfl, rfl, by decide, by decide⟩ rfl rfl lf_252 ⟨rfl, Nat.le_of_ble_eq_true rfl, Nat.le_of_ble_eq_true rfl⟩ rfl h ?_
      intro o13 s13 h
      rcases h with ⟨y13, q14, rfl, h⟩ | ⟨e13, rfl, h⟩
      · refine .inl ⟨some (iv y13), rfl, ?_⟩
        show wp S 265 31 [(0, rf 252), (1, iv x1), (2, iv x2), (3, iv x3), (4, .long u4)] [iv y13] s13 Q
        refine i_if (t := 36) r_265_31 (n_265_31 _) rfl (T_eq q14 ⟨by omega, by omega⟩) (fun c15 => ?_) (fun c15 => ?_)
        · replace h := h.1 c15
          refine i_iconst r_265_36 (n_265_36 _) ?_
          refine i_istore (l' := [(0, rf 252), (1, iv x1), (2, iv x2), (3, iv x3), (4, .long u4), (6, iv 0)]) r_265_37 (n_265_37 _) (by decide) rfl ?_
          refine i_iconst r_265_39 (n_265_39 _) ?_
          refine i_istore (l' := [(0, rf 252), (1, iv x1), (2, iv x2), (3, iv x3), (4, .long u4), (6, iv 0), (7, iv 0)]) r_265_40 (n_265_40 _) (by decide) rfl ?_
          exact wp_pr (l' := [(0, rf 252), (1, iv x1), (2, iv x2), (3, iv x3), (4, .long u4), (6, iv 0), (7, iv 0)]) rfl h
        · replace h := h.2 c15
          refine i_iconst r_265_34 (n_265_34 _) ?_
          exact i_ireturn r_265_35 (n_265_35 _) rfl h
      · skip
        exact h.elim
  · skip
    exact h.elim
theorem v_Model_count_42 {S : Option (Nat × (Nat → Int32))} {s : zSt} {Q : Option Value ⊕ Nat → zSt → Prop} {x1 : Int} {x2 : Int} {x3 : Int} {u4 : Int64} {x6 : Int} {x7 : Int} 
    (h : wp S 236 0 [(0, rf 252), (1, iv x1), (2, iv 1)] [] s (fun o1 s1 => zkI (fun y1 => rng x7 ∧ ((y1 ≤ x7 → Q (rI x6) s1) ∧ (x7 < y1 → wp S 248 0 [(0, rf 252), (1, iv x1), (2, iv x7), (3, iv x2)] [] s1 (fun o5 s5 => zkL (fun y5 => rng x3 ∧ ((x3 ≠ 0 → (x3 ≠ 1 → ((zcmp y5 u4) ≤ 0 → wp S 265 42 [(0, rf 252), (1, iv x1), (2, iv x2), (3, iv x3), (4, .long u4), (6, iv (x6 + 0)), (7, iv (x7 + 1))] [] s5 Q) ∧ (0 < (zcmp y5 u4) → wp S 265 42 [(0, rf 252), (1, iv x1), (2, iv x2), (3, iv x3), (4, .long u4), (6, iv (x6 + 1)), (7, iv (x7 + 1))] [] s5 Q)) ∧ (x3 = 1 → ((zcmp y5 u4) ≠ 0 → wp S 265 42 [(0, rf 252), (1, iv x1), (2, iv x2), (3, iv x3), (4, .long u4), (6, iv (x6 + 0)), (7, iv (x7 + 1))] [] s5 Q) ∧ ((zcmp y5 u4) = 0 → wp S 265 42 [(0, rf 252), (1, iv x1), (2, iv x2), (3, iv x3), (4, .long u4), (6, iv (x6 + 1)), (7, iv (x7 + 1))] [] s5 Q))) ∧ (x3 = 0 → (0 ≤ (zcmp y5 u4) → wp S 265 42 [(0, rf 252), (1, iv x1), (2, iv x2), (3, iv x3), (4, .long u4), (6, iv (x6 + 0)), (7, iv (x7 + 1))] [] s5 Q) ∧ ((zcmp y5 u4) < 0 → wp S 265 42 [(0, rf 252), (1, iv x1), (2, iv x2), (3, iv x3), (4, .long u4), (6, iv (x6 + 1)), (7, iv (x7 + 1))] [] s5 Q)))) (fun e5 => False) o5)))) (fun e1 => False) o1)) :
    wp S 265 42 [(0, rf 252), (1, iv x1), (2, iv x2), (3, iv x3), (4, .long u4), (6, iv x6), (7, iv x7)] [] s Q := by
  refine i_iload (x := x7) r_265_42 rfl rfl ?_
  refine i_aload_n (a := 252) r_265_44 (n_265_44 _) rfl ?_
  refine i_iload_n (x := x1) r_265_45 (n_265_45 _) rfl ?_
  refine i_iconst r_265_46 (n_265_46 _) ?_
  refine wp_virt (b := 252) (rest := [iv x7]) (Ls := [(0, rf 252), (1, iv x1), (2, iv 1)]) r_265_47 (n_265_47 _) rfl ⟨rfl, rfl, by decide, by decide⟩ rfl rfl lf_252 ⟨rfl, Nat.le_of_ble_eq_true rfl, Nat.le_of_ble_eq_true rfl⟩ rfl h ?_
  intro o1 s1 h
  rcases h with ⟨y1, q2, rfl, h⟩ | ⟨e1, rfl, h⟩
  · refine .inl ⟨some (iv y1), rfl, ?_⟩
    show wp S 265 50 [(0, rf 252), (1, iv x1), (2, iv x2), (3, iv x3), (4, .long u4), (6, iv x6), (7, iv x7)] [iv y1, iv x7] s1 Q
    obtain ⟨g3, h⟩ := h
    refine i_icmp (t := 118) r_265_50 (n_265_50 _) rfl (T_ge g3 q2) (fun c4 => ?_) (fun c4 => ?_)
    · replace h := h.1 c4
      refine i_iload (x := x6) r_265_118 (n_265_118 _) rfl ?_
      exact i_ireturn r_265_120 (n_265_120 _) rfl h
    · replace h := h.2 c4
      refine i_aload_n (a := 252) r_265_53 (n_265_53 _) rfl ?_
      refine i_iload_n (x := x1) r_265_54 (n_265_54 _) rfl ?_
      refine i_iload (x := x7) r_265_55 (n_265_55 _) rfl ?_
      refine i_iload_n (x := x2) r_265_57 (n_265_57 _) rfl ?_
      refine wp_virt (b := 252) (rest := []) (Ls := [(0, rf 252), (1, iv x1), (2, iv x7), (3, iv x2)]) r_265_58 (n_265_58 _) rfl ⟨rfl, rfl, by decide, by decide⟩ rfl rfl lf_252 ⟨rfl, Nat.le_of_ble_eq_true rfl, Nat.le_of_ble_eq_true rfl⟩ rfl h ?_
      intro o5 s5 h
      rcases h with ⟨y5, rfl, h⟩ | ⟨e5, rfl, h⟩
      · refine .inl ⟨some (.long y5), rfl, ?_⟩
        show wp S 265 61 [(0, rf 252), (1, iv x1), (2, iv x2), (3, iv x3), (4, .long u4), (6, iv x6), (7, iv x7)] [.long y5] s5 Q
        refine i_lstore (l' := [(0, rf 252), (1, iv x1), (2, iv x2), (3, iv x3), (4, .long u4), (6, iv x6), (7, iv x7), (8, .long y5)]) r_265_61 (n_265_61 _) (by decide) rfl ?_
        refine i_iload (x := x6) r_265_63 (n_265_63 _) rfl ?_
        refine i_iload_n (x := x3) r_265_65 (n_265_65 _) rfl ?_
        obtain ⟨g7, h⟩ := h
        refine i_if (t := 80) r_265_66 (n_265_66 _) rfl (T_ne g7 ⟨by omega, by omega⟩) (fun c8 => ?_) (fun c8 => ?_)
        · replace h := h.1 c8
          refine i_iload_n (x := x3) r_265_80 (n_265_80 _) rfl ?_
          refine i_iconst r_265_81 (n_265_81 _) ?_
          refine i_icmp (t := 96) r_265_82 (n_265_82 _) rfl (T_ne g7 ⟨by omega, by omega⟩) (fun c9 => ?_) (fun c9 => ?_)
          · replace h := h.1 c9
            refine i_lload (u := y5) r_265_96 (n_265_96 _) rfl ?_
            refine i_lload (u := u4) r_265_98 (n_265_98 _) rfl ?_
            refine i_lcmp r_265_100 (n_265_100 _) ?_
            refine i_if (t := 108) r_265_101 (n_265_101 _) rfl (T_le (zcmp_rng _ _) ⟨by omega, by omega⟩) (fun c10 => ?_) (fun c10 => ?_)
            · replace h := h.1 c10
              refine i_iconst r_265_108 (n_265_108 _) ?_
              refine i_iadd r_265_109 (n_265_109 _) ?_
              refine i_istore (l' := [(0, rf 252), (1, iv x1), (2, iv x2), (3, iv x3), (4, .long u4), (6, iv (x6 + 0)), (7, iv x7), (8, .long y5)]) r_265_110 (n_265_110 _) (by decide) rfl ?_
              refine i_iinc (x := x7) (l' := [(0, rf 252), (1, iv x1), (2, iv x2), (3, iv x3), (4, .long u4), (6, iv (x6 + 0)), (7, iv (x7 + 1)), (8, .long y5)]) r_265_112 (n_265_112 _) (by decide) rfl rfl ?_
              refine i_goto (t := 42) r_265_115 (n_265_115 _) rfl ?_
              exact wp_pr (l' := [(0, rf 252), (1, iv x1), (2, iv x2), (3, iv x3), (4, .long u4), (6, iv (x6 + 0)), (7, iv (x7 + 1))]) rfl h
            · replace h := h.2 c10
              refine i_iconst r_265_104 (n_265_104 _) ?_
              refine i_goto (t := 109) r_265_105 (n_265_105 _) rfl ?_
              refine i_iadd r_265_109 (n_265_109 _) ?_
              refine i_istore (l' := [(0, rf 252), (1, iv x1), (2, iv x2), (3, iv x3), (4, .long u4), (6, iv (x6 + 1)), (7, iv x7), (8, .long y5)]) r_265_110 (n_265_110 _) (by decide) rfl ?_
              refine i_iinc (x := x7) (l' := [(0, rf 252), (1, iv x1), (2, iv x2), (3, iv x3), (4, .long u4), (6, iv (x6 + 1)), (7, iv (x7 + 1)), (8, .long y5)]) r_265_112 (n_265_112 _) (by decide) rfl rfl ?_
              refine i_goto (t := 42) r_265_115 (n_265_115 _) rfl ?_
              exact wp_pr (l' := [(0, rf 252), (1, iv x1), (2, iv x2), (3, iv x3), (4, .long u4), (6, iv (x6 + 1)), (7, iv (x7 + 1))]) rfl h
          · replace h := h.2 c9
            refine i_lload (u := y5) r_265_85 (n_265_85 _) rfl ?_
            refine i_lload (u := u4) r_265_87 (n_265_87 _) rfl ?_
            refine i_lcmp r_265_89 (n_265_89 _) ?_
            refine i_if (t := 108) r_265_90 (n_265_90 _) rfl (T_ne (zcmp_rng _ _) ⟨by omega, by omega⟩) (fun c11 => ?_) (fun c11 => ?_)
            · replace h := h.1 c11
              refine i_iconst r_265_108 (n_265_108 _) ?_
              refine i_iadd r_265_109 (n_265_109 _) ?_
              refine i_istore (l' := [(0, rf 252), (1, iv x1), (2, iv x2), (3, iv x3), (4, .long u4), (6, iv (x6 + 0)), (7, iv x7), (8, .long y5)]) r_265_110 (n_265_110 _) (by decide) rfl ?_
              refine i_iinc (x := x7) (l' := [(0, rf 252), (1, iv x1), (2, iv x2), (3, iv x3), (4, .long u4), (6, iv (x6 + 0)), (7, iv (x7 + 1)), (8, .long y5)]) r_265_112 (n_265_112 _) (by decide) rfl rfl ?_
              refine i_goto (t := 42) r_265_115 (n_265_115 _) rfl ?_
              exact wp_pr (l' := [(0, rf 252), (1, iv x1), (2, iv x2), (3, iv x3), (4, .long u4), (6, iv (x6 + 0)), (7, iv (x7 + 1))]) rfl h
            · replace h := h.2 c11
              refine i_goto (t := 104) r_265_93 (n_265_93 _) rfl ?_
              refine i_iconst r_265_104 (n_265_104 _) ?_
              refine i_goto (t := 109) r_265_105 (n_265_105 _) rfl ?_
              refine i_iadd r_265_109 (n_265_109 _) ?_
              refine i_istore (l' := [(0, rf 252), (1, iv x1), (2, iv x2), (3, iv x3), (4, .long u4), (6, iv (x6 + 1)), (7, iv x7), (8, .long y5)]) r_265_110 (n_265_110 _) (by decide) rfl ?_
              refine i_iinc (x := x7) (l' := [(0, rf 252), (1, iv x1), (2, iv x2), (3, iv x3), (4, .long u4), (6, iv (x6 + 1)), (7, iv (x7 + 1)), (8, .long y5)]) r_265_112 (n_265_112 _) (by decide) rfl rfl ?_
              refine i_goto (t := 42) r_265_115 (n_265_115 _) rfl ?_
              exact wp_pr (l' := [(0, rf 252), (1, iv x1), (2, iv x2), (3, iv x3), (4, .long u4), (6, iv (x6 + 1)), (7, iv (x7 + 1))]) rfl h
        · replace h := h.2 c8
          refine i_lload (u := y5) r_265_69 (n_265_69 _) rfl ?_
          refine i_lload (u := u4) r_265_71 (n_265_71 _) rfl ?_
          refine i_lcmp r_265_73 (n_265_73 _) ?_
          refine i_if (t := 108) r_265_74 (n_265_74 _) rfl (T_ge (zcmp_rng _ _) ⟨by omega, by omega⟩) (fun c12 => ?_) (fun c12 => ?_)
          · replace h := h.1 c12
            refine i_iconst r_265_108 (n_265_108 _) ?_
            refine i_iadd r_265_109 (n_265_109 _) ?_
            refine i_istore (l' := [(0, rf 252), (1, iv x1), (2, iv x2), (3, iv x3), (4, .long u4), (6, iv (x6 + 0)), (7, iv x7), (8, .long y5)]) r_265_110 (n_265_110 _) (by decide) rfl ?_
            refine i_iinc (x := x7) (l' := [(0, rf 252), (1, iv x1), (2, iv x2), (3, iv x3), (4, .long u4), (6, iv (x6 + 0)), (7, iv (x7 + 1)), (8, .long y5)]) r_265_112 (n_265_112 _) (by decide) rfl rfl ?_
            refine i_goto (t := 42) r_265_115 (n_265_115 _) rfl ?_
            exact wp_pr (l' := [(0, rf 252), (1, iv x1), (2, iv x2), (3, iv x3), (4, .long u4), (6, iv (x6 + 0)), (7, iv (x7 + 1))]) rfl h
          · replace h := h.2 c12
            refine i_goto (t := 104) r_265_77 (n_265_77 _) rfl ?_
            refine i_iconst r_265_104 (n_265_104 _) ?_
            refine i_goto (t := 109) r_265_105 (n_265_105 _) rfl ?_
            refine i_iadd r_265_109 (n_265_109 _) ?_
            refine i_istore (l' := [(0, rf 252), (1, iv x1), (2, iv x2), (3, iv x3), (4, .long u4), (6, iv (x6 + 1)), (7, iv x7), (8, .long y5)]) r_265_110 (n_265_110 _) (by decide) rfl ?_
            refine i_iinc (x := x7) (l' := [(0, rf 252), (1, iv x1), (2, iv x2), (3, iv x3), (4, .long u4), (6, iv (x6 + 1)), (7, iv (x7 + 1)), (8, .long y5)]) r_265_112 (n_265_112 _) (by decide) rfl rfl ?_
            refine i_goto (t := 42) r_265_115 (n_265_115 _) rfl ?_
            exact wp_pr (l' := [(0, rf 252), (1, iv x1), (2, iv x2), (3, iv x3), (4, .long u4), (6, iv (x6 + 1)), (7, iv (x7 + 1))]) rfl h
      · skip
        exact h.elim
  · skip
    exact h.elim
theorem r_266_0 : xfetch 266 0 = some (.aload_n 0, 1) := by decide +kernel
theorem n_266_0 : ∀ l, xpr 266 0 l = l := xpr_no (by decide +kernel)
theorem r_266_1 : xfetch 266 1 = some (.aload_n 0, 1) := by decide +kernel
theorem n_266_1 : ∀ l, xpr 266 1 l = l := xpr_no (by decide +kernel)
theorem r_266_2 : xfetch 266 2 = some (.aload_n 0, 1) := by decide +kernel
theorem n_266_2 : ∀ l, xpr 266 2 l = l := xpr_no (by decide +kernel)
theorem r_266_3 : xfetch 266 3 = some (.iload_n 1, 1) := by decide +kernel
theorem n_266_3 : ∀ l, xpr 266 3 l = l := xpr_no (by decide +kernel)
theorem r_266_4 : xfetch 266 4 = some (.iload_n 2, 1) := by decide +kernel
theorem n_266_4 : ∀ l, xpr 266 4 l = l := xpr_no (by decide +kernel)
theorem r_266_5 : xfetch 266 5 = some (.invokevirtual 254, 3) := by decide +kernel
theorem n_266_5 : ∀ l, xpr 266 5 l = l := xpr_no (by decide +kernel)
theorem r_266_8 : xfetch 266 8 = some (.ifCond .eq 17, 3) := by decide +kernel
theorem n_266_8 : ∀ l, xpr 266 8 l = l := xpr_no (by decide +kernel)
theorem r_266_11 : xfetch 266 11 = some (.aload_n 0, 1) := by decide +kernel
theorem n_266_11 : ∀ l, xpr 266 11 l = l := xpr_no (by decide +kernel)
theorem r_266_12 : xfetch 266 12 = some (.iload_n 1, 1) := by decide +kernel
theorem n_266_12 : ∀ l, xpr 266 12 l = l := xpr_no (by decide +kernel)
theorem r_266_13 : xfetch 266 13 = some (.iload 5, 2) := by decide +kernel
theorem n_266_13 : ∀ l, xpr 266 13 l = l := xpr_no (by decide +kernel)
theorem r_266_15 : xfetch 266 15 = some (.invokevirtual 257, 3) := by decide +kernel
theorem n_266_15 : ∀ l, xpr 266 15 l = l := xpr_no (by decide +kernel)
theorem r_266_18 : xfetch 266 18 = some (.ifCond .eq 7, 3) := by decide +kernel
theorem n_266_18 : ∀ l, xpr 266 18 l = l := xpr_no (by decide +kernel)
theorem r_266_21 : xfetch 266 21 = some (.iconst 1, 1) := by decide +kernel
theorem n_266_21 : ∀ l, xpr 266 21 l = l := xpr_no (by decide +kernel)
theorem r_266_22 : xfetch 266 22 = some (.goto 4, 3) := by decide +kernel
theorem n_266_22 : ∀ l, xpr 266 22 l = l := xpr_no (by decide +kernel)
theorem r_266_25 : xfetch 266 25 = some (.iconst 0, 1) := by decide +kernel
theorem n_266_25 : ∀ l, xpr 266 25 l = l := xpr_no (by decide +kernel)
theorem r_266_26 : xfetch 266 26 = some (.invokevirtual 175, 3) := by decide +kernel
theorem n_266_26 : ∀ l, xpr 266 26 l = l := xpr_no (by decide +kernel)
theorem r_266_29 : xfetch 266 29 = some (.invokevirtual 84, 3) := by decide +kernel
theorem n_266_29 : ∀ l, xpr 266 29 l = l := xpr_no (by decide +kernel)
theorem r_266_32 : xfetch 266 32 = some (.ifCond .eq 5, 3) := by decide +kernel
theorem n_266_32 : ∀ l, xpr 266 32 l = l := xpr_no (by decide +kernel)
theorem r_266_35 : xfetch 266 35 = some (.iconst 0, 1) := by decide +kernel
theorem n_266_35 : ∀ l, xpr 266 35 l = l := xpr_no (by decide +kernel)
theorem r_266_36 : xfetch 266 36 = some (.ireturn, 1) := by decide +kernel
theorem n_266_36 : ∀ l, xpr 266 36 l = l := xpr_no (by decide +kernel)
theorem r_266_37 : xfetch 266 37 = some (.iload 5, 2) := by decide +kernel
theorem n_266_37 : ∀ l, xpr 266 37 l = l := xpr_no (by decide +kernel)
theorem r_266_39 : xfetch 266 39 = some (.istore 6, 2) := by decide +kernel
theorem n_266_39 : ∀ l, xpr 266 39 l = l := xpr_no (by decide +kernel)
theorem r_266_41 : xfetch 266 41 = some (.iload 6, 2) := by decide +kernel
theorem r_266_43 : xfetch 266 43 = some (.aload_n 0, 1) := by decide +kernel
theorem n_266_43 : ∀ l, xpr 266 43 l = l := xpr_no (by decide +kernel)
theorem r_266_44 : xfetch 266 44 = some (.iload_n 1, 1) := by decide +kernel
theorem n_266_44 : ∀ l, xpr 266 44 l = l := xpr_no (by decide +kernel)
theorem r_266_45 : xfetch 266 45 = some (.iconst 1, 1) := by decide +kernel
theorem n_266_45 : ∀ l, xpr 266 45 l = l := xpr_no (by decide +kernel)
theorem r_266_46 : xfetch 266 46 = some (.invokevirtual 228, 3) := by decide +kernel
theorem n_266_46 : ∀ l, xpr 266 46 l = l := xpr_no (by decide +kernel)
theorem r_266_49 : xfetch 266 49 = some (.if_icmp .ge 25, 3) := by decide +kernel
theorem n_266_49 : ∀ l, xpr 266 49 l = l := xpr_no (by decide +kernel)
theorem r_266_52 : xfetch 266 52 = some (.aload_n 0, 1) := by decide +kernel
theorem n_266_52 : ∀ l, xpr 266 52 l = l := xpr_no (by decide +kernel)
theorem r_266_53 : xfetch 266 53 = some (.iload_n 1, 1) := by decide +kernel
theorem n_266_53 : ∀ l, xpr 266 53 l = l := xpr_no (by decide +kernel)
theorem r_266_54 : xfetch 266 54 = some (.iload 6, 2) := by decide +kernel
theorem n_266_54 : ∀ l, xpr 266 54 l = l := xpr_no (by decide +kernel)
theorem r_266_56 : xfetch 266 56 = some (.iload_n 2, 1) := by decide +kernel
theorem n_266_56 : ∀ l, xpr 266 56 l = l := xpr_no (by decide +kernel)
theorem r_266_57 : xfetch 266 57 = some (.invokevirtual 278, 3) := by decide +kernel
theorem n_266_57 : ∀ l, xpr 266 57 l = l := xpr_no (by decide +kernel)
theorem r_266_60 : xfetch 266 60 = some (.lload_n 3, 1) := by decide +kernel
theorem n_266_60 : ∀ l, xpr 266 60 l = l := xpr_no (by decide +kernel)
theorem r_266_61 : xfetch 266 61 = some (.lcmp, 1) := by decide +kernel
theorem n_266_61 : ∀ l, xpr 266 61 l = l := xpr_no (by decide +kernel)
theorem r_266_62 : xfetch 266 62 = some (.ifCond .ne 6, 3) := by decide +kernel
theorem n_266_62 : ∀ l, xpr 266 62 l = l := xpr_no (by decide +kernel)
theorem r_266_65 : xfetch 266 65 = some (.iload 6, 2) := by decide +kernel
theorem n_266_65 : ∀ l, xpr 266 65 l = l := xpr_no (by decide +kernel)
theorem r_266_67 : xfetch 266 67 = some (.ireturn, 1) := by decide +kernel
theorem n_266_67 : ∀ l, xpr 266 67 l = l := xpr_no (by decide +kernel)
theorem r_266_68 : xfetch 266 68 = some (.iinc 6 1, 3) := by decide +kernel
theorem n_266_68 : ∀ l, xpr 266 68 l = l := xpr_no (by decide +kernel)
theorem r_266_71 : xfetch 266 71 = some (.goto (-30), 3) := by decide +kernel
theorem n_266_71 : ∀ l, xpr 266 71 l = l := xpr_no (by decide +kernel)
theorem r_266_74 : xfetch 266 74 = some (.iconst (-1), 1) := by decide +kernel
theorem n_266_74 : ∀ l, xpr 266 74 l = l := xpr_no (by decide +kernel)
theorem r_266_75 : xfetch 266 75 = some (.ireturn, 1) := by decide +kernel
theorem n_266_75 : ∀ l, xpr 266 75 l = l := xpr_no (by decide +kernel)
theorem v_Model_findRow_0 {S : Option (Nat × (Nat → Int32))} {s : zSt} {Q : Option Value ⊕ Nat → zSt → Prop} {x1 : Int} {x2 : Int} {u3 : Int64} {x5 : Int} 
    (h : wp S 243 0 [(0, rf 252), (1, iv x1), (2, iv x2)] [] s (fun o1 s1 => zkI (fun y1 => (y1 = 0 → wp S 213 0 [(0, rf 252), (1, iv 0)] [] s1 (fun o4 s4 => zkI (fun y4 => wp S 179 0 [(0, rf 252), (1, iv y4)] [] s4 (fun o6 s6 => zkI (fun y6 => (y6 = 0 → wp S 266 41 [(0, rf 252), (1, iv x1), (2, iv x2), (3, .long u3), (6, iv x5)] [] s6 Q) ∧ (y6 ≠ 0 → Q (rI 0) s6)) (fun e6 => False) o6)) (fun e4 => False) o4)) ∧ (y1 ≠ 0 → wp S 244 0 [(0, rf 252), (1, iv x1), (2, iv x5)] [] s1 (fun o9 s9 => zkI (fun y9 => (y9 = 0 → wp S 213 0 [(0, rf 252), (1, iv 0)] [] s9 (fun o12 s12 => zkI (fun y12 => wp S 179 0 [(0, rf 252), (1, iv y12)] [] s12 (fun o14 s14 => zkI (fun y14 => (y14 = 0 → wp S 266 41 [(0, rf 252), (1, iv x1), (2, iv x2), (3, .long u3), (6, iv x5)] [] s14 Q) ∧ (y14 ≠ 0 → Q (rI 0) s14)) (fun e14 => False) o14)) (fun e12 => False) o12)) ∧ (y9 ≠ 0 → wp S 213 0 [(0, rf 252), (1, iv 1)] [] s9 (fun o17 s17 => zkI (fun y17 => wp S 179 0 [(0, rf 252), (1, iv y17)] [] s17 (fun o19 s19 => zkI (fun y19 => (y19 = 0 → wp S 266 41 [(0, rf 252), (1, iv x1), (2, iv x2), (3, .long u3), (6, iv x5)] [] s19 Q) ∧ (y19 ≠ 0 → Q (rI 0) s19)) (fun e19 => False) o19)) (fun e17 => False) o17))) (fun e9 => False) o9))) (fun e1 => False) o1)) :
    wp S 266 0 [(0, rf 252), (1, iv x1), (2, iv x2), (3, .long u3), (5, iv x5)] [] s Q := by
  refine i_aload_n (a := 252) r_266_0 (n_266_0 _) rfl ?_
  refine i_aload_n (a := 252) r_266_1 (n_266_1 _) rfl ?_
  refine i_aload_n (a := 252) r_266_2 (n_266_2 _) rfl ?_
  refine i_iload_n (x := x1) r_266_3 (n_266_3 _) rfl ?_
  refine i_iload_n (x := x2) r_266_4 (n_266_4 _) rfl ?_
  refine wp_virt (b := 252) (rest := [rf 252, rf 252]) (Ls := [(0, rf 252), (1, iv x1), (2, iv x2)]) r_266_5 (n_266_5 _) rfl ⟨rfl, rfl, by decide, by decide⟩ rfl rfl lf_252 ⟨rfl, Nat.le_of_ble_eq_true rfl, Nat.le_of_ble_eq_true rfl⟩ rfl h ?_
  intro o1 s1 h
  rcases h with ⟨y1, q2, rfl, h⟩ | ⟨e1, rfl, h⟩
  · refine .inl ⟨some (iv y1), rfl, ?_⟩
    show wp S 266 8 [(0, rf 252), (1, iv x1), (2, iv x2), (3, .long u3), (5, iv x5)] [iv y1, rf 252, rf 252] s1 Q
    refine i_if (t := 25) r_266_8 (n_266_8 _) rfl (T_eq q2 ⟨by omega, by omega⟩) (fun c3 => ?_) (fun c3 => ?_)
    · replace h := h.1 c3
      refine i_iconst r_266_25 (n_266_25 _) ?_
      refine wp_virt (b := 252) (rest := [rf 252]) (Ls := [(0, rf 252), (1, iv 0)]) r_266_26 (n_266_26 _) rfl ⟨rfl, rfl, by decide, by decide⟩ rfl rfl lf_252 ⟨rfl, Nat.le_of_ble_eq_true rfl, Nat.le_of_ble_eq_true rfl⟩ rfl h ?_
      intro o4 s4 h
      rcases h with ⟨y4, q5, rfl, h⟩ | ⟨e4, rfl, h⟩
      · refine .inl ⟨some (iv y4), rfl, ?_⟩
        show wp S 266 29 [(0, rf 252), (1, iv x1), (2, iv x2), (3, .long u3), (5, iv x5)] [iv y4, rf 252] s4 Q
        refine wp_virt (b := 252) (rest := []) (Ls := [(0, rf 252), (1, iv y4)]) r_266_29 (n_266_29 _) rfl ⟨rfl, rfl, by decide, by decide⟩ rfl rfl lf_252 ⟨rfl, Nat.le_of_ble_eq_true rfl, Nat.le_of_ble_eq_true rfl⟩ rfl h ?_
        intro o6 s6 h
        rcases h with ⟨y6, q7, rfl, h⟩ | ⟨e6, rfl, h⟩
        · refine .inl ⟨some (iv y6), rfl, ?_⟩
          show wp S 266 32 [(0, rf 252), (1, iv x1), (2, iv x2), (3, .long u3), (5, iv x5)] [iv y6] s6 Q
          refine i_if (t := 37) r_266_32 (n_266_32 _) rfl (T_eq q7 ⟨by omega, by omega⟩) (fun c8 => ?_) (fun c8 => ?_)
          · replace h := h.1 c8
            refine i_iload (x := x5) r_266_37 (n_266_37 _) rfl ?_
            refine i_istore (l' := [(0, rf 252), (1, iv x1), (2, iv x2), (3, .long u3), (5, iv x5), (6, iv x5)]) r_266_39 (n_266_39 _) (by decide) rfl ?_
            exact wp_pr (l' := [(0, rf 252), (1, iv x1), (2, iv x2), (3, .long u3), (6, iv x5)]) rfl h
          · replace h := h.2 c8
            refine i_iconst r_266_35 (n_266_35 _) ?_
            exact i_ireturn r_266_36 (n_266_36 _) rfl h
        · skip
          exact h.elim
      · skip
        exact h.elim
    · replace h := h.2 c3
      refine i_aload_n (a := 252) r_266_11 (n_266_11 _) rfl ?_
      refine i_iload_n (x := x1) r_266_12 (n_266_12 _) rfl ?_
      refine i_iload (x := x5) r_266_13 (n_266_13 _) rfl ?_
      refine wp_virt (b := 252) (rest := [rf 252, rf 252]) (Ls := [(0, rf 252), (1, iv x1), (2, iv x5)]) r_266_15 (n_266_15 _) rfl ⟨rfl, rfl, by decide, by decide⟩ rfl rfl lf_252 ⟨rfl, Nat.le_of_ble_eq_true rfl, Nat.le_of_ble_eq_true rfl⟩ rfl h ?_
      intro o9 s9 h
      rcases h with ⟨y9, q10, rfl, h⟩ | ⟨e9, rfl, h⟩
      · refine .inl ⟨some (iv y9), rfl, ?_⟩
        show wp S 266 18 [(0, rf 252), (1, iv x1), (2, iv x2), (3, .long u3), (5, iv x5)] [iv y9, rf 252, rf 252] s9 Q
        refine i_if (t := 25) r_266_18 (n_266_18 _) rfl (T_eq q10 ⟨by omega, by omega⟩) (fun c11 => ?_) (fun c11 => ?_)
        · replace h := h.1 c11
          refine i_iconst r_266_25 (n_266_25 _) ?_
          refine wp_virt (b := 252) (rest := [rf 252]) (Ls := [(0, rf 252), (1, iv 0)]) r_266_26 (n_266_26 _) rfl ⟨rfl, rfl, by decide, by decide⟩ rfl rfl lf_252 ⟨rfl, Nat.le_of_ble_eq_true rfl, Nat.le_of_ble_eq_true rfl⟩ rfl h ?_
          intro o12 s12 h
          rcases h with ⟨y12, q13, rfl, h⟩ | ⟨e12, rfl, h⟩
          · refine .inl ⟨some (iv y12), rfl, ?_⟩
            show wp S 266 29 [(0, rf 252), (1, iv x1), (2, iv x2), (3, .long u3), (5, iv x5)] [iv y12, rf 252] s12 Q
            refine wp_virt (b := 252) (rest := []) (Ls := [(0, rf 252), (1, iv y12)]) r_266_29 (n_266_29 _) rfl ⟨rfl, rfl, by decide, by decide⟩ rfl rfl lf_252 ⟨rfl, Nat.le_of_ble_eq_true rfl, Nat.le_of_ble_eq_true rfl⟩ rfl h ?_
            intro o14 s14 h
            rcases h with ⟨y14, q15, rfl, h⟩ | ⟨e14, rfl, h⟩
            · refine .inl ⟨some (iv y14), rfl, ?_⟩
              show wp S 266 32 [(0, rf 252), (1, iv x1), (2, iv x2), (3, .long u3), (5, iv x5)] [iv y14] s14 Q
              refine i_if (t := 37) r_266_32 (n_266_32 _) rfl (T_eq q15 ⟨by omega, by omega⟩) (fun c16 => ?_) (fun c16 => ?_)
              · replace h := h.1 c16
                refine i_iload (x := x5) r_266_37 (n_266_37 _) rfl ?_
                refine i_istore (l' := [(0, rf 252), (1, iv x1), (2, iv x2), (3, .long u3), (5, iv x5), (6, iv x5)]) r_266_39 (n_266_39 _) (by decide) rfl ?_
                exact wp_pr (l' := [(0, rf 252), (1, iv x1), (2, iv x2), (3, .long u3), (6, iv x5)]) rfl h
              · replace h := h.2 c16
                refine i_iconst r_266_35 (n_266_35 _) ?_
                exact i_ireturn r_266_36 (n_266_36 _) rfl h
            · skip
              exact h.elim
          · skip
            exact h.elim
        · replace h := h.2 c11
          refine i_iconst r_266_21 (n_266_21 _) ?_
          refine i_goto (t := 26) r_266_22 (n_266_22 _) rfl ?_
          refine wp_virt (b := 252) (rest := [rf 252]) (Ls := [(0, rf 252), (1, iv 1)]) r_266_26 (n_266_26 _) rfl ⟨rfl, rfl, by decide, by decide⟩ rfl rfl lf_252 ⟨rfl, Nat.le_of_ble_eq_true rfl, Nat.le_of_ble_eq_true rfl⟩ rfl h ?_
          intro o17 s17 h
          rcases h with ⟨y17, q18, rfl, h⟩ | ⟨e17, rfl, h⟩
          · refine .inl ⟨some (iv y17), rfl, ?_⟩
            show wp S 266 29 [(0, rf 252), (1, iv x1), (2, iv x2), (3, .long u3), (5, iv x5)] [iv y17, rf 252] s17 Q
            refine wp_virt (b := 252) (rest := []) (Ls := [(0, rf 252), (1, iv y17)]) r_266_29 (n_266_29 _) rfl ⟨rfl, rfl, by decide, by decide⟩ rfl rfl lf_252 ⟨rfl, Nat.le_of_ble_eq_true rfl, Nat.le_of_ble_eq_true rfl⟩ rfl h ?_
            intro o19 s19 h
            rcases h with ⟨y19, q20, rfl, h⟩ | ⟨e19, rfl, h⟩
            · refine .inl ⟨some (iv y19), rfl, ?_⟩
              show wp S 266 32 [(0, rf 252), (1, iv x1), (2, iv x2), (3, .long u3), (5, iv x5)] [iv y19] s19 Q
              refine i_if (t := 37) r_266_32 (n_266_32 _) rfl (T_eq q20 ⟨by omega, by omega⟩) (fun c21 => ?_) (fun c21 => ?_)
              · replace h := h.1 c21
                refine i_iload (x := x5) r_266_37 (n_266_37 _) rfl ?_
                refine i_istore (l' := [(0, rf 252), (1, iv x1), (2, iv x2), (3, .long u3), (5, iv x5), (6, iv x5)]) r_266_39 (n_266_39 _) (by decide) rfl ?_
                exact wp_pr (l' := [(0, rf 252), (1, iv x1), (2, iv x2), (3, .long u3), (6, iv x5)]) rfl h
              · replace h := h.2 c21
                refine i_iconst r_266_35 (n_266_35 _) ?_
                exact i_ireturn r_266_36 (n_266_36 _) rfl h
            · skip
              exact h.elim
          · skip
            exact h.elim
      · skip
        exact h.elim
  · skip
    exact h.elim
theorem v_Model_findRow_41 {S : Option (Nat × (Nat → Int32))} {s : zSt} {Q : Option Value ⊕ Nat → zSt → Prop} {x1 : Int} {x2 : Int} {u3 : Int64} {x6 : Int} 
    (h : wp S 236 0 [(0, rf 252), (1, iv x1), (2, iv 1)] [] s (fun o1 s1 => zkI (fun y1 => rng x6 ∧ ((y1 ≤ x6 → Q (rI (-1)) s1) ∧ (x6 < y1 → wp S 248 0 [(0, rf 252), (1, iv x1), (2, iv x6), (3, iv x2)] [] s1 (fun o5 s5 => zkL (fun y5 => ((zcmp y5 u3) ≠ 0 → wp S 266 41 [(0, rf 252), (1, iv x1), (2, iv x2), (3, .long u3), (6, iv (x6 + 1))] [] s5 Q) ∧ ((zcmp y5 u3) = 0 → Q (rI x6) s5)) (fun e5 => False) o5)))) (fun e1 => False) o1)) :
    wp S 266 41 [(0, rf 252), (1, iv x1), (2, iv x2), (3, .long u3), (6, iv x6)] [] s Q := by
  refine i_iload (x := x6) r_266_41 rfl rfl ?_
  refine i_aload_n (a := 252) r_266_43 (n_266_43 _) rfl ?_
  refine i_iload_n (x := x1) r_266_44 (n_266_44 _) rfl ?_
  refine i_iconst r_266_45 (n_266_45 _) ?_
  refine wp_virt (b := 252) (rest := [iv x6]) (Ls := [(0, rf 252), (1, iv x1), (2, iv 1)]) r_266_46 (n_266_46 _) rfl ⟨rfl, rfl, by decide, by decide⟩ rfl rfl lf_252 ⟨rfl, Nat.le_of_ble_eq_true rfl, Nat.le_of_ble_eq_true rfl⟩ rfl h ?_
  intro o1 s1 h
  rcases h with ⟨y1, q2, rfl, h⟩ | ⟨e1, rfl, h⟩
  · refine .inl ⟨some (iv y1), rfl, ?_⟩
    show wp S 266 49 [(0, rf 252), (1, iv x1), (2, iv x2), (3, .long u3), (6, iv x6)] [iv y1, iv x6] s1 Q
    obtain ⟨g3, h⟩ := h
    refine i_icmp (t := 74) r_266_49 (n_266_49 _) rfl (T_ge g3 q2) (fun c4 => ?_) (fun c4 => ?_)
    · replace h := h.1 c4
      refine i_iconst r_266_74 (n_266_74 _) ?_
      exact i_ireturn r_266_75 (n_266_75 _) rfl h
    · replace h := h.2 c4
      refine i_aload_n (a := 252) r_266_52 (n_266_52 _) rfl ?_
      refine i_iload_n (x := x1) r_266_53 (n_266_53 _) rfl ?_
      refine i_iload (x := x6) r_266_54 (n_266_54 _) rfl ?_
      refine i_iload_n (x := x2) r_266_56 (n_266_56 _) rfl ?_
      refine wp_virt (b := 252) (rest := []) (Ls := [(0, rf 252), (1, iv x1), (2, iv x6), (3, iv x2)]) r_266_57 (n_266_57 _) rfl ⟨rfl, rfl, by decide, by decide⟩ rfl rfl lf_252 ⟨rfl, Nat.le_of_ble_eq_true rfl, Nat.le_of_ble_eq_true rfl⟩ rfl h ?_
      intro o5 s5 h
      rcases h with ⟨y5, rfl, h⟩ | ⟨e5, rfl, h⟩
      · refine .inl ⟨some (.long y5), rfl, ?_⟩
        show wp S 266 60 [(0, rf 252), (1, iv x1), (2, iv x2), (3, .long u3), (6, iv x6)] [.long y5] s5 Q
        refine i_lload_n (u := u3) r_266_60 (n_266_60 _) rfl ?_
        refine i_lcmp r_266_61 (n_266_61 _) ?_
        refine i_if (t := 68) r_266_62 (n_266_62 _) rfl (T_ne (zcmp_rng _ _) ⟨by omega, by omega⟩) (fun c7 => ?_) (fun c7 => ?_)
        · replace h := h.1 c7
          refine i_iinc (x := x6) (l' := [(0, rf 252), (1, iv x1), (2, iv x2), (3, .long u3), (6, iv (x6 + 1))]) r_266_68 (n_266_68 _) (by decide) rfl rfl ?_
          refine i_goto (t := 41) r_266_71 (n_266_71 _) rfl ?_
          exact wp_pr (l' := [(0, rf 252), (1, iv x1), (2, iv x2), (3, .long u3), (6, iv (x6 + 1))]) rfl h
        · replace h := h.2 c7
          refine i_iload (x := x6) r_266_65 (n_266_65 _) rfl ?_
          exact i_ireturn r_266_67 (n_266_67 _) rfl h
      · skip
        exact h.elim
  · skip
    exact h.elim
theorem r_267_0 : xfetch 267 0 = some (.aload_n 0, 1) := by decide +kernel
theorem n_267_0 : ∀ l, xpr 267 0 l = l := xpr_no (by decide +kernel)
theorem r_267_1 : xfetch 267 1 = some (.aload_n 0, 1) := by decide +kernel
theorem n_267_1 : ∀ l, xpr 267 1 l = l := xpr_no (by decide +kernel)
theorem r_267_2 : xfetch 267 2 = some (.aload_n 0, 1) := by decide +kernel
theorem n_267_2 : ∀ l, xpr 267 2 l = l := xpr_no (by decide +kernel)
theorem r_267_3 : xfetch 267 3 = some (.iload_n 1, 1) := by decide +kernel
theorem n_267_3 : ∀ l, xpr 267 3 l = l := xpr_no (by decide +kernel)
theorem r_267_4 : xfetch 267 4 = some (.iload_n 2, 1) := by decide +kernel
theorem n_267_4 : ∀ l, xpr 267 4 l = l := xpr_no (by decide +kernel)
theorem r_267_5 : xfetch 267 5 = some (.invokevirtual 254, 3) := by decide +kernel
theorem n_267_5 : ∀ l, xpr 267 5 l = l := xpr_no (by decide +kernel)
theorem r_267_8 : xfetch 267 8 = some (.invokevirtual 175, 3) := by decide +kernel
theorem n_267_8 : ∀ l, xpr 267 8 l = l := xpr_no (by decide +kernel)
theorem r_267_11 : xfetch 267 11 = some (.invokevirtual 84, 3) := by decide +kernel
theorem n_267_11 : ∀ l, xpr 267 11 l = l := xpr_no (by decide +kernel)
theorem r_267_14 : xfetch 267 14 = some (.ifCond .eq 5, 3) := by decide +kernel
theorem n_267_14 : ∀ l, xpr 267 14 l = l := xpr_no (by decide +kernel)
theorem r_267_17 : xfetch 267 17 = some (.lconst 0, 1) := by decide +kernel
theorem n_267_17 : ∀ l, xpr 267 17 l = l := xpr_no (by decide +kernel)
theorem r_267_18 : xfetch 267 18 = some (.lreturn, 1) := by decide +kernel
theorem n_267_18 : ∀ l, xpr 267 18 l = l := xpr_no (by decide +kernel)
theorem r_267_19 : xfetch 267 19 = some (.lconst 0, 1) := by decide +kernel
theorem n_267_19 : ∀ l, xpr 267 19 l = l := xpr_no (by decide +kernel)
theorem r_267_20 : xfetch 267 20 = some (.lstore_n 3, 1) := by decide +kernel
theorem n_267_20 : ∀ l, xpr 267 20 l = l := xpr_no (by decide +kernel)
theorem r_267_21 : xfetch 267 21 = some (.iconst 0, 1) := by decide +kernel
theorem n_267_21 : ∀ l, xpr 267 21 l = l := xpr_no (by decide +kernel)
theorem r_267_22 : xfetch 267 22 = some (.istore 5, 2) := by decide +kernel
theorem n_267_22 : ∀ l, xpr 267 22 l = l := xpr_no (by decide +kernel)
theorem r_267_24 : xfetch 267 24 = some (.iload 5, 2) := by decide +kernel
theorem r_267_26 : xfetch 267 26 = some (.aload_n 0, 1) := by decide +kernel
theorem n_267_26 : ∀ l, xpr 267 26 l = l := xpr_no (by decide +kernel)
theorem r_267_27 : xfetch 267 27 = some (.iload_n 1, 1) := by decide +kernel
theorem n_267_27 : ∀ l, xpr 267 27 l = l := xpr_no (by decide +kernel)
theorem r_267_28 : xfetch 267 28 = some (.iconst 1, 1) := by decide +kernel
theorem n_267_28 : ∀ l, xpr 267 28 l = l := xpr_no (by decide +kernel)
theorem r_267_29 : xfetch 267 29 = some (.invokevirtual 228, 3) := by decide +kernel
theorem n_267_29 : ∀ l, xpr 267 29 l = l := xpr_no (by decide +kernel)
theorem r_267_32 : xfetch 267 32 = some (.if_icmp .ge 20, 3) := by decide +kernel
theorem n_267_32 : ∀ l, xpr 267 32 l = l := xpr_no (by decide +kernel)
theorem r_267_35 : xfetch 267 35 = some (.lload_n 3, 1) := by decide +kernel
theorem n_267_35 : ∀ l, xpr 267 35 l = l := xpr_no (by decide +kernel)
theorem r_267_36 : xfetch 267 36 = some (.aload_n 0, 1) := by decide +kernel
theorem n_267_36 : ∀ l, xpr 267 36 l = l := xpr_no (by decide +kernel)
theorem r_267_37 : xfetch 267 37 = some (.iload_n 1, 1) := by decide +kernel
theorem n_267_37 : ∀ l, xpr 267 37 l = l := xpr_no (by decide +kernel)
theorem r_267_38 : xfetch 267 38 = some (.iload 5, 2) := by decide +kernel
theorem n_267_38 : ∀ l, xpr 267 38 l = l := xpr_no (by decide +kernel)
theorem r_267_40 : xfetch 267 40 = some (.iload_n 2, 1) := by decide +kernel
theorem n_267_40 : ∀ l, xpr 267 40 l = l := xpr_no (by decide +kernel)
theorem r_267_41 : xfetch 267 41 = some (.invokevirtual 278, 3) := by decide +kernel
theorem n_267_41 : ∀ l, xpr 267 41 l = l := xpr_no (by decide +kernel)
theorem r_267_44 : xfetch 267 44 = some (.ladd, 1) := by decide +kernel
theorem n_267_44 : ∀ l, xpr 267 44 l = l := xpr_no (by decide +kernel)
theorem r_267_45 : xfetch 267 45 = some (.lstore_n 3, 1) := by decide +kernel
theorem n_267_45 : ∀ l, xpr 267 45 l = l := xpr_no (by decide +kernel)
theorem r_267_46 : xfetch 267 46 = some (.iinc 5 1, 3) := by decide +kernel
theorem n_267_46 : ∀ l, xpr 267 46 l = l := xpr_no (by decide +kernel)
theorem r_267_49 : xfetch 267 49 = some (.goto (-25), 3) := by decide +kernel
theorem n_267_49 : ∀ l, xpr 267 49 l = l := xpr_no (by decide +kernel)
theorem r_267_52 : xfetch 267 52 = some (.lload_n 3, 1) := by decide +kernel
theorem n_267_52 : ∀ l, xpr 267 52 l = l := xpr_no (by decide +kernel)
theorem r_267_53 : xfetch 267 53 = some (.lreturn, 1) := by decide +kernel
theorem n_267_53 : ∀ l, xpr 267 53 l = l := xpr_no (by decide +kernel)
theorem v_Model_sum_0 {S : Option (Nat × (Nat → Int32))} {s : zSt} {Q : Option Value ⊕ Nat → zSt → Prop} {x1 : Int} {x2 : Int} 
    (h : wp S 243 0 [(0, rf 252), (1, iv x1), (2, iv x2)] [] s (fun o1 s1 => zkI (fun y1 => wp S 213 0 [(0, rf 252), (1, iv y1)] [] s1 (fun o3 s3 => zkI (fun y3 => wp S 179 0 [(0, rf 252), (1, iv y3)] [] s3 (fun o5 s5 => zkI (fun y5 => (y5 = 0 → wp S 267 24 [(0, rf 252), (1, iv x1), (2, iv x2), (3, .long 0), (5, iv 0)] [] s5 Q) ∧ (y5 ≠ 0 → Q (rL 0) s5)) (fun e5 => False) o5)) (fun e3 => False) o3)) (fun e1 => False) o1)) :
    wp S 267 0 [(0, rf 252), (1, iv x1), (2, iv x2)] [] s Q := by
  refine i_aload_n (a := 252) r_267_0 (n_267_0 _) rfl ?_
  refine i_aload_n (a := 252) r_267_1 (n_267_1 _) rfl ?_
  refine i_aload_n (a := 252) r_267_2 (n_267_2 _) rfl ?_
  refine i_iload_n (x := x1) r_267_3 (n_267_3 _) rfl ?_
  refine i_iload_n (x := x2) r_267_4 (n_267_4 _) rfl ?_
  refine wp_virt (b := 252) (rest := [rf 252, rf 252]) (Ls := [(0, rf 252), (1, iv x1), (2, iv x2)]) r_267_5 (n_267_5 _) rfl ⟨rfl, rfl, by decide, by decide⟩ rfl rfl lf_252 ⟨rfl, Nat.le_of_ble_eq_true rfl, Nat.le_of_ble_eq_true rfl⟩ rfl h ?_
  intro o1 s1 h
  rcases h with ⟨y1, q2, rfl, h⟩ | ⟨e1, rfl, h⟩
  · refine .inl ⟨some (iv y1), rfl, ?_⟩
    show wp S 267 8 [(0, rf 252), (1, iv x1), (2, iv x2)] [iv y1, rf 252, rf 252] s1 Q
    refine wp_virt (b := 252) (rest := [rf 252]) (Ls := [(0, rf 252), (1, iv y1)]) r_267_8 (n_267_8 _) rfl ⟨rfl, rfl, by decide, by decide⟩ rfl rfl lf_252 ⟨rfl, Nat.le_of_ble_eq_true rfl, Nat.le_of_ble_eq_true rfl⟩ rfl h ?_
    intro o3 s3 h
    rcases h with ⟨y3, q4, rfl, h⟩ | ⟨e3, rfl, h⟩
    · refine .inl ⟨some (iv y3), rfl, ?_⟩
      show wp S 267 11 [(0, rf 252), (1, iv x1), (2, iv x2)] [iv y3, rf 252] s3 Q
      refine wp_virt (b := 252) (rest := []) (Ls := [(0, rf 252), (1, iv y3)]) r_267_11 (n_267_11 _) rfl ⟨rfl, rfl, by decide, by decide⟩ rfl rfl lf_252 ⟨rfl, Nat.le_of_ble_eq_true rfl, Nat.le_of_ble_eq_true rfl⟩ rfl h ?_
      intro o5 s5 h
      rcases h with ⟨y5, q6, rfl, h⟩ | ⟨e5, rfl, h⟩
      · refine .inl ⟨some (iv y5), rfl, ?_⟩
        show wp S 267 14 [(0, rf 252), (1, iv x1), (2, iv x2)] [iv y5] s5 Q
        refine i_if (t := 19) r_267_14 (n_267_14 _) rfl (T_eq q6 ⟨by omega, by omega⟩) (fun c7 => ?_) (fun c7 => ?_)
        · replace h := h.1 c7
          refine i_lconst r_267_19 (n_267_19 _) ?_
          refine i_lstore_n (l' := [(0, rf 252), (1, iv x1), (2, iv x2), (3, .long 0)]) r_267_20 (n_267_20 _) (by decide) rfl ?_
          refine i_iconst r_267_21 (n_267_21 _) ?_
          refine i_istore (l' := [(0, rf 252), (1, iv x1), (2, iv x2), (3, .long 0), (5, iv 0)]) r_267_22 (n_267_22 _) (by decide) rfl ?_
          exact wp_pr (l' := [(0, rf 252), (1, iv x1), (2, iv x2), (3, .long 0), (5, iv 0)]) rfl h
        · replace h := h.2 c7
          refine i_lconst r_267_17 (n_267_17 _) ?_
          exact i_lreturn r_267_18 (n_267_18 _) rfl h
      · skip
        exact h.elim
    · skip
      exact h.elim
  · skip
    exact h.elim
theorem v_Model_sum_24 {S : Option (Nat × (Nat → Int32))} {s : zSt} {Q : Option Value ⊕ Nat → zSt → Prop} {x1 : Int} {x2 : Int} {u3 : Int64} {x5 : Int} 
    (h : wp S 236 0 [(0, rf 252), (1, iv x1), (2, iv 1)] [] s (fun o1 s1 => zkI (fun y1 => rng x5 ∧ ((y1 ≤ x5 → Q (rL u3) s1) ∧ (x5 < y1 → wp S 248 0 [(0, rf 252), (1, iv x1), (2, iv x5), (3, iv x2)] [] s1 (fun o5 s5 => zkL (fun y5 => wp S 267 24 [(0, rf 252), (1, iv x1), (2, iv x2), (3, .long (u3 + y5)), (5, iv (x5 + 1))] [] s5 Q) (fun e5 => False) o5)))) (fun e1 => False) o1)) :
    wp S 267 24 [(0, rf 252), (1, iv x1), (2, iv x2), (3, .long u3), (5, iv x5)] [] s Q := by
  refine i_iload (x := x5) r_267_24 rfl rfl ?_
  refine i_aload_n (a := 252) r_267_26 (n_267_26 _) rfl ?_
  refine i_iload_n (x := x1) r_267_27 (n_267_27 _) rfl ?_
  refine i_iconst r_267_28 (n_267_28 _) ?_
  refine wp_virt (b := 252) (rest := [iv x5]) (Ls := [(0, rf 252), (1, iv x1), (2, iv 1)]) r_267_29 (n_267_29 _) rfl ⟨rfl, rfl, by decide, by decide⟩ rfl rfl lf_252 ⟨rfl, Nat.le_of_ble_eq_true rfl, Nat.le_of_ble_eq_true rfl⟩ rfl h ?_
  intro o1 s1 h
  rcases h with ⟨y1, q2, rfl, h⟩ | ⟨e1, rfl, h⟩
  · refine .inl ⟨some (iv y1), rfl, ?_⟩
    show wp S 267 32 [(0, rf 252), (1, iv x1), (2, iv x2), (3, .long u3), (5, iv x5)] [iv y1, iv x5] s1 Q
    obtain ⟨g3, h⟩ := h
    refine i_icmp (t := 52) r_267_32 (n_267_32 _) rfl (T_ge g3 q2) (fun c4 => ?_) (fun c4 => ?_)
    · replace h := h.1 c4
      refine i_lload_n (u := u3) r_267_52 (n_267_52 _) rfl ?_
      exact i_lreturn r_267_53 (n_267_53 _) rfl h
    · replace h := h.2 c4
      refine i_lload_n (u := u3) r_267_35 (n_267_35 _) rfl ?_
      refine i_aload_n (a := 252) r_267_36 (n_267_36 _) rfl ?_
      refine i_iload_n (x := x1) r_267_37 (n_267_37 _) rfl ?_
      refine i_iload (x := x5) r_267_38 (n_267_38 _) rfl ?_
      refine i_iload_n (x := x2) r_267_40 (n_267_40 _) rfl ?_
      refine wp_virt (b := 252) (rest := [.long u3]) (Ls := [(0, rf 252), (1, iv x1), (2, iv x5), (3, iv x2)]) r_267_41 (n_267_41 _) rfl ⟨rfl, rfl, by decide, by decide⟩ rfl rfl lf_252 ⟨rfl, Nat.le_of_ble_eq_true rfl, Nat.le_of_ble_eq_true rfl⟩ rfl h ?_
      intro o5 s5 h
      rcases h with ⟨y5, rfl, h⟩ | ⟨e5, rfl, h⟩
      · refine .inl ⟨some (.long y5), rfl, ?_⟩
        show wp S 267 44 [(0, rf 252), (1, iv x1), (2, iv x2), (3, .long u3), (5, iv x5)] [.long y5, .long u3] s5 Q
        refine i_ladd r_267_44 (n_267_44 _) ?_
        refine i_lstore_n (l' := [(0, rf 252), (1, iv x1), (2, iv x2), (3, .long (u3 + y5)), (5, iv x5)]) r_267_45 (n_267_45 _) (by decide) rfl ?_
        refine i_iinc (x := x5) (l' := [(0, rf 252), (1, iv x1), (2, iv x2), (3, .long (u3 + y5)), (5, iv (x5 + 1))]) r_267_46 (n_267_46 _) (by decide) rfl rfl ?_
        refine i_goto (t := 24) r_267_49 (n_267_49 _) rfl ?_
        exact wp_pr (l' := [(0, rf 252), (1, iv x1), (2, iv x2), (3, .long (u3 + y5)), (5, iv (x5 + 1))]) rfl h
      · skip
        exact h.elim
  · skip
    exact h.elim
theorem r_268_0 : xfetch 268 0 = some (.aload_n 0, 1) := by decide +kernel
theorem n_268_0 : ∀ l, xpr 268 0 l = l := xpr_no (by decide +kernel)
theorem r_268_1 : xfetch 268 1 = some (.iload_n 1, 1) := by decide +kernel
theorem n_268_1 : ∀ l, xpr 268 1 l = l := xpr_no (by decide +kernel)
theorem r_268_2 : xfetch 268 2 = some (.invokevirtual 225, 3) := by decide +kernel
theorem n_268_2 : ∀ l, xpr 268 2 l = l := xpr_no (by decide +kernel)
theorem r_268_5 : xfetch 268 5 = some (.ifCond .eq 27, 3) := by decide +kernel
theorem n_268_5 : ∀ l, xpr 268 5 l = l := xpr_no (by decide +kernel)
theorem r_268_8 : xfetch 268 8 = some (.aload_n 0, 1) := by decide +kernel
theorem n_268_8 : ∀ l, xpr 268 8 l = l := xpr_no (by decide +kernel)
theorem r_268_9 : xfetch 268 9 = some (.iload_n 1, 1) := by decide +kernel
theorem n_268_9 : ∀ l, xpr 268 9 l = l := xpr_no (by decide +kernel)
theorem r_268_10 : xfetch 268 10 = some (.iload 4, 2) := by decide +kernel
theorem n_268_10 : ∀ l, xpr 268 10 l = l := xpr_no (by decide +kernel)
theorem r_268_12 : xfetch 268 12 = some (.invokevirtual 257, 3) := by decide +kernel
theorem n_268_12 : ∀ l, xpr 268 12 l = l := xpr_no (by decide +kernel)
theorem r_268_15 : xfetch 268 15 = some (.ifCond .eq 17, 3) := by decide +kernel
theorem n_268_15 : ∀ l, xpr 268 15 l = l := xpr_no (by decide +kernel)
theorem r_268_18 : xfetch 268 18 = some (.aload_n 0, 1) := by decide +kernel
theorem n_268_18 : ∀ l, xpr 268 18 l = l := xpr_no (by decide +kernel)
theorem r_268_19 : xfetch 268 19 = some (.iload_n 1, 1) := by decide +kernel
theorem n_268_19 : ∀ l, xpr 268 19 l = l := xpr_no (by decide +kernel)
theorem r_268_20 : xfetch 268 20 = some (.iload 5, 2) := by decide +kernel
theorem n_268_20 : ∀ l, xpr 268 20 l = l := xpr_no (by decide +kernel)
theorem r_268_22 : xfetch 268 22 = some (.invokevirtual 257, 3) := by decide +kernel
theorem n_268_22 : ∀ l, xpr 268 22 l = l := xpr_no (by decide +kernel)
theorem r_268_25 : xfetch 268 25 = some (.ifCond .eq 7, 3) := by decide +kernel
theorem n_268_25 : ∀ l, xpr 268 25 l = l := xpr_no (by decide +kernel)
theorem r_268_28 : xfetch 268 28 = some (.iconst 1, 1) := by decide +kernel
theorem n_268_28 : ∀ l, xpr 268 28 l = l := xpr_no (by decide +kernel)
theorem r_268_29 : xfetch 268 29 = some (.goto 4, 3) := by decide +kernel
theorem n_268_29 : ∀ l, xpr 268 29 l = l := xpr_no (by decide +kernel)
theorem r_268_32 : xfetch 268 32 = some (.iconst 0, 1) := by decide +kernel
theorem n_268_32 : ∀ l, xpr 268 32 l = l := xpr_no (by decide +kernel)
theorem r_268_33 : xfetch 268 33 = some (.istore 7, 2) := by decide +kernel
theorem r_268_35 : xfetch 268 35 = some (.aload_n 0, 1) := by decide +kernel
theorem n_268_35 : ∀ l, xpr 268 35 l = l := xpr_no (by decide +kernel)
theorem r_268_36 : xfetch 268 36 = some (.iload 7, 2) := by decide +kernel
theorem n_268_36 : ∀ l, xpr 268 36 l = l := xpr_no (by decide +kernel)
theorem r_268_38 : xfetch 268 38 = some (.ifCond .ne 7, 3) := by decide +kernel
theorem n_268_38 : ∀ l, xpr 268 38 l = l := xpr_no (by decide +kernel)
theorem r_268_41 : xfetch 268 41 = some (.iconst 1, 1) := by decide +kernel
theorem n_268_41 : ∀ l, xpr 268 41 l = l := xpr_no (by decide +kernel)
theorem r_268_42 : xfetch 268 42 = some (.goto 23, 3) := by decide +kernel
theorem n_268_42 : ∀ l, xpr 268 42 l = l := xpr_no (by decide +kernel)
theorem r_268_45 : xfetch 268 45 = some (.iload 4, 2) := by decide +kernel
theorem n_268_45 : ∀ l, xpr 268 45 l = l := xpr_no (by decide +kernel)
theorem r_268_47 : xfetch 268 47 = some (.iload 5, 2) := by decide +kernel
theorem n_268_47 : ∀ l, xpr 268 47 l = l := xpr_no (by decide +kernel)
theorem r_268_49 : xfetch 268 49 = some (.if_icmp .gt 11, 3) := by decide +kernel
theorem n_268_49 : ∀ l, xpr 268 49 l = l := xpr_no (by decide +kernel)
theorem r_268_52 : xfetch 268 52 = some (.iload 6, 2) := by decide +kernel
theorem n_268_52 : ∀ l, xpr 268 52 l = l := xpr_no (by decide +kernel)
theorem r_268_54 : xfetch 268 54 = some (.invokestatic 290, 3) := by decide +kernel
theorem n_268_54 : ∀ l, xpr 268 54 l = l := xpr_no (by decide +kernel)
theorem r_268_57 : xfetch 268 57 = some (.ifCond .ne 7, 3) := by decide +kernel
theorem n_268_57 : ∀ l, xpr 268 57 l = l := xpr_no (by decide +kernel)
theorem r_268_60 : xfetch 268 60 = some (.iconst 2, 1) := by decide +kernel
theorem n_268_60 : ∀ l, xpr 268 60 l = l := xpr_no (by decide +kernel)
theorem r_268_61 : xfetch 268 61 = some (.goto 4, 3) := by decide +kernel
theorem n_268_61 : ∀ l, xpr 268 61 l = l := xpr_no (by decide +kernel)
theorem r_268_64 : xfetch 268 64 = some (.iconst 0, 1) := by decide +kernel
theorem n_268_64 : ∀ l, xpr 268 64 l = l := xpr_no (by decide +kernel)
theorem r_268_65 : xfetch 268 65 = some (.invokevirtual 84, 3) := by decide +kernel
theorem n_268_65 : ∀ l, xpr 268 65 l = l := xpr_no (by decide +kernel)
theorem r_268_68 : xfetch 268 68 = some (.ifCond .eq 5, 3) := by decide +kernel
theorem n_268_68 : ∀ l, xpr 268 68 l = l := xpr_no (by decide +kernel)
theorem r_268_71 : xfetch 268 71 = some (.iconst 0, 1) := by decide +kernel
theorem n_268_71 : ∀ l, xpr 268 71 l = l := xpr_no (by decide +kernel)
theorem r_268_72 : xfetch 268 72 = some (.ireturn, 1) := by decide +kernel
theorem n_268_72 : ∀ l, xpr 268 72 l = l := xpr_no (by decide +kernel)
theorem r_268_73 : xfetch 268 73 = some (.aload_n 0, 1) := by decide +kernel
theorem n_268_73 : ∀ l, xpr 268 73 l = l := xpr_no (by decide +kernel)
theorem r_268_74 : xfetch 268 74 = some (.invokevirtual 152, 3) := by decide +kernel
theorem n_268_74 : ∀ l, xpr 268 74 l = l := xpr_no (by decide +kernel)
theorem r_268_77 : xfetch 268 77 = some (.aload_n 0, 1) := by decide +kernel
theorem n_268_77 : ∀ l, xpr 268 77 l = l := xpr_no (by decide +kernel)
theorem r_268_78 : xfetch 268 78 = some (.aload_n 0, 1) := by decide +kernel
theorem n_268_78 : ∀ l, xpr 268 78 l = l := xpr_no (by decide +kernel)
theorem r_268_79 : xfetch 268 79 = some (.iload_n 1, 1) := by decide +kernel
theorem n_268_79 : ∀ l, xpr 268 79 l = l := xpr_no (by decide +kernel)
theorem r_268_80 : xfetch 268 80 = some (.iconst 0, 1) := by decide +kernel
theorem n_268_80 : ∀ l, xpr 268 80 l = l := xpr_no (by decide +kernel)
theorem r_268_81 : xfetch 268 81 = some (.invokevirtual 228, 3) := by decide +kernel
theorem n_268_81 : ∀ l, xpr 268 81 l = l := xpr_no (by decide +kernel)
theorem r_268_84 : xfetch 268 84 = some (.aload_n 0, 1) := by decide +kernel
theorem n_268_84 : ∀ l, xpr 268 84 l = l := xpr_no (by decide +kernel)
theorem r_268_85 : xfetch 268 85 = some (.iload_n 1, 1) := by decide +kernel
theorem n_268_85 : ∀ l, xpr 268 85 l = l := xpr_no (by decide +kernel)
theorem r_268_86 : xfetch 268 86 = some (.iconst 1, 1) := by decide +kernel
theorem n_268_86 : ∀ l, xpr 268 86 l = l := xpr_no (by decide +kernel)
theorem r_268_87 : xfetch 268 87 = some (.invokevirtual 228, 3) := by decide +kernel
theorem n_268_87 : ∀ l, xpr 268 87 l = l := xpr_no (by decide +kernel)
theorem r_268_90 : xfetch 268 90 = some (.aload_n 0, 1) := by decide +kernel
theorem n_268_90 : ∀ l, xpr 268 90 l = l := xpr_no (by decide +kernel)
theorem r_268_91 : xfetch 268 91 = some (.iload_n 1, 1) := by decide +kernel
theorem n_268_91 : ∀ l, xpr 268 91 l = l := xpr_no (by decide +kernel)
theorem r_268_92 : xfetch 268 92 = some (.iconst 2, 1) := by decide +kernel
theorem n_268_92 : ∀ l, xpr 268 92 l = l := xpr_no (by decide +kernel)
theorem r_268_93 : xfetch 268 93 = some (.invokevirtual 228, 3) := by decide +kernel
theorem n_268_93 : ∀ l, xpr 268 93 l = l := xpr_no (by decide +kernel)
theorem r_268_96 : xfetch 268 96 = some (.aload_n 0, 1) := by decide +kernel
theorem n_268_96 : ∀ l, xpr 268 96 l = l := xpr_no (by decide +kernel)
theorem r_268_97 : xfetch 268 97 = some (.iload_n 1, 1) := by decide +kernel
theorem n_268_97 : ∀ l, xpr 268 97 l = l := xpr_no (by decide +kernel)
theorem r_268_98 : xfetch 268 98 = some (.iconst 4, 1) := by decide +kernel
theorem n_268_98 : ∀ l, xpr 268 98 l = l := xpr_no (by decide +kernel)
theorem r_268_99 : xfetch 268 99 = some (.invokevirtual 228, 3) := by decide +kernel
theorem n_268_99 : ∀ l, xpr 268 99 l = l := xpr_no (by decide +kernel)
theorem r_268_102 : xfetch 268 102 = some (.lload_n 2, 1) := by decide +kernel
theorem n_268_102 : ∀ l, xpr 268 102 l = l := xpr_no (by decide +kernel)
theorem r_268_103 : xfetch 268 103 = some (.iload 4, 2) := by decide +kernel
theorem n_268_103 : ∀ l, xpr 268 103 l = l := xpr_no (by decide +kernel)
theorem r_268_105 : xfetch 268 105 = some (.iload 5, 2) := by decide +kernel
theorem n_268_105 : ∀ l, xpr 268 105 l = l := xpr_no (by decide +kernel)
theorem r_268_107 : xfetch 268 107 = some (.invokevirtual 293, 3) := by decide +kernel
theorem n_268_107 : ∀ l, xpr 268 107 l = l := xpr_no (by decide +kernel)
theorem r_268_110 : xfetch 268 110 = some (.pop, 1) := by decide +kernel
theorem n_268_110 : ∀ l, xpr 268 110 l = l := xpr_no (by decide +kernel)
theorem r_268_111 : xfetch 268 111 = some (.aload_n 0, 1) := by decide +kernel
theorem n_268_111 : ∀ l, xpr 268 111 l = l := xpr_no (by decide +kernel)
theorem r_268_112 : xfetch 268 112 = some (.iload 6, 2) := by decide +kernel
theorem n_268_112 : ∀ l, xpr 268 112 l = l := xpr_no (by decide +kernel)
theorem r_268_114 : xfetch 268 114 = some (.invokevirtual 297, 3) := by decide +kernel
theorem n_268_114 : ∀ l, xpr 268 114 l = l := xpr_no (by decide +kernel)
theorem r_268_117 : xfetch 268 117 = some (.ireturn, 1) := by decide +kernel
theorem n_268_117 : ∀ l, xpr 268 117 l = l := xpr_no (by decide +kernel)
theorem v_Model_lines_0 {S : Option (Nat × (Nat → Int32))} {s : zSt} {Q : Option Value ⊕ Nat → zSt → Prop} {x1 : Int} {u2 : Int64} {x4 : Int} {x5 : Int} {x6 : Int} 
    (h : wp S 229 0 [(0, rf 252), (1, iv x1)] [] s (fun o1 s1 => zkI (fun y1 => (y1 = 0 → wp S 268 33 [(0, rf 252), (1, iv x1), (2, .long u2), (4, iv x4), (5, iv x5), (6, iv x6)] [iv 0] s1 Q) ∧ (y1 ≠ 0 → wp S 244 0 [(0, rf 252), (1, iv x1), (2, iv x4)] [] s1 (fun o4 s4 => zkI (fun y4 => (y4 = 0 → wp S 268 33 [(0, rf 252), (1, iv x1), (2, .long u2), (4, iv x4), (5, iv x5), (6, iv x6)] [iv 0] s4 Q) ∧ (y4 ≠ 0 → wp S 244 0 [(0, rf 252), (1, iv x1), (2, iv x5)] [] s4 (fun o7 s7 => zkI (fun y7 => (y7 = 0 → wp S 268 33 [(0, rf 252), (1, iv x1), (2, .long u2), (4, iv x4), (5, iv x5), (6, iv x6)] [iv 0] s7 Q) ∧ (y7 ≠ 0 → wp S 268 33 [(0, rf 252), (1, iv x1), (2, .long u2), (4, iv x4), (5, iv x5), (6, iv x6)] [iv 1] s7 Q)) (fun e7 => False) o7))) (fun e4 => False) o4))) (fun e1 => False) o1)) :
    wp S 268 0 [(0, rf 252), (1, iv x1), (2, .long u2), (4, iv x4), (5, iv x5), (6, iv x6)] [] s Q := by
  refine i_aload_n (a := 252) r_268_0 (n_268_0 _) rfl ?_
  refine i_iload_n (x := x1) r_268_1 (n_268_1 _) rfl ?_
  refine wp_virt (b := 252) (rest := []) (Ls := [(0, rf 252), (1, iv x1)]) r_268_2 (n_268_2 _) rfl ⟨rfl, rfl, by decide, by decide⟩ rfl rfl lf_252 ⟨rfl, Nat.le_of_ble_eq_true rfl, Nat.le_of_ble_eq_true rfl⟩ rfl h ?_
  intro o1 s1 h
  rcases h with ⟨y1, q2, rfl, h⟩ | ⟨e1, rfl, h⟩
  · refine .inl ⟨some (iv y1), rfl, ?_⟩
    show wp S 268 5 [(0, rf 252), (1, iv x1), (2, .long u2), (4, iv x4), (5, iv x5), (6, iv x6)] [iv y1] s1 Q
    refine i_if (t := 32) r_268_5 (n_268_5 _) rfl (T_eq q2 ⟨by omega, by omega⟩) (fun c3 => ?_) (fun c3 => ?_)
    · replace h := h.1 c3
      refine i_iconst r_268_32 (n_268_32 _) ?_
      exact wp_pr (l' := [(0, rf 252), (1, iv x1), (2, .long u2), (4, iv x4), (5, iv x5), (6, iv x6)]) rfl h
    · replace h := h.2 c3
      refine i_aload_n (a := 252) r_268_8 (n_268_8 _) rfl ?_
      refine i_iload_n (x := x1) r_268_9 (n_268_9 _) rfl ?_
      refine i_iload (x := x4) r_268_10 (n_268_10 _) rfl ?_
      refine wp_virt (b := 252) (rest := []) (Ls := [(0, rf 252), (1, iv x1), (2, iv x4)]) r_268_12 (n_268_12 _) rfl ⟨rfl, rfl, by decide, by decide⟩ rfl rfl lf_252 ⟨rfl, Nat.le_of_ble_eq_true rfl, Nat.le_of_ble_eq_true rfl⟩ rfl h ?_
      intro o4 s4 h
      rcases h with ⟨y4, q5, rfl, h⟩ | ⟨e4, rfl, h⟩
      · refine .inl ⟨some (iv y4), rfl, ?_⟩
        show wp S 268 15 [(0, rf 252), (1, iv x1), (2, .long u2), (4, iv x4), (5, iv x5), (6, iv x6)] [iv y4] s4 Q
        refine i_if (t := 32) r_268_15 (n_268_15 _) rfl (T_eq q5 ⟨by omega, by omega⟩) (fun c6 => ?_) (fun c6 => ?_)
        · replace h := h.1 c6
          refine i_iconst r_268_32 (n_268_32 _) ?_
          exact wp_pr (l' := [(0, rf 252), (1, iv x1), (2, .long u2), (4, iv x4), (5, iv x5), (6, iv x6)]) rfl h
        · replace h := h.2 c6
          refine i_aload_n (a := 252) r_268_18 (n_268_18 _) rfl ?_
          refine i_iload_n (x := x1) r_268_19 (n_268_19 _) rfl ?_
          refine i_iload (x := x5) r_268_20 (n_268_20 _) rfl ?_
          refine wp_virt (b := 252) (rest := []) (Ls := [(0, rf 252), (1, iv x1), (2, iv x5)]) r_268_22 (n_268_22 _) rfl ⟨rfl, rfl, by decide, by decide⟩ rfl rfl lf_252 ⟨rfl, Nat.le_of_ble_eq_true rfl, Nat.le_of_ble_eq_true rfl⟩ rfl h ?_
          intro o7 s7 h
          rcases h with ⟨y7, q8, rfl, h⟩ | ⟨e7, rfl, h⟩
          · refine .inl ⟨some (iv y7), rfl, ?_⟩
            show wp S 268 25 [(0, rf 252), (1, iv x1), (2, .long u2), (4, iv x4), (5, iv x5), (6, iv x6)] [iv y7] s7 Q
            refine i_if (t := 32) r_268_25 (n_268_25 _) rfl (T_eq q8 ⟨by omega, by omega⟩) (fun c9 => ?_) (fun c9 => ?_)
            · replace h := h.1 c9
              refine i_iconst r_268_32 (n_268_32 _) ?_
              exact wp_pr (l' := [(0, rf 252), (1, iv x1), (2, .long u2), (4, iv x4), (5, iv x5), (6, iv x6)]) rfl h
            · replace h := h.2 c9
              refine i_iconst r_268_28 (n_268_28 _) ?_
              refine i_goto (t := 33) r_268_29 (n_268_29 _) rfl ?_
              exact wp_pr (l' := [(0, rf 252), (1, iv x1), (2, .long u2), (4, iv x4), (5, iv x5), (6, iv x6)]) rfl h
          · skip
            exact h.elim
      · skip
        exact h.elim
  · skip
    exact h.elim
theorem v_Model_lines_33 {S : Option (Nat × (Nat → Int32))} {s : zSt} {Q : Option Value ⊕ Nat → zSt → Prop} {x1 : Int} {u2 : Int64} {x4 : Int} {x5 : Int} {x6 : Int} {x90 : Int} 
    (h : rng x90 ∧ ((x90 ≠ 0 → rng x4 ∧ (rng x5 ∧ ((x5 < x4 → wp S 179 0 [(0, rf 252), (1, iv 2)] [] s (fun o6 s6 => zkI (fun y6 => (y6 = 0 → wp S 193 0 [(0, rf 252)] [] s6 (fun o9 s9 => zkU (wp S 236 0 [(0, rf 252), (1, iv x1), (2, iv 0)] [] s9 (fun o11 s11 => zkI (fun y11 => wp S 236 0 [(0, rf 252), (1, iv x1), (2, iv 1)] [] s11 (fun o13 s13 => zkI (fun y13 => wp S 236 0 [(0, rf 252), (1, iv x1), (2, iv 2)] [] s13 (fun o15 s15 => zkI (fun y15 => wp S 236 0 [(0, rf 252), (1, iv x1), (2, iv 4)] [] s15 (fun o17 s17 => zkI (fun y17 => wp S 270 0 [(0, rf 252), (1, iv y11), (2, iv y13), (3, iv y15), (4, iv y17), (5, .long u2), (7, iv x4), (8, iv x5)] [] s17 (fun o19 s19 => zkI (fun y19 => wp S 271 0 [(0, rf 252), (1, iv x6)] [] s19 (fun o21 s21 => zkI (fun y21 => Q (rI y21) s21) (fun e21 => False) o21)) (fun e19 => False) o19)) (fun e17 => False) o17)) (fun e15 => False) o15)) (fun e13 => False) o13)) (fun e11 => False) o11)) (fun e9 => False) o9)) ∧ (y6 ≠ 0 → Q (rI 0) s6)) (fun e6 => False) o6)) ∧ (x4 ≤ x5 → wp S 269 0 [(0, iv x6)] [] s (fun o23 s23 => zkI (fun y23 => (y23 ≠ 0 → wp S 179 0 [(0, rf 252), (1, iv 0)] [] s23 (fun o26 s26 => zkI (fun y26 => (y26 = 0 → wp S 193 0 [(0, rf 252)] [] s26 (fun o29 s29 => zkU (wp S 236 0 [(0, rf 252), (1, iv x1), (2, iv 0)] [] s29 (fun o31 s31 => zkI (fun y31 => wp S 236 0 [(0, rf 252), (1, iv x1), (2, iv 1)] [] s31 (fun o33 s33 => zkI (fun y33 => wp S 236 0 [(0, rf 252), (1, iv x1), (2, iv 2)] [] s33 (fun o35 s35 => zkI (fun y35 => wp S 236 0 [(0, rf 252), (1, iv x1), (2, iv 4)] [] s35 (fun o37 s37 => zkI (fun y37 => wp S 270 0 [(0, rf 252), (1, iv y31), (2, iv y33), (3, iv y35), (4, iv y37), (5, .long u2), (7, iv x4), (8, iv x5)] [] s37 (fun o39 s39 => zkI (fun y39 => wp S 271 0 [(0, rf 252), (1, iv x6)] [] s39 (fun o41 s41 => zkI (fun y41 => Q (rI y41) s41) (fun e41 => False) o41)) (fun e39 => False) o39)) (fun e37 => False) o37)) (fun e35 => False) o35)) (fun e33 => False) o33)) (fun e31 => False) o31)) (fun e29 => False) o29)) ∧ (y26 ≠ 0 → Q (rI 0) s26)) (fun e26 => False) o26)) ∧ (y23 = 0 → wp S 179 0 [(0, rf 252), (1, iv 2)] [] s23 (fun o43 s43 => zkI (fun y43 => (y43 = 0 → wp S 193 0 [(0, rf 252)] [] s43 (fun o46 s46 => zkU (wp S 236 0 [(0, rf 252), (1, iv x1), (2, iv 0)] [] s46 (fun o48 s48 => zkI (fun y48 => wp S 236 0 [(0, rf 252), (1, iv x1), (2, iv 1)] [] s48 (fun o50 s50 => zkI (fun y50 => wp S 236 0 [(0, rf 252), (1, iv x1), (2, iv 2)] [] s50 (fun o52 s52 => zkI (fun y52 => wp S 236 0 [(0, rf 252), (1, iv x1), (2, iv 4)] [] s52 (fun o54 s54 => zkI (fun y54 => wp S 270 0 [(0, rf 252), (1, iv y48), (2, iv y50), (3, iv y52), (4, iv y54), (5, .long u2), (7, iv x4), (8, iv x5)] [] s54 (fun o56 s56 => zkI (fun y56 => wp S 271 0 [(0, rf 252), (1, iv x6)] [] s56 (fun o58 s58 => zkI (fun y58 => Q (rI y58) s58) (fun e58 => False) o58)) (fun e56 => False) o56)) (fun e54 => False) o54)) (fun e52 => False) o52)) (fun e50 => False) o50)) (fun e48 => False) o48)) (fun e46 => False) o46)) ∧ (y43 ≠ 0 → Q (rI 0) s43)) (fun e43 => False) o43))) (fun e23 => False) o23))))) ∧ (x90 = 0 → wp S 179 0 [(0, rf 252), (1, iv 1)] [] s (fun o60 s60 => zkI (fun y60 => (y60 = 0 → wp S 193 0 [(0, rf 252)] [] s60 (fun o63 s63 => zkU (wp S 236 0 [(0, rf 252), (1, iv x1), (2, iv 0)] [] s63 (fun o65 s65 => zkI (fun y65 => wp S 236 0 [(0, rf 252), (1, iv x1), (2, iv 1)] [] s65 (fun o67 s67 => zkI (fun y67 => wp S 236 0 [(0, rf 252), (1, iv x1), (2, iv 2)] [] s67 (fun o69 s69 => zkI (fun y69 => wp S 236 0 [(0, rf 252), (1, iv x1), (2, iv 4)] [] s69 (fun o71 s71 => zkI (fun y71 => wp S 270 0 [(0, rf 252), (1, iv y65), (2, iv y67), (3, iv y69), (4, iv y71), (5, .long u2), (7, iv x4), (8, iv x5)] [] s71 (fun o73 s73 => zkI (fun y73 => wp S 271 0 [(0, rf 252), (1, iv x6)] [] s73 (fun o75 s75 => zkI (fun y75 => Q (rI y75) s75) (fun e75 => False) o75)) (fun e73 => False) o73)) (fun e71 => False) o71)) (fun e69 => False) o69)) (fun e67 => False) o67)) (fun e65 => False) o65)) (fun e63 => False) o63)) ∧ (y60 ≠ 0 → Q (rI 0) s60)) (fun e60 => False) o60)))) :
    wp S 268 33 [(0, rf 252), (1, iv x1), (2, .long u2), (4, iv x4), (5, iv x5), (6, iv x6)] [iv x90] s Q := by
  refine i_istore (l' := [(0, rf 252), (1, iv x1), (2, .long u2), (4, iv x4), (5, iv x5), (6, iv x6), (7, iv x90)]) r_268_33 rfl (by decide) rfl ?_
  refine i_aload_n (a := 252) r_268_35 (n_268_35 _) rfl ?_
  refine i_iload (x := x90) r_268_36 (n_268_36 _) rfl ?_
  obtain ⟨g1, h⟩ := h
  refine i_if (t := 45) r_268_38 (n_268_38 _) rfl (T_ne g1 ⟨by omega, by omega⟩) (fun c2 => ?_) (fun c2 => ?_)
  · replace h := h.1 c2
    refine i_iload (x := x4) r_268_45 (n_268_45 _) rfl ?_
    refine i_iload (x := x5) r_268_47 (n_268_47 _) rfl ?_
    obtain ⟨g3, h⟩ := h
    obtain ⟨g4, h⟩ := h
    refine i_icmp (t := 60) r_268_49 (n_268_49 _) rfl (T_gt g3 g4) (fun c5 => ?_) (fun c5 => ?_)
    · replace h := h.1 c5
      refine i_iconst r_268_60 (n_268_60 _) ?_
      refine i_goto (t := 65) r_268_61 (n_268_61 _) rfl ?_
      refine wp_virt (b := 252) (rest := []) (Ls := [(0, rf 252), (1, iv 2)]) r_268_65 (n_268_65 _) rfl ⟨rfl, rfl, by decide, by decide⟩ rfl rfl lf_252 ⟨rfl, Nat.le_of_ble_eq_true rfl, Nat.le_of_ble_eq_true rfl⟩ rfl h ?_
      intro o6 s6 h
      rcases h with ⟨y6, q7, rfl, h⟩ | ⟨e6, rfl, h⟩
      · refine .inl ⟨some (iv y6), rfl, ?_⟩
        show wp S 268 68 [(0, rf 252), (1, iv x1), (2, .long u2), (4, iv x4), (5, iv x5), (6, iv x6), (7, iv x90)] [iv y6] s6 Q
        refine i_if (t := 73) r_268_68 (n_268_68 _) rfl (T_eq q7 ⟨by omega, by omega⟩) (fun c8 => ?_) (fun c8 => ?_)
        · replace h := h.1 c8
          refine i_aload_n (a := 252) r_268_73 (n_268_73 _) rfl ?_
          refine wp_virt (b := 252) (rest := []) (Ls := [(0, rf 252)]) r_268_74 (n_268_74 _) rfl ⟨rfl, rfl, by decide, by decide⟩ rfl rfl lf_252 ⟨rfl, Nat.le_of_ble_eq_true rfl, Nat.le_of_ble_eq_true rfl⟩ rfl h ?_
          intro o9 s9 h
          rcases h with ⟨rfl, h⟩ | ⟨e9, rfl, h⟩
          · refine .inl ⟨none, rfl, ?_⟩
            refine i_aload_n (a := 252) r_268_77 (n_268_77 _) rfl ?_
            refine i_aload_n (a := 252) r_268_78 (n_268_78 _) rfl ?_
            refine i_iload_n (x := x1) r_268_79 (n_268_79 _) rfl ?_
            refine i_iconst r_268_80 (n_268_80 _) ?_
            refine wp_virt (b := 252) (rest := [rf 252]) (Ls := [(0, rf 252), (1, iv x1), (2, iv 0)]) r_268_81 (n_268_81 _) rfl ⟨rfl, rfl, by decide, by decide⟩ rfl rfl lf_252 ⟨rfl, Nat.le_of_ble_eq_true rfl, Nat.le_of_ble_eq_true rfl⟩ rfl h ?_
            intro o11 s11 h
            rcases h with ⟨y11, q12, rfl, h⟩ | ⟨e11, rfl, h⟩
            · refine .inl ⟨some (iv y11), rfl, ?_⟩
              show wp S 268 84 [(0, rf 252), (1, iv x1), (2, .long u2), (4, iv x4), (5, iv x5), (6, iv x6), (7, iv x90)] [iv y11, rf 252] s11 Q
              refine i_aload_n (a := 252) r_268_84 (n_268_84 _) rfl ?_
              refine i_iload_n (x := x1) r_268_85 (n_268_85 _) rfl ?_
              refine i_iconst r_268_86 (n_268_86 _) ?_
              refine wp_virt (b := 252) (rest := [iv y11, rf 252]) (Ls := [(0, rf 252), (1, iv x1), (2, iv 1)]) r_268_87 (n_268_87 _) rfl ⟨rfl, rfl, by decide, by decide⟩ rfl rfl lf_252 ⟨rfl, Nat.le_of_ble_eq_true rfl, Nat.le_of_ble_eq_true rfl⟩ rfl h ?_
              intro o13 s13 h
              rcases h with ⟨y13, q14, rfl, h⟩ | ⟨e13, rfl, h⟩
              · refine .inl ⟨some (iv y13), rfl, ?_⟩
                show wp S 268 90 [(0, rf 252), (1, iv x1), (2, .long u2), (4, iv x4), (5, iv x5), (6, iv x6), (7, iv x90)] [iv y13, iv y11, rf 252] s13 Q
                refine i_aload_n (a := 252) r_268_90 (n_268_90 _) rfl ?_
                refine i_iload_n (x := x1) r_268_91 (n_268_91 _) rfl ?_
                refine i_iconst r_268_92 (n_268_92 _) ?_
                refine wp_virt (b := 252) (rest := [iv y13, iv y11, rf 252]) (Ls := [(0, rf 252), (1, iv x1), (2, iv 2)]) r_268_93 (n_268_93 _) rfl ⟨rfl, rfl, by decide, by decide⟩ rfl rfl lf_252 ⟨rfl, Nat.le_of_ble_eq_true rfl, Nat.le_of_ble_eq_true rfl⟩ rfl h ?_
                intro o15 s15 h
                rcases h with ⟨y15, q16, rfl, h⟩ | ⟨e15, rfl, h⟩
                · refine .inl ⟨some (iv y15), rfl, ?_⟩
                  show wp S 268 96 [(0, rf 252), (1, iv x1), (2, .long u2), (4, iv x4), (5, iv x5), (6, iv x6), (7, iv x90)] [iv y15, iv y13, iv y11, rf 252] s15 Q
                  refine i_aload_n (a := 252) r_268_96 (n_268_96 _) rfl ?_
                  refine i_iload_n (x := x1) r_268_97 (n_268_97 _) rfl ?_
                  refine i_iconst r_268_98 (n_268_98 _) ?_
                  refine wp_virt (b := 252) (rest := [iv y15, iv y13, iv y11, rf 252]) (Ls := [(0, rf 252), (1, iv x1), (2, iv 4)]) r_268_99 (n_268_99 _) rfl ⟨rfl, rfl, by decide, by decide⟩ rfl rfl lf_252 ⟨rfl, Nat.le_of_ble_eq_true rfl, Nat.le_of_ble_eq_true rfl⟩ rfl h ?_
                  intro o17 s17 h
                  rcases h with ⟨y17, q18, rfl, h⟩ | ⟨e17, rfl, h⟩
                  · refine .inl ⟨some (iv y17), rfl, ?_⟩
                    show wp S 268 102 [(0, rf 252), (1, iv x1), (2, .long u2), (4, iv x4), (5, iv x5), (6, iv x6), (7, iv x90)] [iv y17, iv y15, iv y13, iv y11, rf 252] s17 Q
                    refine i_lload_n (u := u2) r_268_102 (n_268_102 _) rfl ?_
                    refine i_iload (x := x4) r_268_103 (n_268_103 _) rfl ?_
                    refine i_iload (x := x5) r_268_105 (n_268_105 _) rfl ?_
                    refine wp_virt (b := 252) (rest := []) (Ls := [(0, rf 252), (1, iv y11), (2, iv y13), (3, iv y15), (4, iv y17), (5, .long u2), (7, iv x4), (8, iv x5)]) r_268_107 (n_268_107 _) rfl ⟨rfl, rfl, by decide, by decide⟩ rfl rfl lf_252 ⟨rfl, Nat.le_of_ble_eq_true rfl, Nat.le_of_ble_eq_true rfl⟩ rfl h ?_
                    intro o19 s19 h
                    rcases h with ⟨y19, q20, rfl, h⟩ | ⟨e19, rfl, h⟩
                    · refine .inl ⟨some (iv y19), rfl, ?_⟩
                      show wp S 268 110 [(0, rf 252), (1, iv x1), (2, .long u2), (4, iv x4), (5, iv x5), (6, iv x6), (7, iv x90)] [iv y19] s19 Q
                      refine i_pop r_268_110 (n_268_110 _) rfl ?_
                      refine i_aload_n (a := 252) r_268_111 (n_268_111 _) rfl ?_
                      refine i_iload (x := x6) r_268_112 (n_268_112 _) rfl ?_
                      refine wp_virt (b := 252) (rest := []) (Ls := [(0, rf 252), (1, iv x6)]) r_268_114 (n_268_114 _) rfl ⟨rfl, rfl, by decide, by decide⟩ rfl rfl lf_252 ⟨rfl, Nat.le_of_ble_eq_true rfl, Nat.le_of_ble_eq_true rfl⟩ rfl h ?_
                      intro o21 s21 h
                      rcases h with ⟨y21, q22, rfl, h⟩ | ⟨e21, rfl, h⟩
                      · refine .inl ⟨some (iv y21), rfl, ?_⟩
                        show wp S 268 117 [(0, rf 252), (1, iv x1), (2, .long u2), (4, iv x4), (5, iv x5), (6, iv x6), (7, iv x90)] [iv y21] s21 Q
                        exact i_ireturn r_268_117 (n_268_117 _) rfl h
                      · skip
                        exact h.elim
                    · skip
                      exact h.elim
                  · skip
                    exact h.elim
                · skip
                  exact h.elim
              · skip
                exact h.elim
            · skip
              exact h.elim
          · skip
            exact h.elim
        · replace h := h.2 c8
          refine i_iconst r_268_71 (n_268_71 _) ?_
          exact i_ireturn r_268_72 (n_268_72 _) rfl h
      · skip
        exact h.elim
    · replace h := h.2 c5
      refine i_iload (x := x6) r_268_52 (n_268_52 _) rfl ?_
      refine wp_stat (rest := [rf 252]) (Ls := [(0, iv x6)]) r_268_54 (n_268_54 _) rfl ⟨rfl, by decide, by decide, by decide⟩ rfl rfl ⟨rfl, Nat.le_of_ble_eq_true rfl, Nat.le_of_ble_eq_true rfl⟩ rfl h ?_
      intro o23 s23 h
      rcases h with ⟨y23, q24, rfl, h⟩ | ⟨e23, rfl, h⟩
      · refine .inl ⟨some (iv y23), rfl, ?_⟩
        show wp S 268 57 [(0, rf 252), (1, iv x1), (2, .long u2), (4, iv x4), (5, iv x5), (6, iv x6), (7, iv x90)] [iv y23, rf 252] s23 Q
        refine i_if (t := 64) r_268_57 (n_268_57 _) rfl (T_ne q24 ⟨by omega, by omega⟩) (fun c25 => ?_) (fun c25 => ?_)
        · replace h := h.1 c25
          refine i_iconst r_268_64 (n_268_64 _) ?_
          refine wp_virt (b := 252) (rest := []) (Ls := [(0, rf 252), (1, iv 0)]) r_268_65 (n_268_65 _) rfl ⟨rfl, rfl, by decide, by decide⟩ rfl rfl lf_252 ⟨rfl, Nat.le_of_ble_eq_true rfl, Nat.le_of_ble_eq_true rfl⟩ rfl h ?_
          intro o26 s26 h
          rcases h with ⟨y26, q27, rfl, h⟩ | ⟨e26, rfl, h⟩
          · refine .inl ⟨some (iv y26), rfl, ?_⟩
            show wp S 268 68 [(0, rf 252), (1, iv x1), (2, .long u2), (4, iv x4), (5, iv x5), (6, iv x6), (7, iv x90)] [iv y26] s26 Q
            refine i_if (t := 73) r_268_68 (n_268_68 _) rfl (T_eq q27 ⟨by omega, by omega⟩) (fun c28 => ?_) (fun c28 => ?_)
            · replace h := h.1 c28
              refine i_aload_n (a := 252) r_268_73 (n_268_73 _) rfl ?_
              refine wp_virt (b := 252) (rest := []) (Ls := [(0, rf 252)]) r_268_74 (n_268_74 _) rfl ⟨rfl, rfl, by decide, by decide⟩ rfl rfl lf_252 ⟨rfl, Nat.le_of_ble_eq_true rfl, Nat.le_of_ble_eq_true rfl⟩ rfl h ?_
              intro o29 s29 h
              rcases h with ⟨rfl, h⟩ | ⟨e29, rfl, h⟩
              · refine .inl ⟨none, rfl, ?_⟩
                refine i_aload_n (a := 252) r_268_77 (n_268_77 _) rfl ?_
                refine i_aload_n (a := 252) r_268_78 (n_268_78 _) rfl ?_
                refine i_iload_n (x := x1) r_268_79 (n_268_79 _) rfl ?_
                refine i_iconst r_268_80 (n_268_80 _) ?_
                refine wp_virt (b := 252) (rest := [rf 252]) (Ls := [(0, rf 252), (1, iv x1), (2, iv 0)]) r_268_81 (n_268_81 _) rfl ⟨rfl, rfl, by decide, by decide⟩ rfl rfl lf_252 ⟨rfl, Nat.le_of_ble_eq_true rfl, Nat.le_of_ble_eq_true rfl⟩ rfl h ?_
                intro o31 s31 h
                rcases h with ⟨y31, q32, rfl, h⟩ | ⟨e31, rfl, h⟩
                · refine .inl ⟨some (iv y31), rfl, ?_⟩
                  show wp S 268 84 [(0, rf 252), (1, iv x1), (2, .long u2), (4, iv x4), (5, iv x5), (6, iv x6), (7, iv x90)] [iv y31, rf 252] s31 Q
                  refine i_aload_n (a := 252) r_268_84 (n_268_84 _) rfl ?_
                  refine i_iload_n (x := x1) r_268_85 (n_268_85 _) rfl ?_
                  refine i_iconst r_268_86 (n_268_86 _) ?_
                  refine wp_virt (b := 252) (rest := [iv y31, rf 252]) (Ls := [(0, rf 252), (1, iv x1), (2, iv 1)]) r_268_87 (n_268_87 _) rfl ⟨rfl, rfl, by decide, by decide⟩ rfl rfl lf_252 ⟨rfl, Nat.le_of_ble_eq_true rfl, Nat.le_of_ble_eq_true rfl⟩ rfl h ?_
                  intro o33 s33 h
                  rcases h with ⟨y33, q34, rfl, h⟩ | ⟨e33, rfl, h⟩
                  · refine .inl ⟨some (iv y33), rfl, ?_⟩
                    show wp S 268 90 [(0, rf 252), (1, iv x1), (2, .long u2), (4, iv x4), (5, iv x5), (6, iv x6), (7, iv x90)] [iv y33, iv y31, rf 252] s33 Q
                    refine i_aload_n (a := 252) r_268_90 (n_268_90 _) rfl ?_
                    refine i_iload_n (x := x1) r_268_91 (n_268_91 _) rfl ?_
                    refine i_iconst r_268_92 (n_268_92 _) ?_
                    refine wp_virt (b := 252) (rest := [iv y33, iv y31, rf 252]) (Ls := [(0, rf 252), (1, iv x1), (2, iv 2)]) r_268_93 (n_268_93 _) rfl ⟨rfl, rfl, by decide, by decide⟩ rfl rfl lf_252 ⟨rfl, Nat.le_of_ble_eq_true rfl, Nat.le_of_ble_eq_true rfl⟩ rfl h ?_
                    intro o35 s35 h
                    rcases h with ⟨y35, q36, rfl, h⟩ | ⟨e35, rfl, h⟩
                    · refine .inl ⟨some (iv y35), rfl, ?_⟩
                      show wp S 268 96 [(0, rf 252), (1, iv x1), (2, .long u2), (4, iv x4), (5, iv x5), (6, iv x6), (7, iv x90)] [iv y35, iv y33, iv y31, rf 252] s35 Q
                      refine i_aload_n (a := 252) r_268_96 (n_268_96 _) rfl ?_
                      refine i_iload_n (x := x1) r_268_97 (n_268_97 _) rfl ?_
                      refine i_iconst r_268_98 (n_268_98 _) ?_
                      refine wp_virt (b := 252) (rest := [iv y35, iv y33, iv y31, rf 252]) (Ls := [(0, rf 252), (1, iv x1), (2, iv 4)]) r_268_99 (n_268_99 _) rfl ⟨rfl, rfl, by decide, by decide⟩ rfl rfl lf_252 ⟨rfl, Nat.le_of_ble_eq_true rfl, Nat.le_of_ble_eq_true rfl⟩ rfl h ?_
                      intro o37 s37 h
                      rcases h with ⟨y37, q38, rfl, h⟩ | ⟨e37, rfl, h⟩
                      · refine .inl ⟨some (iv y37), rfl, ?_⟩
                        show wp S 268 102 [(0, rf 252), (1, iv x1), (2, .long u2), (4, iv x4), (5, iv x5), (6, iv x6), (7, iv x90)] [iv y37, iv y35, iv y33, iv y31, rf 252] s37 Q
                        refine i_lload_n (u := u2) r_268_102 (n_268_102 _) rfl ?_
                        refine i_iload (x := x4) r_268_103 (n_268_103 _) rfl ?_
                        refine i_iload (x := x5) r_268_105 (n_268_105 _) rfl ?_
                        refine wp_virt (b := 252) (rest := []) (Ls := [(0, rf 252), (1, iv y31), (2, iv y33), (3, iv y35), (4, iv y37), (5, .long u2), (7, iv x4), (8, iv x5)]) r_268_107 (n_268_107 _) rfl ⟨rfl, rfl, by decide, by decide⟩ rfl rfl lf_252 ⟨rfl, Nat.le_of_ble_eq_true rfl, Nat.le_of_ble_eq_true rfl⟩ rfl h ?_
                        intro o39 s39 h
                        rcases h with ⟨y39, q40, rfl, h⟩ | ⟨e39, rfl, h⟩
                        · refine .inl ⟨some (iv y39), rfl, ?_⟩
                          show wp S 268 110 [(0, rf 252), (1, iv x1), (2, .long u2), (4, iv x4), (5, iv x5), (6, iv x6), (7, iv x90)] [iv y39] s39 Q
                          refine i_pop r_268_110 (n_268_110 _) rfl ?_
                          refine i_aload_n (a := 252) r_268_111 (n_268_111 _) rfl ?_
                          refine i_iload (x := x6) r_268_112 (n_268_112 _) rfl ?_
                          refine wp_virt (b := 252) (rest := []) (Ls := [(0, rf 252), (1, iv x6)]) r_268_114 (n_268_114 _) rfl ⟨rfl, rfl, by decide, by decide⟩ rfl rfl lf_252 ⟨rfl, Nat.le_of_ble_eq_true rfl, Nat.le_of_ble_eq_true rfl⟩ rfl h ?_
                          intro o41 s41 h
                          rcases h with ⟨y41, q42, rfl, h⟩ | ⟨e41, rfl, h⟩
                          · refine .inl ⟨some (iv y41), rfl, ?_⟩
                            show wp S 268 117 [(0, rf 252), (1, iv x1), (2, .long u2), (4, iv x4), (5, iv x5), (6, iv x6), (7, iv x90)] [iv y41] s41 Q
                            exact i_ireturn r_268_117 (n_268_117 _) rfl h
                          · skip
                            exact h.elim
                        · skip
                          exact h.elim
                      · skip
                        exact h.elim
                    · skip
                      exact h.elim
                  · skip
                    exact h.elim
                · skip
                  exact h.elim
              · skip
                exact h.elim
            · replace h := h.2 c28
              refine i_iconst r_268_71 (n_268_71 _) ?_
              exact i_ireturn r_268_72 (n_268_72 _) rfl h
          · skip
            exact h.elim
        · replace h := h.2 c25
          refine i_iconst r_268_60 (n_268_60 _) ?_
          refine i_goto (t := 65) r_268_61 (n_268_61 _) rfl ?_
          refine wp_virt (b := 252) (rest := []) (Ls := [(0, rf 252), (1, iv 2)]) r_268_65 (n_268_65 _) rfl ⟨rfl, rfl, by decide, by decide⟩ rfl rfl lf_252 ⟨rfl, Nat.le_of_ble_eq_true rfl, Nat.le_of_ble_eq_true rfl⟩ rfl h ?_
          intro o43 s43 h
          rcases h with ⟨y43, q44, rfl, h⟩ | ⟨e43, rfl, h⟩
          · refine .inl ⟨some (iv y43), rfl, ?_⟩
            show wp S 268 68 [(0, rf 252), (1, iv x1), (2, .long u2), (4, iv x4), (5, iv x5), (6, iv x6), (7, iv x90)] [iv y43] s43 Q
            refine i_if (t := 73) r_268_68 (n_268_68 _) rfl (T_eq q44 ⟨by omega, by omega⟩) (fun c45 => ?_) (fun c45 => ?_)
            · replace h := h.1 c45
              refine i_aload_n (a := 252) r_268_73 (n_268_73 _) rfl ?_
              refine wp_virt (b := 252) (rest := []) (Ls := [(0, rf 252)]) r_268_74 (n_268_74 _) rfl ⟨rfl, rfl, by decide, by decide⟩ rfl rfl lf_252 ⟨rfl, Nat.le_of_ble_eq_true rfl, Nat.le_of_ble_eq_true rfl⟩ rfl h ?_
              intro o46 s46 h
              rcases h with ⟨rfl, h⟩ | ⟨e46, rfl, h⟩
              · refine .inl ⟨none, rfl, ?_⟩
                refine i_aload_n (a := 252) r_268_77 (n_268_77 _) rfl ?_
                refine i_aload_n (a := 252) r_268_78 (n_268_78 _) rfl ?_
                refine i_iload_n (x := x1) r_268_79 (n_268_79 _) rfl ?_
                refine i_iconst r_268_80 (n_268_80 _) ?_
                refine wp_virt (b := 252) (rest := [rf 252]) (Ls := [(0, rf 252), (1, iv x1), (2, iv 0)]) r_268_81 (n_268_81 _) rfl ⟨rfl, rfl, by decide, by decide⟩ rfl rfl lf_252 ⟨rfl, Nat.le_of_ble_eq_true rfl, Nat.le_of_ble_eq_true rfl⟩ rfl h ?_
                intro o48 s48 h
                rcases h with ⟨y48, q49, rfl, h⟩ | ⟨e48, rfl, h⟩
                · refine .inl ⟨some (iv y48), rfl, ?_⟩
                  show wp S 268 84 [(0, rf 252), (1, iv x1), (2, .long u2), (4, iv x4), (5, iv x5), (6, iv x6), (7, iv x90)] [iv y48, rf 252] s48 Q
                  refine i_aload_n (a := 252) r_268_84 (n_268_84 _) rfl ?_
                  refine i_iload_n (x := x1) r_268_85 (n_268_85 _) rfl ?_
                  refine i_iconst r_268_86 (n_268_86 _) ?_
                  refine wp_virt (b := 252) (rest := [iv y48, rf 252]) (Ls := [(0, rf 252), (1, iv x1), (2, iv 1)]) r_268_87 (n_268_87 _) rfl ⟨rfl, rfl, by decide, by decide⟩ rfl rfl lf_252 ⟨rfl, Nat.le_of_ble_eq_true rfl, Nat.le_of_ble_eq_true rfl⟩ rfl h ?_
                  intro o50 s50 h
                  rcases h with ⟨y50, q51, rfl, h⟩ | ⟨e50, rfl, h⟩
                  · refine .inl ⟨some (iv y50), rfl, ?_⟩
                    show wp S 268 90 [(0, rf 252), (1, iv x1), (2, .long u2), (4, iv x4), (5, iv x5), (6, iv x6), (7, iv x90)] [iv y50, iv y48, rf 252] s50 Q
                    refine i_aload_n (a := 252) r_268_90 (n_268_90 _) rfl ?_
                    refine i_iload_n (x := x1) r_268_91 (n_268_91 _) rfl ?_
                    refine i_iconst r_268_92 (n_268_92 _) ?_
                    refine wp_virt (b := 252) (rest := [iv y50, iv y48, rf 252]) (Ls := [(0, rf 252), (1, iv x1), (2, iv 2)]) r_268_93 (n_268_93 _) rfl ⟨rfl, rfl, by decide, by decide⟩ rfl rfl lf_252 ⟨rfl, Nat.le_of_ble_eq_true rfl, Nat.le_of_ble_eq_true rfl⟩ rfl h ?_
                    intro o52 s52 h
                    rcases h with ⟨y52, q53, rfl, h⟩ | ⟨e52, rfl, h⟩
                    · refine .inl ⟨some (iv y52), rfl, ?_⟩
                      show wp S 268 96 [(0, rf 252), (1, iv x1), (2, .long u2), (4, iv x4), (5, iv x5), (6, iv x6), (7, iv x90)] [iv y52, iv y50, iv y48, rf 252] s52 Q
                      refine i_aload_n (a := 252) r_268_96 (n_268_96 _) rfl ?_
                      refine i_iload_n (x := x1) r_268_97 (n_268_97 _) rfl ?_
                      refine i_iconst r_268_98 (n_268_98 _) ?_
                      refine wp_virt (b := 252) (rest := [iv y52, iv y50, iv y48, rf 252]) (Ls := [(0, rf 252), (1, iv x1), (2, iv 4)]) r_268_99 (n_268_99 _) rfl ⟨rfl, rfl, by decide, by decide⟩ rfl rfl lf_252 ⟨rfl, Nat.le_of_ble_eq_true rfl, Nat.le_of_ble_eq_true rfl⟩ rfl h ?_
                      intro o54 s54 h
                      rcases h with ⟨y54, q55, rfl, h⟩ | ⟨e54, rfl, h⟩
                      · refine .inl ⟨some (iv y54), rfl, ?_⟩
                        show wp S 268 102 [(0, rf 252), (1, iv x1), (2, .long u2), (4, iv x4), (5, iv x5), (6, iv x6), (7, iv x90)] [iv y54, iv y52, iv y50, iv y48, rf 252] s54 Q
                        refine i_lload_n (u := u2) r_268_102 (n_268_102 _) rfl ?_
                        refine i_iload (x := x4) r_268_103 (n_268_103 _) rfl ?_
                        refine i_iload (x := x5) r_268_105 (n_268_105 _) rfl ?_
                        refine wp_virt (b := 252) (rest := []) (Ls := [(0, rf 252), (1, iv y48), (2, iv y50), (3, iv y52), (4, iv y54), (5, .long u2), (7, iv x4), (8, iv x5)]) r_268_107 (n_268_107 _) rfl ⟨rfl, rfl, by decide, by decide⟩ rfl rfl lf_252 ⟨rfl, Nat.le_of_ble_eq_true rfl, Nat.le_of_ble_eq_true rfl⟩ rfl h ?_
                        intro o56 s56 h
                        rcases h with ⟨y56, q57, rfl, h⟩ | ⟨e56, rfl, h⟩
                        · refine .inl ⟨some (iv y56), rfl, ?_⟩
                          show wp S 268 110 [(0, rf 252), (1, iv x1), (2, .long u2), (4, iv x4), (5, iv x5), (6, iv x6), (7, iv x90)] [iv y56] s56 Q
                          refine i_pop r_268_110 (n_268_110 _) rfl ?_
                          refine i_aload_n (a := 252) r_268_111 (n_268_111 _) rfl ?_
                          refine i_iload (x := x6) r_268_112 (n_268_112 _) rfl ?_
                          refine wp_virt (b := 252) (rest := []) (Ls := [(0, rf 252), (1, iv x6)]) r_268_114 (n_268_114 _) rfl ⟨rfl, rfl, by decide, by decide⟩ rfl rfl lf_252 ⟨rfl, Nat.le_of_ble_eq_true rfl, Nat.le_of_ble_eq_true rfl⟩ rfl h ?_
                          intro o58 s58 h
                          rcases h with ⟨y58, q59, rfl, h⟩ | ⟨e58, rfl, h⟩
                          · refine .inl ⟨some (iv y58), rfl, ?_⟩
                            show wp S 268 117 [(0, rf 252), (1, iv x1), (2, .long u2), (4, iv x4), (5, iv x5), (6, iv x6), (7, iv x90)] [iv y58] s58 Q
                            exact i_ireturn r_268_117 (n_268_117 _) rfl h
                          · skip
                            exact h.elim
                        · skip
                          exact h.elim
                      · skip
                        exact h.elim
                    · skip
                      exact h.elim
                  · skip
                    exact h.elim
                · skip
                  exact h.elim
              · skip
                exact h.elim
            · replace h := h.2 c45
              refine i_iconst r_268_71 (n_268_71 _) ?_
              exact i_ireturn r_268_72 (n_268_72 _) rfl h
          · skip
            exact h.elim
      · skip
        exact h.elim
  · replace h := h.2 c2
    refine i_iconst r_268_41 (n_268_41 _) ?_
    refine i_goto (t := 65) r_268_42 (n_268_42 _) rfl ?_
    refine wp_virt (b := 252) (rest := []) (Ls := [(0, rf 252), (1, iv 1)]) r_268_65 (n_268_65 _) rfl ⟨rfl, rfl, by decide, by decide⟩ rfl rfl lf_252 ⟨rfl, Nat.le_of_ble_eq_true rfl, Nat.le_of_ble_eq_true rfl⟩ rfl h ?_
    intro o60 s60 h
    rcases h with ⟨y60, q61, rfl, h⟩ | ⟨e60, rfl, h⟩
    · refine .inl ⟨some (iv y60), rfl, ?_⟩
      show wp S 268 68 [(0, rf 252), (1, iv x1), (2, .long u2), (4, iv x4), (5, iv x5), (6, iv x6), (7, iv x90)] [iv y60] s60 Q
      refine i_if (t := 73) r_268_68 (n_268_68 _) rfl (T_eq q61 ⟨by omega, by omega⟩) (fun c62 => ?_) (fun c62 => ?_)
      · replace h := h.1 c62
        refine i_aload_n (a := 252) r_268_73 (n_268_73 _) rfl ?_
        refine wp_virt (b := 252) (rest := []) (Ls := [(0, rf 252)]) r_268_74 (n_268_74 _) rfl ⟨rfl, rfl, by decide, by decide⟩ rfl rfl lf_252 ⟨rfl, Nat.le_of_ble_eq_true rfl, Nat.le_of_ble_eq_true rfl⟩ rfl h ?_
        intro o63 s63 h
        rcases h with ⟨rfl, h⟩ | ⟨e63, rfl, h⟩
        · refine .inl ⟨none, rfl, ?_⟩
          refine i_aload_n (a := 252) r_268_77 (n_268_77 _) rfl ?_
          refine i_aload_n (a := 252) r_268_78 (n_268_78 _) rfl ?_
          refine i_iload_n (x := x1) r_268_79 (n_268_79 _) rfl ?_
          refine i_iconst r_268_80 (n_268_80 _) ?_
          refine wp_virt (b := 252) (rest := [rf 252]) (Ls := [(0, rf 252), (1, iv x1), (2, iv 0)]) r_268_81 (n_268_81 _) rfl ⟨rfl, rfl, by decide, by decide⟩ rfl rfl lf_252 ⟨rfl, Nat.le_of_ble_eq_true rfl, Nat.le_of_ble_eq_true rfl⟩ rfl h ?_
          intro o65 s65 h
          rcases h with ⟨y65, q66, rfl, h⟩ | ⟨e65, rfl, h⟩
          · refine .inl ⟨some (iv y65), rfl, ?_⟩
            show wp S 268 84 [(0, rf 252), (1, iv x1), (2, .long u2), (4, iv x4), (5, iv x5), (6, iv x6), (7, iv x90)] [iv y65, rf 252] s65 Q
            refine i_aload_n (a := 252) r_268_84 (n_268_84 _) rfl ?_
            refine i_iload_n (x := x1) r_268_85 (n_268_85 _) rfl ?_
            refine i_iconst r_268_86 (n_268_86 _) ?_
            refine wp_virt (b := 252) (rest := [iv y65, rf 252]) (Ls := [(0, rf 252), (1, iv x1), (2, iv 1)]) r_268_87 (n_268_87 _) rfl ⟨rfl, rfl, by decide, by decide⟩ rfl rfl lf_252 ⟨rfl, Nat.le_of_ble_eq_true rfl, Nat.le_of_ble_eq_true rfl⟩ rfl h ?_
            intro o67 s67 h
            rcases h with ⟨y67, q68, rfl, h⟩ | ⟨e67, rfl, h⟩
            · refine .inl ⟨some (iv y67), rfl, ?_⟩
              show wp S 268 90 [(0, rf 252), (1, iv x1), (2, .long u2), (4, iv x4), (5, iv x5), (6, iv x6), (7, iv x90)] [iv y67, iv y65, rf 252] s67 Q
              refine i_aload_n (a := 252) r_268_90 (n_268_90 _) rfl ?_
              refine i_iload_n (x := x1) r_268_91 (n_268_91 _) rfl ?_
              refine i_iconst r_268_92 (n_268_92 _) ?_
              refine wp_virt (b := 252) (rest := [iv y67, iv y65, rf 252]) (Ls := [(0, rf 252), (1, iv x1), (2, iv 2)]) r_268_93 (n_268_93 _) rfl ⟨rfl, rfl, by decide, by decide⟩ rfl rfl lf_252 ⟨rfl, Nat.le_of_ble_eq_true rfl, Nat.le_of_ble_eq_true rfl⟩ rfl h ?_
              intro o69 s69 h
              rcases h with ⟨y69, q70, rfl, h⟩ | ⟨e69, rfl, h⟩
              · refine .inl ⟨some (iv y69), rfl, ?_⟩
                show wp S 268 96 [(0, rf 252), (1, iv x1), (2, .long u2), (4, iv x4), (5, iv x5), (6, iv x6), (7, iv x90)] [iv y69, iv y67, iv y65, rf 252] s69 Q
                refine i_aload_n (a := 252) r_268_96 (n_268_96 _) rfl ?_
                refine i_iload_n (x := x1) r_268_97 (n_268_97 _) rfl ?_
                refine i_iconst r_268_98 (n_268_98 _) ?_
                refine wp_virt (b := 252) (rest := [iv y69, iv y67, iv y65, rf 252]) (Ls := [(0, rf 252), (1, iv x1), (2, iv 4)]) r_268_99 (n_268_99 _) rfl ⟨rfl, rfl, by decide, by decide⟩ rfl rfl lf_252 ⟨rfl, Nat.le_of_ble_eq_true rfl, Nat.le_of_ble_eq_true rfl⟩ rfl h ?_
                intro o71 s71 h
                rcases h with ⟨y71, q72, rfl, h⟩ | ⟨e71, rfl, h⟩
                · refine .inl ⟨some (iv y71), rfl, ?_⟩
                  show wp S 268 102 [(0, rf 252), (1, iv x1), (2, .long u2), (4, iv x4), (5, iv x5), (6, iv x6), (7, iv x90)] [iv y71, iv y69, iv y67, iv y65, rf 252] s71 Q
                  refine i_lload_n (u := u2) r_268_102 (n_268_102 _) rfl ?_
                  refine i_iload (x := x4) r_268_103 (n_268_103 _) rfl ?_
                  refine i_iload (x := x5) r_268_105 (n_268_105 _) rfl ?_
                  refine wp_virt (b := 252) (rest := []) (Ls := [(0, rf 252), (1, iv y65), (2, iv y67), (3, iv y69), (4, iv y71), (5, .long u2), (7, iv x4), (8, iv x5)]) r_268_107 (n_268_107 _) rfl ⟨rfl, rfl, by decide, by decide⟩ rfl rfl lf_252 ⟨rfl, Nat.le_of_ble_eq_true rfl, Nat.le_of_ble_eq_true rfl⟩ rfl h ?_
                  intro o73 s73 h
                  rcases h with ⟨y73, q74, rfl, h⟩ | ⟨e73, rfl, h⟩
                  · refine .inl ⟨some (iv y73), rfl, ?_⟩
                    show wp S 268 110 [(0, rf 252), (1, iv x1), (2, .long u2), (4, iv x4), (5, iv x5), (6, iv x6), (7, iv x90)] [iv y73] s73 Q
                    refine i_pop r_268_110 (n_268_110 _) rfl ?_
                    refine i_aload_n (a := 252) r_268_111 (n_268_111 _) rfl ?_
                    refine i_iload (x := x6) r_268_112 (n_268_112 _) rfl ?_
                    refine wp_virt (b := 252) (rest := []) (Ls := [(0, rf 252), (1, iv x6)]) r_268_114 (n_268_114 _) rfl ⟨rfl, rfl, by decide, by decide⟩ rfl rfl lf_252 ⟨rfl, Nat.le_of_ble_eq_true rfl, Nat.le_of_ble_eq_true rfl⟩ rfl h ?_
                    intro o75 s75 h
                    rcases h with ⟨y75, q76, rfl, h⟩ | ⟨e75, rfl, h⟩
                    · refine .inl ⟨some (iv y75), rfl, ?_⟩
                      show wp S 268 117 [(0, rf 252), (1, iv x1), (2, .long u2), (4, iv x4), (5, iv x5), (6, iv x6), (7, iv x90)] [iv y75] s75 Q
                      exact i_ireturn r_268_117 (n_268_117 _) rfl h
                    · skip
                      exact h.elim
                  · skip
                    exact h.elim
                · skip
                  exact h.elim
              · skip
                exact h.elim
            · skip
              exact h.elim
          · skip
            exact h.elim
        · skip
          exact h.elim
      · replace h := h.2 c62
        refine i_iconst r_268_71 (n_268_71 _) ?_
        exact i_ireturn r_268_72 (n_268_72 _) rfl h
    · skip
      exact h.elim
theorem r_269_0 : xfetch 269 0 = some (.iload_n 0, 1) := by decide +kernel
theorem n_269_0 : ∀ l, xpr 269 0 l = l := xpr_no (by decide +kernel)
theorem r_269_1 : xfetch 269 1 = some (.bipush 16, 2) := by decide +kernel
theorem n_269_1 : ∀ l, xpr 269 1 l = l := xpr_no (by decide +kernel)
theorem r_269_3 : xfetch 269 3 = some (.if_icmp .eq 15, 3) := by decide +kernel
theorem n_269_3 : ∀ l, xpr 269 3 l = l := xpr_no (by decide +kernel)
theorem r_269_6 : xfetch 269 6 = some (.iload_n 0, 1) := by decide +kernel
theorem n_269_6 : ∀ l, xpr 269 6 l = l := xpr_no (by decide +kernel)
theorem r_269_7 : xfetch 269 7 = some (.bipush 32, 2) := by decide +kernel
theorem n_269_7 : ∀ l, xpr 269 7 l = l := xpr_no (by decide +kernel)
theorem r_269_9 : xfetch 269 9 = some (.if_icmp .eq 9, 3) := by decide +kernel
theorem n_269_9 : ∀ l, xpr 269 9 l = l := xpr_no (by decide +kernel)
theorem r_269_12 : xfetch 269 12 = some (.iload_n 0, 1) := by decide +kernel
theorem n_269_12 : ∀ l, xpr 269 12 l = l := xpr_no (by decide +kernel)
theorem r_269_13 : xfetch 269 13 = some (.bipush 64, 2) := by decide +kernel
theorem n_269_13 : ∀ l, xpr 269 13 l = l := xpr_no (by decide +kernel)
theorem r_269_15 : xfetch 269 15 = some (.if_icmp .ne 7, 3) := by decide +kernel
theorem n_269_15 : ∀ l, xpr 269 15 l = l := xpr_no (by decide +kernel)
theorem r_269_18 : xfetch 269 18 = some (.iconst 1, 1) := by decide +kernel
theorem n_269_18 : ∀ l, xpr 269 18 l = l := xpr_no (by decide +kernel)
theorem r_269_19 : xfetch 269 19 = some (.goto 4, 3) := by decide +kernel
theorem n_269_19 : ∀ l, xpr 269 19 l = l := xpr_no (by decide +kernel)
theorem r_269_22 : xfetch 269 22 = some (.iconst 0, 1) := by decide +kernel
theorem n_269_22 : ∀ l, xpr 269 22 l = l := xpr_no (by decide +kernel)
theorem r_269_23 : xfetch 269 23 = some (.ireturn, 1) := by decide +kernel
theorem n_269_23 : ∀ l, xpr 269 23 l = l := xpr_no (by decide +kernel)
theorem v_Model_isLine_0 {S : Option (Nat × (Nat → Int32))} {s : zSt} {Q : Option Value ⊕ Nat → zSt → Prop} {x0 : Int} 
    (h : rng x0 ∧ ((x0 = 16 → Q (rI 1) s) ∧ (x0 ≠ 16 → (x0 = 32 → Q (rI 1) s) ∧ (x0 ≠ 32 → (x0 ≠ 64 → Q (rI 0) s) ∧ (x0 = 64 → Q (rI 1) s))))) :
    wp S 269 0 [(0, iv x0)] [] s Q := by
  refine i_iload_n (x := x0) r_269_0 (n_269_0 _) rfl ?_
  refine i_bipush r_269_1 (n_269_1 _) rfl ?_
  obtain ⟨g1, h⟩ := h
  refine i_icmp (t := 18) r_269_3 (n_269_3 _) rfl (T_eq g1 ⟨by omega, by omega⟩) (fun c2 => ?_) (fun c2 => ?_)
  · replace h := h.1 c2
    refine i_iconst r_269_18 (n_269_18 _) ?_
    refine i_goto (t := 23) r_269_19 (n_269_19 _) rfl ?_
    exact i_zreturn r_269_23 (n_269_23 _) rfl (by decide) h
  · replace h := h.2 c2
    refine i_iload_n (x := x0) r_269_6 (n_269_6 _) rfl ?_
    refine i_bipush r_269_7 (n_269_7 _) rfl ?_
    refine i_icmp (t := 18) r_269_9 (n_269_9 _) rfl (T_eq g1 ⟨by omega, by omega⟩) (fun c3 => ?_) (fun c3 => ?_)
    · replace h := h.1 c3
      refine i_iconst r_269_18 (n_269_18 _) ?_
      refine i_goto (t := 23) r_269_19 (n_269_19 _) rfl ?_
      exact i_zreturn r_269_23 (n_269_23 _) rfl (by decide) h
    · replace h := h.2 c3
      refine i_iload_n (x := x0) r_269_12 (n_269_12 _) rfl ?_
      refine i_bipush r_269_13 (n_269_13 _) rfl ?_
      refine i_icmp (t := 22) r_269_15 (n_269_15 _) rfl (T_ne g1 ⟨by omega, by omega⟩) (fun c4 => ?_) (fun c4 => ?_)
      · replace h := h.1 c4
        refine i_iconst r_269_22 (n_269_22 _) ?_
        exact i_zreturn r_269_23 (n_269_23 _) rfl (by decide) h
      · replace h := h.2 c4
        refine i_iconst r_269_18 (n_269_18 _) ?_
        refine i_goto (t := 23) r_269_19 (n_269_19 _) rfl ?_
        exact i_zreturn r_269_23 (n_269_23 _) rfl (by decide) h
theorem r_270_0 : xfetch 270 0 = some (.iconst 0, 1) := by decide +kernel
theorem n_270_0 : ∀ l, xpr 270 0 l = l := xpr_no (by decide +kernel)
theorem r_270_1 : xfetch 270 1 = some (.istore 9, 2) := by decide +kernel
theorem n_270_1 : ∀ l, xpr 270 1 l = l := xpr_no (by decide +kernel)
theorem r_270_3 : xfetch 270 3 = some (.iload 9, 2) := by decide +kernel
theorem r_270_5 : xfetch 270 5 = some (.sipush 8192, 3) := by decide +kernel
theorem n_270_5 : ∀ l, xpr 270 5 l = l := xpr_no (by decide +kernel)
theorem r_270_8 : xfetch 270 8 = some (.if_icmp .ge 17, 3) := by decide +kernel
theorem n_270_8 : ∀ l, xpr 270 8 l = l := xpr_no (by decide +kernel)
theorem r_270_11 : xfetch 270 11 = some (.aload_n 0, 1) := by decide +kernel
theorem n_270_11 : ∀ l, xpr 270 11 l = l := xpr_no (by decide +kernel)
theorem r_270_12 : xfetch 270 12 = some (.getfield 74, 3) := by decide +kernel
theorem n_270_12 : ∀ l, xpr 270 12 l = l := xpr_no (by decide +kernel)
theorem r_270_15 : xfetch 270 15 = some (.iload 9, 2) := by decide +kernel
theorem n_270_15 : ∀ l, xpr 270 15 l = l := xpr_no (by decide +kernel)
theorem r_270_17 : xfetch 270 17 = some (.iconst 0, 1) := by decide +kernel
theorem n_270_17 : ∀ l, xpr 270 17 l = l := xpr_no (by decide +kernel)
theorem r_270_18 : xfetch 270 18 = some (.iastore, 1) := by decide +kernel
theorem n_270_18 : ∀ l, xpr 270 18 l = l := xpr_no (by decide +kernel)
theorem r_270_19 : xfetch 270 19 = some (.iinc 9 1, 3) := by decide +kernel
theorem n_270_19 : ∀ l, xpr 270 19 l = l := xpr_no (by decide +kernel)
theorem r_270_22 : xfetch 270 22 = some (.goto (-19), 3) := by decide +kernel
theorem n_270_22 : ∀ l, xpr 270 22 l = l := xpr_no (by decide +kernel)
theorem r_270_25 : xfetch 270 25 = some (.iload 7, 2) := by decide +kernel
theorem n_270_25 : ∀ l, xpr 270 25 l = l := xpr_no (by decide +kernel)
theorem r_270_27 : xfetch 270 27 = some (.istore 9, 2) := by decide +kernel
theorem n_270_27 : ∀ l, xpr 270 27 l = l := xpr_no (by decide +kernel)
theorem r_270_29 : xfetch 270 29 = some (.iload 9, 2) := by decide +kernel
theorem r_270_31 : xfetch 270 31 = some (.iload 8, 2) := by decide +kernel
theorem n_270_31 : ∀ l, xpr 270 31 l = l := xpr_no (by decide +kernel)
theorem r_270_33 : xfetch 270 33 = some (.if_icmp .gt 97, 3) := by decide +kernel
theorem n_270_33 : ∀ l, xpr 270 33 l = l := xpr_no (by decide +kernel)
theorem r_270_36 : xfetch 270 36 = some (.iconst 0, 1) := by decide +kernel
theorem n_270_36 : ∀ l, xpr 270 36 l = l := xpr_no (by decide +kernel)
theorem r_270_37 : xfetch 270 37 = some (.istore 10, 2) := by decide +kernel
theorem n_270_37 : ∀ l, xpr 270 37 l = l := xpr_no (by decide +kernel)
theorem r_270_39 : xfetch 270 39 = some (.iload 10, 2) := by decide +kernel
theorem r_270_41 : xfetch 270 41 = some (.aload_n 0, 1) := by decide +kernel
theorem n_270_41 : ∀ l, xpr 270 41 l = l := xpr_no (by decide +kernel)
theorem r_270_42 : xfetch 270 42 = some (.getfield 19, 3) := by decide +kernel
theorem n_270_42 : ∀ l, xpr 270 42 l = l := xpr_no (by decide +kernel)
theorem r_270_45 : xfetch 270 45 = some (.iload_n 1, 1) := by decide +kernel
theorem n_270_45 : ∀ l, xpr 270 45 l = l := xpr_no (by decide +kernel)
theorem r_270_46 : xfetch 270 46 = some (.iaload, 1) := by decide +kernel
theorem n_270_46 : ∀ l, xpr 270 46 l = l := xpr_no (by decide +kernel)
theorem r_270_47 : xfetch 270 47 = some (.if_icmp .ge 77, 3) := by decide +kernel
theorem n_270_47 : ∀ l, xpr 270 47 l = l := xpr_no (by decide +kernel)
theorem r_270_50 : xfetch 270 50 = some (.lload 5, 2) := by decide +kernel
theorem n_270_50 : ∀ l, xpr 270 50 l = l := xpr_no (by decide +kernel)
theorem r_270_52 : xfetch 270 52 = some (.iload 10, 2) := by decide +kernel
theorem n_270_52 : ∀ l, xpr 270 52 l = l := xpr_no (by decide +kernel)
theorem r_270_54 : xfetch 270 54 = some (.lshr, 1) := by decide +kernel
theorem n_270_54 : ∀ l, xpr 270 54 l = l := xpr_no (by decide +kernel)
theorem r_270_55 : xfetch 270 55 = some (.lconst 1, 1) := by decide +kernel
theorem n_270_55 : ∀ l, xpr 270 55 l = l := xpr_no (by decide +kernel)
theorem r_270_56 : xfetch 270 56 = some (.land, 1) := by decide +kernel
theorem n_270_56 : ∀ l, xpr 270 56 l = l := xpr_no (by decide +kernel)
theorem r_270_57 : xfetch 270 57 = some (.lconst 1, 1) := by decide +kernel
theorem n_270_57 : ∀ l, xpr 270 57 l = l := xpr_no (by decide +kernel)
theorem r_270_58 : xfetch 270 58 = some (.lcmp, 1) := by decide +kernel
theorem n_270_58 : ∀ l, xpr 270 58 l = l := xpr_no (by decide +kernel)
theorem r_270_59 : xfetch 270 59 = some (.ifCond .ne 59, 3) := by decide +kernel
theorem n_270_59 : ∀ l, xpr 270 59 l = l := xpr_no (by decide +kernel)
theorem r_270_62 : xfetch 270 62 = some (.iload 4, 2) := by decide +kernel
theorem n_270_62 : ∀ l, xpr 270 62 l = l := xpr_no (by decide +kernel)
theorem r_270_64 : xfetch 270 64 = some (.aload_n 0, 1) := by decide +kernel
theorem n_270_64 : ∀ l, xpr 270 64 l = l := xpr_no (by decide +kernel)
theorem r_270_65 : xfetch 270 65 = some (.iload_n 1, 1) := by decide +kernel
theorem n_270_65 : ∀ l, xpr 270 65 l = l := xpr_no (by decide +kernel)
theorem r_270_66 : xfetch 270 66 = some (.iload_n 2, 1) := by decide +kernel
theorem n_270_66 : ∀ l, xpr 270 66 l = l := xpr_no (by decide +kernel)
theorem r_270_67 : xfetch 270 67 = some (.iload_n 3, 1) := by decide +kernel
theorem n_270_67 : ∀ l, xpr 270 67 l = l := xpr_no (by decide +kernel)
theorem r_270_68 : xfetch 270 68 = some (.iload 9, 2) := by decide +kernel
theorem n_270_68 : ∀ l, xpr 270 68 l = l := xpr_no (by decide +kernel)
theorem r_270_70 : xfetch 270 70 = some (.iload 10, 2) := by decide +kernel
theorem n_270_70 : ∀ l, xpr 270 70 l = l := xpr_no (by decide +kernel)
theorem r_270_72 : xfetch 270 72 = some (.invokevirtual 250, 3) := by decide +kernel
theorem n_270_72 : ∀ l, xpr 270 72 l = l := xpr_no (by decide +kernel)
theorem r_270_75 : xfetch 270 75 = some (.iadd, 1) := by decide +kernel
theorem n_270_75 : ∀ l, xpr 270 75 l = l := xpr_no (by decide +kernel)
theorem r_270_76 : xfetch 270 76 = some (.istore 11, 2) := by decide +kernel
theorem n_270_76 : ∀ l, xpr 270 76 l = l := xpr_no (by decide +kernel)
theorem r_270_78 : xfetch 270 78 = some (.iconst 0, 1) := by decide +kernel
theorem n_270_78 : ∀ l, xpr 270 78 l = l := xpr_no (by decide +kernel)
theorem r_270_79 : xfetch 270 79 = some (.istore 12, 2) := by decide +kernel
theorem n_270_79 : ∀ l, xpr 270 79 l = l := xpr_no (by decide +kernel)
theorem r_270_81 : xfetch 270 81 = some (.iload 12, 2) := by decide +kernel
theorem r_270_83 : xfetch 270 83 = some (.aload_n 0, 1) := by decide +kernel
theorem n_270_83 : ∀ l, xpr 270 83 l = l := xpr_no (by decide +kernel)
theorem r_270_84 : xfetch 270 84 = some (.getfield 28, 3) := by decide +kernel
theorem n_270_84 : ∀ l, xpr 270 84 l = l := xpr_no (by decide +kernel)
theorem r_270_87 : xfetch 270 87 = some (.bipush 40, 2) := by decide +kernel
theorem n_270_87 : ∀ l, xpr 270 87 l = l := xpr_no (by decide +kernel)
theorem r_270_89 : xfetch 270 89 = some (.iload_n 1, 1) := by decide +kernel
theorem n_270_89 : ∀ l, xpr 270 89 l = l := xpr_no (by decide +kernel)
theorem r_270_90 : xfetch 270 90 = some (.imul, 1) := by decide +kernel
theorem n_270_90 : ∀ l, xpr 270 90 l = l := xpr_no (by decide +kernel)
theorem r_270_91 : xfetch 270 91 = some (.iload 10, 2) := by decide +kernel
theorem n_270_91 : ∀ l, xpr 270 91 l = l := xpr_no (by decide +kernel)
theorem r_270_93 : xfetch 270 93 = some (.iadd, 1) := by decide +kernel
theorem n_270_93 : ∀ l, xpr 270 93 l = l := xpr_no (by decide +kernel)
theorem r_270_94 : xfetch 270 94 = some (.iaload, 1) := by decide +kernel
theorem n_270_94 : ∀ l, xpr 270 94 l = l := xpr_no (by decide +kernel)
theorem r_270_95 : xfetch 270 95 = some (.invokestatic 96, 3) := by decide +kernel
theorem n_270_95 : ∀ l, xpr 270 95 l = l := xpr_no (by decide +kernel)
theorem r_270_98 : xfetch 270 98 = some (.if_icmp .ge 20, 3) := by decide +kernel
theorem n_270_98 : ∀ l, xpr 270 98 l = l := xpr_no (by decide +kernel)
theorem r_270_101 : xfetch 270 101 = some (.aload_n 0, 1) := by decide +kernel
theorem n_270_101 : ∀ l, xpr 270 101 l = l := xpr_no (by decide +kernel)
theorem r_270_102 : xfetch 270 102 = some (.getfield 74, 3) := by decide +kernel
theorem n_270_102 : ∀ l, xpr 270 102 l = l := xpr_no (by decide +kernel)
theorem r_270_105 : xfetch 270 105 = some (.iload 11, 2) := by decide +kernel
theorem n_270_105 : ∀ l, xpr 270 105 l = l := xpr_no (by decide +kernel)
theorem r_270_107 : xfetch 270 107 = some (.iload 12, 2) := by decide +kernel
theorem n_270_107 : ∀ l, xpr 270 107 l = l := xpr_no (by decide +kernel)
theorem r_270_109 : xfetch 270 109 = some (.iadd, 1) := by decide +kernel
theorem n_270_109 : ∀ l, xpr 270 109 l = l := xpr_no (by decide +kernel)
theorem r_270_110 : xfetch 270 110 = some (.iconst 1, 1) := by decide +kernel
theorem n_270_110 : ∀ l, xpr 270 110 l = l := xpr_no (by decide +kernel)
theorem r_270_111 : xfetch 270 111 = some (.iastore, 1) := by decide +kernel
theorem n_270_111 : ∀ l, xpr 270 111 l = l := xpr_no (by decide +kernel)
theorem r_270_112 : xfetch 270 112 = some (.iinc 12 1, 3) := by decide +kernel
theorem n_270_112 : ∀ l, xpr 270 112 l = l := xpr_no (by decide +kernel)
theorem r_270_115 : xfetch 270 115 = some (.goto (-34), 3) := by decide +kernel
theorem n_270_115 : ∀ l, xpr 270 115 l = l := xpr_no (by decide +kernel)
theorem r_270_118 : xfetch 270 118 = some (.iinc 10 1, 3) := by decide +kernel
theorem n_270_118 : ∀ l, xpr 270 118 l = l := xpr_no (by decide +kernel)
theorem r_270_121 : xfetch 270 121 = some (.goto (-82), 3) := by decide +kernel
theorem n_270_121 : ∀ l, xpr 270 121 l = l := xpr_no (by decide +kernel)
theorem r_270_124 : xfetch 270 124 = some (.iinc 9 1, 3) := by decide +kernel
theorem n_270_124 : ∀ l, xpr 270 124 l = l := xpr_no (by decide +kernel)
theorem r_270_127 : xfetch 270 127 = some (.goto (-98), 3) := by decide +kernel
theorem n_270_127 : ∀ l, xpr 270 127 l = l := xpr_no (by decide +kernel)
theorem r_270_130 : xfetch 270 130 = some (.sipush 8192, 3) := by decide +kernel
theorem n_270_130 : ∀ l, xpr 270 130 l = l := xpr_no (by decide +kernel)
theorem r_270_133 : xfetch 270 133 = some (.ireturn, 1) := by decide +kernel
theorem n_270_133 : ∀ l, xpr 270 133 l = l := xpr_no (by decide +kernel)
theorem v_Model_marksScan_0 {S : Option (Nat × (Nat → Int32))} {s : zSt} {Q : Option Value ⊕ Nat → zSt → Prop} {x1 : Int} {x2 : Int} {x3 : Int} {x4 : Int} {u5 : Int64} {x7 : Int} {x8 : Int} 
    (h : wp S 270 3 [(0, rf 252), (1, iv x1), (2, iv x2), (3, iv x3), (4, iv x4), (5, .long u5), (7, iv x7), (8, iv x8), (9, iv 0)] [] s Q) :
    wp S 270 0 [(0, rf 252), (1, iv x1), (2, iv x2), (3, iv x3), (4, iv x4), (5, .long u5), (7, iv x7), (8, iv x8)] [] s Q := by
  refine i_iconst r_270_0 (n_270_0 _) ?_
  refine i_istore (l' := [(0, rf 252), (1, iv x1), (2, iv x2), (3, iv x3), (4, iv x4), (5, .long u5), (7, iv x7), (8, iv x8), (9, iv 0)]) r_270_1 (n_270_1 _) (by decide) rfl ?_
  exact wp_pr (l' := [(0, rf 252), (1, iv x1), (2, iv x2), (3, iv x3), (4, iv x4), (5, .long u5), (7, iv x7), (8, iv x8), (9, iv 0)]) rfl h
theorem v_Model_marksScan_3 {S : Option (Nat × (Nat → Int32))} {s : zSt} {Q : Option Value ⊕ Nat → zSt → Prop} {x1 : Int} {x2 : Int} {x3 : Int} {x4 : Int} {u5 : Int64} {x7 : Int} {x8 : Int} {x9 : Int} 
    (h : rng x9 ∧ ((8192 ≤ x9 → wp S 270 29 [(0, rf 252), (1, iv x1), (2, iv x2), (3, iv x3), (4, iv x4), (5, .long u5), (8, iv x8), (9, iv x7)] [] s Q) ∧ (x9 < 8192 → (0 ≤ x9 ∧ x9 < 8192) ∧ (wp S 270 3 [(0, rf 252), (1, iv x1), (2, iv x2), (3, iv x3), (4, iv x4), (5, .long u5), (7, iv x7), (8, iv x8), (9, iv (x9 + 1))] [] (zwI s 274 x9 0) Q)))) :
    wp S 270 3 [(0, rf 252), (1, iv x1), (2, iv x2), (3, iv x3), (4, iv x4), (5, .long u5), (7, iv x7), (8, iv x8), (9, iv x9)] [] s Q := by
  refine i_iload (x := x9) r_270_3 rfl rfl ?_
  refine i_sipush r_270_5 (n_270_5 _) rfl ?_
  obtain ⟨g1, h⟩ := h
  refine i_icmp (t := 25) r_270_8 (n_270_8 _) rfl (T_ge g1 ⟨by omega, by omega⟩) (fun c2 => ?_) (fun c2 => ?_)
  · replace h := h.1 c2
    refine i_iload (x := x7) r_270_25 (n_270_25 _) rfl ?_
    refine i_istore (l' := [(0, rf 252), (1, iv x1), (2, iv x2), (3, iv x3), (4, iv x4), (5, .long u5), (7, iv x7), (8, iv x8), (9, iv x7)]) r_270_27 (n_270_27 _) (by decide) rfl ?_
    exact wp_pr (l' := [(0, rf 252), (1, iv x1), (2, iv x2), (3, iv x3), (4, iv x4), (5, .long u5), (8, iv x8), (9, iv x7)]) rfl h
  · replace h := h.2 c2
    refine i_aload_n (a := 252) r_270_11 (n_270_11 _) rfl ?_
    refine i_getR (a := 252) (b := 274) r_270_12 (n_270_12 _) rfl rfl rfl (by omega) lf_252 (by omega) ?_
    refine i_iload (x := x9) r_270_15 (n_270_15 _) rfl ?_
    refine i_iconst r_270_17 (n_270_17 _) ?_
    obtain ⟨g3, h⟩ := h
    refine i_iastore (a := 274) (j := x9) (x := 0) r_270_18 (n_270_18 _) lf_274 ⟨by omega, by omega⟩ (by omega) (by omega) ⟨by omega, by omega⟩ ?_
    refine i_iinc (x := x9) (l' := [(0, rf 252), (1, iv x1), (2, iv x2), (3, iv x3), (4, iv x4), (5, .long u5), (7, iv x7), (8, iv x8), (9, iv (x9 + 1))]) r_270_19 (n_270_19 _) (by decide) rfl rfl ?_
    refine i_goto (t := 3) r_270_22 (n_270_22 _) rfl ?_
    exact wp_pr (l' := [(0, rf 252), (1, iv x1), (2, iv x2), (3, iv x3), (4, iv x4), (5, .long u5), (7, iv x7), (8, iv x8), (9, iv (x9 + 1))]) rfl h
theorem v_Model_marksScan_29 {S : Option (Nat × (Nat → Int32))} {s : zSt} {Q : Option Value ⊕ Nat → zSt → Prop} {x1 : Int} {x2 : Int} {x3 : Int} {x4 : Int} {u5 : Int64} {x8 : Int} {x9 : Int} 
    (h : rng x9 ∧ (rng x8 ∧ ((x8 < x9 → Q (rI 8192) s) ∧ (x9 ≤ x8 → wp S 270 39 [(0, rf 252), (1, iv x1), (2, iv x2), (3, iv x3), (4, iv x4), (5, .long u5), (8, iv x8), (9, iv x9), (10, iv 0)] [] s Q)))) :
    wp S 270 29 [(0, rf 252), (1, iv x1), (2, iv x2), (3, iv x3), (4, iv x4), (5, .long u5), (8, iv x8), (9, iv x9)] [] s Q := by
  refine i_iload (x := x9) r_270_29 rfl rfl ?_
  refine i_iload (x := x8) r_270_31 (n_270_31 _) rfl ?_
  obtain ⟨g1, h⟩ := h
  obtain ⟨g2, h⟩ := h
  refine i_icmp (t := 130) r_270_33 (n_270_33 _) rfl (T_gt g1 g2) (fun c3 => ?_) (fun c3 => ?_)
  · replace h := h.1 c3
    refine i_sipush r_270_130 (n_270_130 _) rfl ?_
    exact i_ireturn r_270_133 (n_270_133 _) rfl h
  · replace h := h.2 c3
    refine i_iconst r_270_36 (n_270_36 _) ?_
    refine i_istore (l' := [(0, rf 252), (1, iv x1), (2, iv x2), (3, iv x3), (4, iv x4), (5, .long u5), (8, iv x8), (9, iv x9), (10, iv 0)]) r_270_37 (n_270_37 _) (by decide) rfl ?_
    exact wp_pr (l' := [(0, rf 252), (1, iv x1), (2, iv x2), (3, iv x3), (4, iv x4), (5, .long u5), (8, iv x8), (9, iv x9), (10, iv 0)]) rfl h
theorem v_Model_marksScan_39 {S : Option (Nat × (Nat → Int32))} {s : zSt} {Q : Option Value ⊕ Nat → zSt → Prop} {x1 : Int} {x2 : Int} {x3 : Int} {x4 : Int} {u5 : Int64} {x8 : Int} {x9 : Int} {x10 : Int} 
    (h : (0 ≤ x1 ∧ x1 < 6) ∧ (rng x10 ∧ (((zI s 256 x1) ≤ x10 → wp S 270 29 [(0, rf 252), (1, iv x1), (2, iv x2), (3, iv x3), (4, iv x4), (5, .long u5), (8, iv x8), (9, iv (x9 + 1))] [] s Q) ∧ (x10 < (zI s 256 x1) → ((zcmp ((zshrL u5 x10) &&& 1) 1) ≠ 0 → wp S 270 39 [(0, rf 252), (1, iv x1), (2, iv x2), (3, iv x3), (4, iv x4), (5, .long u5), (8, iv x8), (9, iv x9), (10, iv (x10 + 1))] [] s Q) ∧ ((zcmp ((zshrL u5 x10) &&& 1) 1) = 0 → wp S 246 0 [(0, rf 252), (1, iv x1), (2, iv x2), (3, iv x3), (4, iv x9), (5, iv x10)] [] s (fun o6 s6 => zkI (fun y6 => wp S 270 81 [(0, rf 252), (1, iv x1), (2, iv x2), (3, iv x3), (4, iv x4), (5, .long u5), (8, iv x8), (9, iv x9), (10, iv x10), (11, iv (x4 + y6)), (12, iv 0)] [] s6 Q) (fun e6 => False) o6)))))) :
    wp S 270 39 [(0, rf 252), (1, iv x1), (2, iv x2), (3, iv x3), (4, iv x4), (5, .long u5), (8, iv x8), (9, iv x9), (10, iv x10)] [] s Q := by
  refine i_iload (x := x10) r_270_39 rfl rfl ?_
  refine i_aload_n (a := 252) r_270_41 (n_270_41 _) rfl ?_
  refine i_getR (a := 252) (b := 256) r_270_42 (n_270_42 _) rfl rfl rfl (by omega) lf_252 (by omega) ?_
  refine i_iload_n (x := x1) r_270_45 (n_270_45 _) rfl ?_
  obtain ⟨g1, h⟩ := h
  refine i_iaload (a := 256) (j := x1) r_270_46 (n_270_46 _) lf_256 ⟨by omega, by omega⟩ (by omega) (by omega) (fun q2 => ?_)
  obtain ⟨g3, h⟩ := h
  refine i_icmp (t := 124) r_270_47 (n_270_47 _) rfl (T_ge g3 q2) (fun c4 => ?_) (fun c4 => ?_)
  · replace h := h.1 c4
    refine i_iinc (x := x9) (l' := [(0, rf 252), (1, iv x1), (2, iv x2), (3, iv x3), (4, iv x4), (5, .long u5), (8, iv x8), (9, iv (x9 + 1)), (10, iv x10)]) r_270_124 (n_270_124 _) (by decide) rfl rfl ?_
    refine i_goto (t := 29) r_270_127 (n_270_127 _) rfl ?_
    exact wp_pr (l' := [(0, rf 252), (1, iv x1), (2, iv x2), (3, iv x3), (4, iv x4), (5, .long u5), (8, iv x8), (9, iv (x9 + 1))]) rfl h
  · replace h := h.2 c4
    refine i_lload (u := u5) r_270_50 (n_270_50 _) rfl ?_
    refine i_iload (x := x10) r_270_52 (n_270_52 _) rfl ?_
    refine i_lshr r_270_54 (n_270_54 _) ?_
    refine i_lconst r_270_55 (n_270_55 _) ?_
    refine i_land r_270_56 (n_270_56 _) ?_
    refine i_lconst r_270_57 (n_270_57 _) ?_
    refine i_lcmp r_270_58 (n_270_58 _) ?_
    refine i_if (t := 118) r_270_59 (n_270_59 _) rfl (T_ne (zcmp_rng _ _) ⟨by omega, by omega⟩) (fun c5 => ?_) (fun c5 => ?_)
    · replace h := h.1 c5
      refine i_iinc (x := x10) (l' := [(0, rf 252), (1, iv x1), (2, iv x2), (3, iv x3), (4, iv x4), (5, .long u5), (8, iv x8), (9, iv x9), (10, iv (x10 + 1))]) r_270_118 (n_270_118 _) (by decide) rfl rfl ?_
      refine i_goto (t := 39) r_270_121 (n_270_121 _) rfl ?_
      exact wp_pr (l' := [(0, rf 252), (1, iv x1), (2, iv x2), (3, iv x3), (4, iv x4), (5, .long u5), (8, iv x8), (9, iv x9), (10, iv (x10 + 1))]) rfl h
    · replace h := h.2 c5
      refine i_iload (x := x4) r_270_62 (n_270_62 _) rfl ?_
      refine i_aload_n (a := 252) r_270_64 (n_270_64 _) rfl ?_
      refine i_iload_n (x := x1) r_270_65 (n_270_65 _) rfl ?_
      refine i_iload_n (x := x2) r_270_66 (n_270_66 _) rfl ?_
      refine i_iload_n (x := x3) r_270_67 (n_270_67 _) rfl ?_
      refine i_iload (x := x9) r_270_68 (n_270_68 _) rfl ?_
      refine i_iload (x := x10) r_270_70 (n_270_70 _) rfl ?_
      refine wp_virt (b := 252) (rest := [iv x4]) (Ls := [(0, rf 252), (1, iv x1), (2, iv x2), (3, iv x3), (4, iv x9), (5, iv x10)]) r_270_72 (n_270_72 _) rfl ⟨rfl, rfl, by decide, by decide⟩ rfl rfl lf_252 ⟨rfl, Nat.le_of_ble_eq_true rfl, Nat.le_of_ble_eq_true rfl⟩ rfl h ?_
      intro o6 s6 h
      rcases h with ⟨y6, q7, rfl, h⟩ | ⟨e6, rfl, h⟩
      · refine .inl ⟨some (iv y6), rfl, ?_⟩
        show wp S 270 75 [(0, rf 252), (1, iv x1), (2, iv x2), (3, iv x3), (4, iv x4), (5, .long u5), (8, iv x8), (9, iv x9), (10, iv x10)] [iv y6, iv x4] s6 Q
        refine i_iadd r_270_75 (n_270_75 _) ?_
        refine i_istore (l' := [(0, rf 252), (1, iv x1), (2, iv x2), (3, iv x3), (4, iv x4), (5, .long u5), (8, iv x8), (9, iv x9), (10, iv x10), (11, iv (x4 + y6))]) r_270_76 (n_270_76 _) (by decide) rfl ?_
        refine i_iconst r_270_78 (n_270_78 _) ?_
        refine i_istore (l' := [(0, rf 252), (1, iv x1), (2, iv x2), (3, iv x3), (4, iv x4), (5, .long u5), (8, iv x8), (9, iv x9), (10, iv x10), (11, iv (x4 + y6)), (12, iv 0)]) r_270_79 (n_270_79 _) (by decide) rfl ?_
        exact wp_pr (l' := [(0, rf 252), (1, iv x1), (2, iv x2), (3, iv x3), (4, iv x4), (5, .long u5), (8, iv x8), (9, iv x9), (10, iv x10), (11, iv (x4 + y6)), (12, iv 0)]) rfl h
      · skip
        exact h.elim
theorem v_Model_marksScan_81 {S : Option (Nat × (Nat → Int32))} {s : zSt} {Q : Option Value ⊕ Nat → zSt → Prop} {x1 : Int} {x2 : Int} {x3 : Int} {x4 : Int} {u5 : Int64} {x8 : Int} {x9 : Int} {x10 : Int} {x11 : Int} {x12 : Int} 
    (h : (0 ≤ ((40 * x1) + x10) ∧ ((40 * x1) + x10) < 240) ∧ (wp S 197 0 [(0, iv (zI s 259 ((40 * x1) + x10)))] [] s (fun o3 s3 => zkI (fun y3 => rng x12 ∧ ((y3 ≤ x12 → wp S 270 39 [(0, rf 252), (1, iv x1), (2, iv x2), (3, iv x3), (4, iv x4), (5, .long u5), (8, iv x8), (9, iv x9), (10, iv (x10 + 1))] [] s3 Q) ∧ (x12 < y3 → (0 ≤ (x11 + x12) ∧ (x11 + x12) < 8192) ∧ (wp S 270 81 [(0, rf 252), (1, iv x1), (2, iv x2), (3, iv x3), (4, iv x4), (5, .long u5), (8, iv x8), (9, iv x9), (10, iv x10), (11, iv x11), (12, iv (x12 + 1))] [] (zwI s3 274 (x11 + x12) 1) Q)))) (fun e3 => False) o3))) :
    wp S 270 81 [(0, rf 252), (1, iv x1), (2, iv x2), (3, iv x3), (4, iv x4), (5, .long u5), (8, iv x8), (9, iv x9), (10, iv x10), (11, iv x11), (12, iv x12)] [] s Q := by
  refine i_iload (x := x12) r_270_81 rfl rfl ?_
  refine i_aload_n (a := 252) r_270_83 (n_270_83 _) rfl ?_
  refine i_getR (a := 252) (b := 259) r_270_84 (n_270_84 _) rfl rfl rfl (by omega) lf_252 (by omega) ?_
  refine i_bipush r_270_87 (n_270_87 _) rfl ?_
  refine i_iload_n (x := x1) r_270_89 (n_270_89 _) rfl ?_
  refine i_imul r_270_90 (n_270_90 _) ?_
  refine i_iload (x := x10) r_270_91 (n_270_91 _) rfl ?_
  refine i_iadd r_270_93 (n_270_93 _) ?_
  obtain ⟨g1, h⟩ := h
  refine i_iaload (a := 259) (j := (40 * x1) + x10) r_270_94 (n_270_94 _) lf_259 ⟨by omega, by omega⟩ (by omega) (by omega) (fun q2 => ?_)
  refine wp_stat (rest := [iv x12]) (Ls := [(0, iv (zI s 259 ((40 * x1) + x10)))]) r_270_95 (n_270_95 _) rfl ⟨rfl, by decide, by decide, by decide⟩ rfl rfl ⟨rfl, Nat.le_of_ble_eq_true rfl, Nat.le_of_ble_eq_true rfl⟩ rfl h ?_
  intro o3 s3 h
  rcases h with ⟨y3, q4, rfl, h⟩ | ⟨e3, rfl, h⟩
  · refine .inl ⟨some (iv y3), rfl, ?_⟩
    show wp S 270 98 [(0, rf 252), (1, iv x1), (2, iv x2), (3, iv x3), (4, iv x4), (5, .long u5), (8, iv x8), (9, iv x9), (10, iv x10), (11, iv x11), (12, iv x12)] [iv y3, iv x12] s3 Q
    obtain ⟨g5, h⟩ := h
    refine i_icmp (t := 118) r_270_98 (n_270_98 _) rfl (T_ge g5 q4) (fun c6 => ?_) (fun c6 => ?_)
    · replace h := h.1 c6
      refine i_iinc (x := x10) (l' := [(0, rf 252), (1, iv x1), (2, iv x2), (3, iv x3), (4, iv x4), (5, .long u5), (8, iv x8), (9, iv x9), (10, iv (x10 + 1)), (11, iv x11), (12, iv x12)]) r_270_118 (n_270_118 _) (by decide) rfl rfl ?_
      refine i_goto (t := 39) r_270_121 (n_270_121 _) rfl ?_
      exact wp_pr (l' := [(0, rf 252), (1, iv x1), (2, iv x2), (3, iv x3), (4, iv x4), (5, .long u5), (8, iv x8), (9, iv x9), (10, iv (x10 + 1))]) rfl h
    · replace h := h.2 c6
      refine i_aload_n (a := 252) r_270_101 (n_270_101 _) rfl ?_
      refine i_getR (a := 252) (b := 274) r_270_102 (n_270_102 _) rfl rfl rfl (by omega) lf_252 (by omega) ?_
      refine i_iload (x := x11) r_270_105 (n_270_105 _) rfl ?_
      refine i_iload (x := x12) r_270_107 (n_270_107 _) rfl ?_
      refine i_iadd r_270_109 (n_270_109 _) ?_
      refine i_iconst r_270_110 (n_270_110 _) ?_
      obtain ⟨g7, h⟩ := h
      refine i_iastore (a := 274) (j := x11 + x12) (x := 1) r_270_111 (n_270_111 _) lf_274 ⟨by omega, by omega⟩ (by omega) (by omega) ⟨by omega, by omega⟩ ?_
      refine i_iinc (x := x12) (l' := [(0, rf 252), (1, iv x1), (2, iv x2), (3, iv x3), (4, iv x4), (5, .long u5), (8, iv x8), (9, iv x9), (10, iv x10), (11, iv x11), (12, iv (x12 + 1))]) r_270_112 (n_270_112 _) (by decide) rfl rfl ?_
      refine i_goto (t := 81) r_270_115 (n_270_115 _) rfl ?_
      exact wp_pr (l' := [(0, rf 252), (1, iv x1), (2, iv x2), (3, iv x3), (4, iv x4), (5, .long u5), (8, iv x8), (9, iv x9), (10, iv x10), (11, iv x11), (12, iv (x12 + 1))]) rfl h
  · skip
    exact h.elim
theorem r_271_0 : xfetch 271 0 = some (.iconst 0, 1) := by decide +kernel
theorem n_271_0 : ∀ l, xpr 271 0 l = l := xpr_no (by decide +kernel)
theorem r_271_1 : xfetch 271 1 = some (.istore_n 2, 1) := by decide +kernel
theorem n_271_1 : ∀ l, xpr 271 1 l = l := xpr_no (by decide +kernel)
theorem r_271_2 : xfetch 271 2 = some (.iconst 0, 1) := by decide +kernel
theorem n_271_2 : ∀ l, xpr 271 2 l = l := xpr_no (by decide +kernel)
theorem r_271_3 : xfetch 271 3 = some (.istore_n 3, 1) := by decide +kernel
theorem n_271_3 : ∀ l, xpr 271 3 l = l := xpr_no (by decide +kernel)
theorem r_271_4 : xfetch 271 4 = some (.iload_n 3, 1) := by decide +kernel
theorem r_271_5 : xfetch 271 5 = some (.sipush 8192, 3) := by decide +kernel
theorem n_271_5 : ∀ l, xpr 271 5 l = l := xpr_no (by decide +kernel)
theorem r_271_8 : xfetch 271 8 = some (.if_icmp .ge 47, 3) := by decide +kernel
theorem n_271_8 : ∀ l, xpr 271 8 l = l := xpr_no (by decide +kernel)
theorem r_271_11 : xfetch 271 11 = some (.iconst 0, 1) := by decide +kernel
theorem n_271_11 : ∀ l, xpr 271 11 l = l := xpr_no (by decide +kernel)
theorem r_271_12 : xfetch 271 12 = some (.istore 4, 2) := by decide +kernel
theorem n_271_12 : ∀ l, xpr 271 12 l = l := xpr_no (by decide +kernel)
theorem r_271_14 : xfetch 271 14 = some (.iconst 0, 1) := by decide +kernel
theorem n_271_14 : ∀ l, xpr 271 14 l = l := xpr_no (by decide +kernel)
theorem r_271_15 : xfetch 271 15 = some (.istore 5, 2) := by decide +kernel
theorem n_271_15 : ∀ l, xpr 271 15 l = l := xpr_no (by decide +kernel)
theorem r_271_17 : xfetch 271 17 = some (.iload 5, 2) := by decide +kernel
theorem r_271_19 : xfetch 271 19 = some (.iload_n 1, 1) := by decide +kernel
theorem n_271_19 : ∀ l, xpr 271 19 l = l := xpr_no (by decide +kernel)
theorem r_271_20 : xfetch 271 20 = some (.if_icmp .ge 23, 3) := by decide +kernel
theorem n_271_20 : ∀ l, xpr 271 20 l = l := xpr_no (by decide +kernel)
theorem r_271_23 : xfetch 271 23 = some (.iload 4, 2) := by decide +kernel
theorem n_271_23 : ∀ l, xpr 271 23 l = l := xpr_no (by decide +kernel)
theorem r_271_25 : xfetch 271 25 = some (.aload_n 0, 1) := by decide +kernel
theorem n_271_25 : ∀ l, xpr 271 25 l = l := xpr_no (by decide +kernel)
theorem r_271_26 : xfetch 271 26 = some (.getfield 74, 3) := by decide +kernel
theorem n_271_26 : ∀ l, xpr 271 26 l = l := xpr_no (by decide +kernel)
theorem r_271_29 : xfetch 271 29 = some (.iload_n 3, 1) := by decide +kernel
theorem n_271_29 : ∀ l, xpr 271 29 l = l := xpr_no (by decide +kernel)
theorem r_271_30 : xfetch 271 30 = some (.iload 5, 2) := by decide +kernel
theorem n_271_30 : ∀ l, xpr 271 30 l = l := xpr_no (by decide +kernel)
theorem r_271_32 : xfetch 271 32 = some (.iadd, 1) := by decide +kernel
theorem n_271_32 : ∀ l, xpr 271 32 l = l := xpr_no (by decide +kernel)
theorem r_271_33 : xfetch 271 33 = some (.iaload, 1) := by decide +kernel
theorem n_271_33 : ∀ l, xpr 271 33 l = l := xpr_no (by decide +kernel)
theorem r_271_34 : xfetch 271 34 = some (.ior, 1) := by decide +kernel
theorem n_271_34 : ∀ l, xpr 271 34 l = l := xpr_no (by decide +kernel)
theorem r_271_35 : xfetch 271 35 = some (.istore 4, 2) := by decide +kernel
theorem n_271_35 : ∀ l, xpr 271 35 l = l := xpr_no (by decide +kernel)
theorem r_271_37 : xfetch 271 37 = some (.iinc 5 1, 3) := by decide +kernel
theorem n_271_37 : ∀ l, xpr 271 37 l = l := xpr_no (by decide +kernel)
theorem r_271_40 : xfetch 271 40 = some (.goto (-23), 3) := by decide +kernel
theorem n_271_40 : ∀ l, xpr 271 40 l = l := xpr_no (by decide +kernel)
theorem r_271_43 : xfetch 271 43 = some (.iload_n 2, 1) := by decide +kernel
theorem n_271_43 : ∀ l, xpr 271 43 l = l := xpr_no (by decide +kernel)
theorem r_271_44 : xfetch 271 44 = some (.iload 4, 2) := by decide +kernel
theorem n_271_44 : ∀ l, xpr 271 44 l = l := xpr_no (by decide +kernel)
theorem r_271_46 : xfetch 271 46 = some (.iadd, 1) := by decide +kernel
theorem n_271_46 : ∀ l, xpr 271 46 l = l := xpr_no (by decide +kernel)
theorem r_271_47 : xfetch 271 47 = some (.istore_n 2, 1) := by decide +kernel
theorem n_271_47 : ∀ l, xpr 271 47 l = l := xpr_no (by decide +kernel)
theorem r_271_48 : xfetch 271 48 = some (.iload_n 3, 1) := by decide +kernel
theorem n_271_48 : ∀ l, xpr 271 48 l = l := xpr_no (by decide +kernel)
theorem r_271_49 : xfetch 271 49 = some (.iload_n 1, 1) := by decide +kernel
theorem n_271_49 : ∀ l, xpr 271 49 l = l := xpr_no (by decide +kernel)
theorem r_271_50 : xfetch 271 50 = some (.iadd, 1) := by decide +kernel
theorem n_271_50 : ∀ l, xpr 271 50 l = l := xpr_no (by decide +kernel)
theorem r_271_51 : xfetch 271 51 = some (.istore_n 3, 1) := by decide +kernel
theorem n_271_51 : ∀ l, xpr 271 51 l = l := xpr_no (by decide +kernel)
theorem r_271_52 : xfetch 271 52 = some (.goto (-48), 3) := by decide +kernel
theorem n_271_52 : ∀ l, xpr 271 52 l = l := xpr_no (by decide +kernel)
theorem r_271_55 : xfetch 271 55 = some (.iload_n 2, 1) := by decide +kernel
theorem n_271_55 : ∀ l, xpr 271 55 l = l := xpr_no (by decide +kernel)
theorem r_271_56 : xfetch 271 56 = some (.ireturn, 1) := by decide +kernel
theorem n_271_56 : ∀ l, xpr 271 56 l = l := xpr_no (by decide +kernel)
theorem v_Model_marked_0 {S : Option (Nat × (Nat → Int32))} {s : zSt} {Q : Option Value ⊕ Nat → zSt → Prop} {x1 : Int} 
    (h : wp S 271 4 [(0, rf 252), (1, iv x1), (2, iv 0), (3, iv 0)] [] s Q) :
    wp S 271 0 [(0, rf 252), (1, iv x1)] [] s Q := by
  refine i_iconst r_271_0 (n_271_0 _) ?_
  refine i_istore_n (l' := [(0, rf 252), (1, iv x1), (2, iv 0)]) r_271_1 (n_271_1 _) (by decide) rfl ?_
  refine i_iconst r_271_2 (n_271_2 _) ?_
  refine i_istore_n (l' := [(0, rf 252), (1, iv x1), (2, iv 0), (3, iv 0)]) r_271_3 (n_271_3 _) (by decide) rfl ?_
  exact wp_pr (l' := [(0, rf 252), (1, iv x1), (2, iv 0), (3, iv 0)]) rfl h
theorem v_Model_marked_4 {S : Option (Nat × (Nat → Int32))} {s : zSt} {Q : Option Value ⊕ Nat → zSt → Prop} {x1 : Int} {x2 : Int} {x3 : Int} 
    (h : rng x3 ∧ ((8192 ≤ x3 → Q (rI x2) s) ∧ (x3 < 8192 → wp S 271 17 [(0, rf 252), (1, iv x1), (2, iv x2), (3, iv x3), (4, iv 0), (5, iv 0)] [] s Q))) :
    wp S 271 4 [(0, rf 252), (1, iv x1), (2, iv x2), (3, iv x3)] [] s Q := by
  refine i_iload_n (x := x3) r_271_4 rfl rfl ?_
  refine i_sipush r_271_5 (n_271_5 _) rfl ?_
  obtain ⟨g1, h⟩ := h
  refine i_icmp (t := 55) r_271_8 (n_271_8 _) rfl (T_ge g1 ⟨by omega, by omega⟩) (fun c2 => ?_) (fun c2 => ?_)
  · replace h := h.1 c2
    refine i_iload_n (x := x2) r_271_55 (n_271_55 _) rfl ?_
    exact i_ireturn r_271_56 (n_271_56 _) rfl h
  · replace h := h.2 c2
    refine i_iconst r_271_11 (n_271_11 _) ?_
    refine i_istore (l' := [(0, rf 252), (1, iv x1), (2, iv x2), (3, iv x3), (4, iv 0)]) r_271_12 (n_271_12 _) (by decide) rfl ?_
    refine i_iconst r_271_14 (n_271_14 _) ?_
    refine i_istore (l' := [(0, rf 252), (1, iv x1), (2, iv x2), (3, iv x3), (4, iv 0), (5, iv 0)]) r_271_15 (n_271_15 _) (by decide) rfl ?_
    exact wp_pr (l' := [(0, rf 252), (1, iv x1), (2, iv x2), (3, iv x3), (4, iv 0), (5, iv 0)]) rfl h
theorem v_Model_marked_17 {S : Option (Nat × (Nat → Int32))} {s : zSt} {Q : Option Value ⊕ Nat → zSt → Prop} {x1 : Int} {x2 : Int} {x3 : Int} {x4 : Int} {x5 : Int} 
    (h : rng x5 ∧ (rng x1 ∧ ((x1 ≤ x5 → wp S 271 4 [(0, rf 252), (1, iv x1), (2, iv (x2 + x4)), (3, iv (x3 + x1))] [] s Q) ∧ (x5 < x1 → (0 ≤ (x3 + x5) ∧ (x3 + x5) < 8192) ∧ (wp S 271 17 [(0, rf 252), (1, iv x1), (2, iv x2), (3, iv x3), (4, iv (zor x4 (zI s 274 (x3 + x5)))), (5, iv (x5 + 1))] [] s Q))))) :
    wp S 271 17 [(0, rf 252), (1, iv x1), (2, iv x2), (3, iv x3), (4, iv x4), (5, iv x5)] [] s Q := by
  refine i_iload (x := x5) r_271_17 rfl rfl ?_
  refine i_iload_n (x := x1) r_271_19 (n_271_19 _) rfl ?_
  obtain ⟨g1, h⟩ := h
  obtain ⟨g2, h⟩ := h
  refine i_icmp (t := 43) r_271_20 (n_271_20 _) rfl (T_ge g1 g2) (fun c3 => ?_) (fun c3 => ?_)
  · replace h := h.1 c3
    refine i_iload_n (x := x2) r_271_43 (n_271_43 _) rfl ?_
    refine i_iload (x := x4) r_271_44 (n_271_44 _) rfl ?_
    refine i_iadd r_271_46 (n_271_46 _) ?_
    refine i_istore_n (l' := [(0, rf 252), (1, iv x1), (2, iv (x2 + x4)), (3, iv x3), (4, iv x4), (5, iv x5)]) r_271_47 (n_271_47 _) (by decide) rfl ?_
    refine i_iload_n (x := x3) r_271_48 (n_271_48 _) rfl ?_
    refine i_iload_n (x := x1) r_271_49 (n_271_49 _) rfl ?_
    refine i_iadd r_271_50 (n_271_50 _) ?_
    refine i_istore_n (l' := [(0, rf 252), (1, iv x1), (2, iv (x2 + x4)), (3, iv (x3 + x1)), (4, iv x4), (5, iv x5)]) r_271_51 (n_271_51 _) (by decide) rfl ?_
    refine i_goto (t := 4) r_271_52 (n_271_52 _) rfl ?_
    exact wp_pr (l' := [(0, rf 252), (1, iv x1), (2, iv (x2 + x4)), (3, iv (x3 + x1))]) rfl h
  · replace h := h.2 c3
    refine i_iload (x := x4) r_271_23 (n_271_23 _) rfl ?_
    refine i_aload_n (a := 252) r_271_25 (n_271_25 _) rfl ?_
    refine i_getR (a := 252) (b := 274) r_271_26 (n_271_26 _) rfl rfl rfl (by omega) lf_252 (by omega) ?_
    refine i_iload_n (x := x3) r_271_29 (n_271_29 _) rfl ?_
    refine i_iload (x := x5) r_271_30 (n_271_30 _) rfl ?_
    refine i_iadd r_271_32 (n_271_32 _) ?_
    obtain ⟨g4, h⟩ := h
    refine i_iaload (a := 274) (j := x3 + x5) r_271_33 (n_271_33 _) lf_274 ⟨by omega, by omega⟩ (by omega) (by omega) (fun q5 => ?_)
    refine i_ior r_271_34 (n_271_34 _) ?_
    refine i_istore (l' := [(0, rf 252), (1, iv x1), (2, iv x2), (3, iv x3), (4, iv (zor x4 (zI s 274 (x3 + x5)))), (5, iv x5)]) r_271_35 (n_271_35 _) (by decide) rfl ?_
    refine i_iinc (x := x5) (l' := [(0, rf 252), (1, iv x1), (2, iv x2), (3, iv x3), (4, iv (zor x4 (zI s 274 (x3 + x5)))), (5, iv (x5 + 1))]) r_271_37 (n_271_37 _) (by decide) rfl rfl ?_
    refine i_goto (t := 17) r_271_40 (n_271_40 _) rfl ?_
    exact wp_pr (l' := [(0, rf 252), (1, iv x1), (2, iv x2), (3, iv x3), (4, iv (zor x4 (zI s 274 (x3 + x5)))), (5, iv (x5 + 1))]) rfl h
theorem r_272_0 : xfetch 272 0 = some (.aload_n 0, 1) := by decide +kernel
theorem n_272_0 : ∀ l, xpr 272 0 l = l := xpr_no (by decide +kernel)
theorem r_272_1 : xfetch 272 1 = some (.iload_n 1, 1) := by decide +kernel
theorem n_272_1 : ∀ l, xpr 272 1 l = l := xpr_no (by decide +kernel)
theorem r_272_2 : xfetch 272 2 = some (.invokevirtual 225, 3) := by decide +kernel
theorem n_272_2 : ∀ l, xpr 272 2 l = l := xpr_no (by decide +kernel)
theorem r_272_5 : xfetch 272 5 = some (.ifCond .eq 27, 3) := by decide +kernel
theorem n_272_5 : ∀ l, xpr 272 5 l = l := xpr_no (by decide +kernel)
theorem r_272_8 : xfetch 272 8 = some (.aload_n 0, 1) := by decide +kernel
theorem n_272_8 : ∀ l, xpr 272 8 l = l := xpr_no (by decide +kernel)
theorem r_272_9 : xfetch 272 9 = some (.iload_n 1, 1) := by decide +kernel
theorem n_272_9 : ∀ l, xpr 272 9 l = l := xpr_no (by decide +kernel)
theorem r_272_10 : xfetch 272 10 = some (.iload 4, 2) := by decide +kernel
theorem n_272_10 : ∀ l, xpr 272 10 l = l := xpr_no (by decide +kernel)
theorem r_272_12 : xfetch 272 12 = some (.invokevirtual 257, 3) := by decide +kernel
theorem n_272_12 : ∀ l, xpr 272 12 l = l := xpr_no (by decide +kernel)
theorem r_272_15 : xfetch 272 15 = some (.ifCond .eq 17, 3) := by decide +kernel
theorem n_272_15 : ∀ l, xpr 272 15 l = l := xpr_no (by decide +kernel)
theorem r_272_18 : xfetch 272 18 = some (.aload_n 0, 1) := by decide +kernel
theorem n_272_18 : ∀ l, xpr 272 18 l = l := xpr_no (by decide +kernel)
theorem r_272_19 : xfetch 272 19 = some (.iload_n 1, 1) := by decide +kernel
theorem n_272_19 : ∀ l, xpr 272 19 l = l := xpr_no (by decide +kernel)
theorem r_272_20 : xfetch 272 20 = some (.iload 5, 2) := by decide +kernel
theorem n_272_20 : ∀ l, xpr 272 20 l = l := xpr_no (by decide +kernel)
theorem r_272_22 : xfetch 272 22 = some (.invokevirtual 257, 3) := by decide +kernel
theorem n_272_22 : ∀ l, xpr 272 22 l = l := xpr_no (by decide +kernel)
theorem r_272_25 : xfetch 272 25 = some (.ifCond .eq 7, 3) := by decide +kernel
theorem n_272_25 : ∀ l, xpr 272 25 l = l := xpr_no (by decide +kernel)
theorem r_272_28 : xfetch 272 28 = some (.iconst 1, 1) := by decide +kernel
theorem n_272_28 : ∀ l, xpr 272 28 l = l := xpr_no (by decide +kernel)
theorem r_272_29 : xfetch 272 29 = some (.goto 4, 3) := by decide +kernel
theorem n_272_29 : ∀ l, xpr 272 29 l = l := xpr_no (by decide +kernel)
theorem r_272_32 : xfetch 272 32 = some (.iconst 0, 1) := by decide +kernel
theorem n_272_32 : ∀ l, xpr 272 32 l = l := xpr_no (by decide +kernel)
theorem r_272_33 : xfetch 272 33 = some (.istore 6, 2) := by decide +kernel
theorem r_272_35 : xfetch 272 35 = some (.aload_n 0, 1) := by decide +kernel
theorem n_272_35 : ∀ l, xpr 272 35 l = l := xpr_no (by decide +kernel)
theorem r_272_36 : xfetch 272 36 = some (.iload 6, 2) := by decide +kernel
theorem n_272_36 : ∀ l, xpr 272 36 l = l := xpr_no (by decide +kernel)
theorem r_272_38 : xfetch 272 38 = some (.ifCond .ne 7, 3) := by decide +kernel
theorem n_272_38 : ∀ l, xpr 272 38 l = l := xpr_no (by decide +kernel)
theorem r_272_41 : xfetch 272 41 = some (.iconst 1, 1) := by decide +kernel
theorem n_272_41 : ∀ l, xpr 272 41 l = l := xpr_no (by decide +kernel)
theorem r_272_42 : xfetch 272 42 = some (.goto 15, 3) := by decide +kernel
theorem n_272_42 : ∀ l, xpr 272 42 l = l := xpr_no (by decide +kernel)
theorem r_272_45 : xfetch 272 45 = some (.iload 4, 2) := by decide +kernel
theorem n_272_45 : ∀ l, xpr 272 45 l = l := xpr_no (by decide +kernel)
theorem r_272_47 : xfetch 272 47 = some (.iload 5, 2) := by decide +kernel
theorem n_272_47 : ∀ l, xpr 272 47 l = l := xpr_no (by decide +kernel)
theorem r_272_49 : xfetch 272 49 = some (.if_icmp .le 7, 3) := by decide +kernel
theorem n_272_49 : ∀ l, xpr 272 49 l = l := xpr_no (by decide +kernel)
theorem r_272_52 : xfetch 272 52 = some (.iconst 2, 1) := by decide +kernel
theorem n_272_52 : ∀ l, xpr 272 52 l = l := xpr_no (by decide +kernel)
theorem r_272_53 : xfetch 272 53 = some (.goto 4, 3) := by decide +kernel
theorem n_272_53 : ∀ l, xpr 272 53 l = l := xpr_no (by decide +kernel)
theorem r_272_56 : xfetch 272 56 = some (.iconst 0, 1) := by decide +kernel
theorem n_272_56 : ∀ l, xpr 272 56 l = l := xpr_no (by decide +kernel)
theorem r_272_57 : xfetch 272 57 = some (.invokevirtual 84, 3) := by decide +kernel
theorem n_272_57 : ∀ l, xpr 272 57 l = l := xpr_no (by decide +kernel)
theorem r_272_60 : xfetch 272 60 = some (.ifCond .eq 5, 3) := by decide +kernel
theorem n_272_60 : ∀ l, xpr 272 60 l = l := xpr_no (by decide +kernel)
theorem r_272_63 : xfetch 272 63 = some (.iconst 0, 1) := by decide +kernel
theorem n_272_63 : ∀ l, xpr 272 63 l = l := xpr_no (by decide +kernel)
theorem r_272_64 : xfetch 272 64 = some (.ireturn, 1) := by decide +kernel
theorem n_272_64 : ∀ l, xpr 272 64 l = l := xpr_no (by decide +kernel)
theorem r_272_65 : xfetch 272 65 = some (.aload_n 0, 1) := by decide +kernel
theorem n_272_65 : ∀ l, xpr 272 65 l = l := xpr_no (by decide +kernel)
theorem r_272_66 : xfetch 272 66 = some (.invokevirtual 152, 3) := by decide +kernel
theorem n_272_66 : ∀ l, xpr 272 66 l = l := xpr_no (by decide +kernel)
theorem r_272_69 : xfetch 272 69 = some (.aload_n 0, 1) := by decide +kernel
theorem n_272_69 : ∀ l, xpr 272 69 l = l := xpr_no (by decide +kernel)
theorem r_272_70 : xfetch 272 70 = some (.aload_n 0, 1) := by decide +kernel
theorem n_272_70 : ∀ l, xpr 272 70 l = l := xpr_no (by decide +kernel)
theorem r_272_71 : xfetch 272 71 = some (.iload_n 1, 1) := by decide +kernel
theorem n_272_71 : ∀ l, xpr 272 71 l = l := xpr_no (by decide +kernel)
theorem r_272_72 : xfetch 272 72 = some (.iconst 0, 1) := by decide +kernel
theorem n_272_72 : ∀ l, xpr 272 72 l = l := xpr_no (by decide +kernel)
theorem r_272_73 : xfetch 272 73 = some (.invokevirtual 228, 3) := by decide +kernel
theorem n_272_73 : ∀ l, xpr 272 73 l = l := xpr_no (by decide +kernel)
theorem r_272_76 : xfetch 272 76 = some (.aload_n 0, 1) := by decide +kernel
theorem n_272_76 : ∀ l, xpr 272 76 l = l := xpr_no (by decide +kernel)
theorem r_272_77 : xfetch 272 77 = some (.iload_n 1, 1) := by decide +kernel
theorem n_272_77 : ∀ l, xpr 272 77 l = l := xpr_no (by decide +kernel)
theorem r_272_78 : xfetch 272 78 = some (.iconst 1, 1) := by decide +kernel
theorem n_272_78 : ∀ l, xpr 272 78 l = l := xpr_no (by decide +kernel)
theorem r_272_79 : xfetch 272 79 = some (.invokevirtual 228, 3) := by decide +kernel
theorem n_272_79 : ∀ l, xpr 272 79 l = l := xpr_no (by decide +kernel)
theorem r_272_82 : xfetch 272 82 = some (.aload_n 0, 1) := by decide +kernel
theorem n_272_82 : ∀ l, xpr 272 82 l = l := xpr_no (by decide +kernel)
theorem r_272_83 : xfetch 272 83 = some (.iload_n 1, 1) := by decide +kernel
theorem n_272_83 : ∀ l, xpr 272 83 l = l := xpr_no (by decide +kernel)
theorem r_272_84 : xfetch 272 84 = some (.iconst 2, 1) := by decide +kernel
theorem n_272_84 : ∀ l, xpr 272 84 l = l := xpr_no (by decide +kernel)
theorem r_272_85 : xfetch 272 85 = some (.invokevirtual 228, 3) := by decide +kernel
theorem n_272_85 : ∀ l, xpr 272 85 l = l := xpr_no (by decide +kernel)
theorem r_272_88 : xfetch 272 88 = some (.aload_n 0, 1) := by decide +kernel
theorem n_272_88 : ∀ l, xpr 272 88 l = l := xpr_no (by decide +kernel)
theorem r_272_89 : xfetch 272 89 = some (.iload_n 1, 1) := by decide +kernel
theorem n_272_89 : ∀ l, xpr 272 89 l = l := xpr_no (by decide +kernel)
theorem r_272_90 : xfetch 272 90 = some (.iconst 4, 1) := by decide +kernel
theorem n_272_90 : ∀ l, xpr 272 90 l = l := xpr_no (by decide +kernel)
theorem r_272_91 : xfetch 272 91 = some (.invokevirtual 228, 3) := by decide +kernel
theorem n_272_91 : ∀ l, xpr 272 91 l = l := xpr_no (by decide +kernel)
theorem r_272_94 : xfetch 272 94 = some (.lload_n 2, 1) := by decide +kernel
theorem n_272_94 : ∀ l, xpr 272 94 l = l := xpr_no (by decide +kernel)
theorem r_272_95 : xfetch 272 95 = some (.iload 4, 2) := by decide +kernel
theorem n_272_95 : ∀ l, xpr 272 95 l = l := xpr_no (by decide +kernel)
theorem r_272_97 : xfetch 272 97 = some (.iload 5, 2) := by decide +kernel
theorem n_272_97 : ∀ l, xpr 272 97 l = l := xpr_no (by decide +kernel)
theorem r_272_99 : xfetch 272 99 = some (.invokevirtual 293, 3) := by decide +kernel
theorem n_272_99 : ∀ l, xpr 272 99 l = l := xpr_no (by decide +kernel)
theorem r_272_102 : xfetch 272 102 = some (.istore 7, 2) := by decide +kernel
theorem n_272_102 : ∀ l, xpr 272 102 l = l := xpr_no (by decide +kernel)
theorem r_272_104 : xfetch 272 104 = some (.iconst 0, 1) := by decide +kernel
theorem n_272_104 : ∀ l, xpr 272 104 l = l := xpr_no (by decide +kernel)
theorem r_272_105 : xfetch 272 105 = some (.istore 8, 2) := by decide +kernel
theorem n_272_105 : ∀ l, xpr 272 105 l = l := xpr_no (by decide +kernel)
theorem r_272_107 : xfetch 272 107 = some (.iconst 0, 1) := by decide +kernel
theorem n_272_107 : ∀ l, xpr 272 107 l = l := xpr_no (by decide +kernel)
theorem r_272_108 : xfetch 272 108 = some (.istore 9, 2) := by decide +kernel
theorem n_272_108 : ∀ l, xpr 272 108 l = l := xpr_no (by decide +kernel)
theorem r_272_110 : xfetch 272 110 = some (.iload 9, 2) := by decide +kernel
theorem r_272_112 : xfetch 272 112 = some (.iload 7, 2) := by decide +kernel
theorem n_272_112 : ∀ l, xpr 272 112 l = l := xpr_no (by decide +kernel)
theorem r_272_114 : xfetch 272 114 = some (.if_icmp .ge 47, 3) := by decide +kernel
theorem n_272_114 : ∀ l, xpr 272 114 l = l := xpr_no (by decide +kernel)
theorem r_272_117 : xfetch 272 117 = some (.iload 8, 2) := by decide +kernel
theorem n_272_117 : ∀ l, xpr 272 117 l = l := xpr_no (by decide +kernel)
theorem r_272_119 : xfetch 272 119 = some (.aload_n 0, 1) := by decide +kernel
theorem n_272_119 : ∀ l, xpr 272 119 l = l := xpr_no (by decide +kernel)
theorem r_272_120 : xfetch 272 120 = some (.getfield 74, 3) := by decide +kernel
theorem n_272_120 : ∀ l, xpr 272 120 l = l := xpr_no (by decide +kernel)
theorem r_272_123 : xfetch 272 123 = some (.iload 9, 2) := by decide +kernel
theorem n_272_123 : ∀ l, xpr 272 123 l = l := xpr_no (by decide +kernel)
theorem r_272_125 : xfetch 272 125 = some (.iaload, 1) := by decide +kernel
theorem n_272_125 : ∀ l, xpr 272 125 l = l := xpr_no (by decide +kernel)
theorem r_272_126 : xfetch 272 126 = some (.iconst 1, 1) := by decide +kernel
theorem n_272_126 : ∀ l, xpr 272 126 l = l := xpr_no (by decide +kernel)
theorem r_272_127 : xfetch 272 127 = some (.if_icmp .ne 24, 3) := by decide +kernel
theorem n_272_127 : ∀ l, xpr 272 127 l = l := xpr_no (by decide +kernel)
theorem r_272_130 : xfetch 272 130 = some (.iload 9, 2) := by decide +kernel
theorem n_272_130 : ∀ l, xpr 272 130 l = l := xpr_no (by decide +kernel)
theorem r_272_132 : xfetch 272 132 = some (.ifCond .eq 15, 3) := by decide +kernel
theorem n_272_132 : ∀ l, xpr 272 132 l = l := xpr_no (by decide +kernel)
theorem r_272_135 : xfetch 272 135 = some (.aload_n 0, 1) := by decide +kernel
theorem n_272_135 : ∀ l, xpr 272 135 l = l := xpr_no (by decide +kernel)
theorem r_272_136 : xfetch 272 136 = some (.getfield 74, 3) := by decide +kernel
theorem n_272_136 : ∀ l, xpr 272 136 l = l := xpr_no (by decide +kernel)
theorem r_272_139 : xfetch 272 139 = some (.iload 9, 2) := by decide +kernel
theorem n_272_139 : ∀ l, xpr 272 139 l = l := xpr_no (by decide +kernel)
theorem r_272_141 : xfetch 272 141 = some (.iconst 1, 1) := by decide +kernel
theorem n_272_141 : ∀ l, xpr 272 141 l = l := xpr_no (by decide +kernel)
theorem r_272_142 : xfetch 272 142 = some (.isub, 1) := by decide +kernel
theorem n_272_142 : ∀ l, xpr 272 142 l = l := xpr_no (by decide +kernel)
theorem r_272_143 : xfetch 272 143 = some (.iaload, 1) := by decide +kernel
theorem n_272_143 : ∀ l, xpr 272 143 l = l := xpr_no (by decide +kernel)
theorem r_272_144 : xfetch 272 144 = some (.ifCond .ne 7, 3) := by decide +kernel
theorem n_272_144 : ∀ l, xpr 272 144 l = l := xpr_no (by decide +kernel)
theorem r_272_147 : xfetch 272 147 = some (.iconst 1, 1) := by decide +kernel
theorem n_272_147 : ∀ l, xpr 272 147 l = l := xpr_no (by decide +kernel)
theorem r_272_148 : xfetch 272 148 = some (.goto 4, 3) := by decide +kernel
theorem n_272_148 : ∀ l, xpr 272 148 l = l := xpr_no (by decide +kernel)
theorem r_272_151 : xfetch 272 151 = some (.iconst 0, 1) := by decide +kernel
theorem n_272_151 : ∀ l, xpr 272 151 l = l := xpr_no (by decide +kernel)
theorem r_272_152 : xfetch 272 152 = some (.iadd, 1) := by decide +kernel
theorem n_272_152 : ∀ l, xpr 272 152 l = l := xpr_no (by decide +kernel)
theorem r_272_153 : xfetch 272 153 = some (.istore 8, 2) := by decide +kernel
theorem n_272_153 : ∀ l, xpr 272 153 l = l := xpr_no (by decide +kernel)
theorem r_272_155 : xfetch 272 155 = some (.iinc 9 1, 3) := by decide +kernel
theorem n_272_155 : ∀ l, xpr 272 155 l = l := xpr_no (by decide +kernel)
theorem r_272_158 : xfetch 272 158 = some (.goto (-48), 3) := by decide +kernel
theorem n_272_158 : ∀ l, xpr 272 158 l = l := xpr_no (by decide +kernel)
theorem r_272_161 : xfetch 272 161 = some (.iload 8, 2) := by decide +kernel
theorem n_272_161 : ∀ l, xpr 272 161 l = l := xpr_no (by decide +kernel)
theorem r_272_163 : xfetch 272 163 = some (.ireturn, 1) := by decide +kernel
theorem n_272_163 : ∀ l, xpr 272 163 l = l := xpr_no (by decide +kernel)
theorem v_Model_runs_0 {S : Option (Nat × (Nat → Int32))} {s : zSt} {Q : Option Value ⊕ Nat → zSt → Prop} {x1 : Int} {u2 : Int64} {x4 : Int} {x5 : Int} 
    (h : wp S 229 0 [(0, rf 252), (1, iv x1)] [] s (fun o1 s1 => zkI (fun y1 => (y1 = 0 → wp S 272 33 [(0, rf 252), (1, iv x1), (2, .long u2), (4, iv x4), (5, iv x5)] [iv 0] s1 Q) ∧ (y1 ≠ 0 → wp S 244 0 [(0, rf 252), (1, iv x1), (2, iv x4)] [] s1 (fun o4 s4 => zkI (fun y4 => (y4 = 0 → wp S 272 33 [(0, rf 252), (1, iv x1), (2, .long u2), (4, iv x4), (5, iv x5)] [iv 0] s4 Q) ∧ (y4 ≠ 0 → wp S 244 0 [(0, rf 252), (1, iv x1), (2, iv x5)] [] s4 (fun o7 s7 => zkI (fun y7 => (y7 = 0 → wp S 272 33 [(0, rf 252), (1, iv x1), (2, .long u2), (4, iv x4), (5, iv x5)] [iv 0] s7 Q) ∧ (y7 ≠ 0 → wp S 272 33 [(0, rf 252), (1, iv x1), (2, .long u2), (4, iv x4), (5, iv x5)] [iv 1] s7 Q)) (fun e7 => False) o7))) (fun e4 => False) o4))) (fun e1 => False) o1)) :
    wp S 272 0 [(0, rf 252), (1, iv x1), (2, .long u2), (4, iv x4), (5, iv x5)] [] s Q := by
  refine i_aload_n (a := 252) r_272_0 (n_272_0 _) rfl ?_
  refine i_iload_n (x := x1) r_272_1 (n_272_1 _) rfl ?_
  refine wp_virt (b := 252) (rest := []) (Ls := [(0, rf 252), (1, iv x1)]) r_272_2 (n_272_2 _) rfl ⟨rfl, rfl, by decide, by decide⟩ rfl rfl lf_252 ⟨rfl, Nat.le_of_ble_eq_true rfl, Nat.le_of_ble_eq_true rfl⟩ rfl h ?_
  intro o1 s1 h
  rcases h with ⟨y1, q2, rfl, h⟩ | ⟨e1, rfl, h⟩
  · refine .inl ⟨some (iv y1), rfl, ?_⟩
    show wp S 272 5 [(0, rf 252), (1, iv x1), (2, .long u2), (4, iv x4), (5, iv x5)] [iv y1] s1 Q
    refine i_if (t := 32) r_272_5 (n_272_5 _) rfl (T_eq q2 ⟨by omega, by omega⟩) (fun c3 => ?_) (fun c3 => ?_)
    · replace h := h.1 c3
      refine i_iconst r_272_32 (n_272_32 _) ?_
      exact wp_pr (l' := [(0, rf 252), (1, iv x1), (2, .long u2), (4, iv x4), (5, iv x5)]) rfl h
    · replace h := h.2 c3
      refine i_aload_n (a := 252) r_272_8 (n_272_8 _) rfl ?_
      refine i_iload_n (x := x1) r_272_9 (n_272_9 _) rfl ?_
      refine i_iload (x := x4) r_272_10 (n_272_10 _) rfl ?_
      refine wp_virt (b := 252) (rest := []) (Ls := [(0, rf 252), (1, iv x1), (2, iv x4)]) r_272_12 (n_272_12 _) rfl ⟨rfl, rfl, by decide, by decide⟩ rfl rfl lf_252 ⟨rfl, Nat.le_of_ble_eq_true rfl, Nat.le_of_ble_eq_true rfl⟩ rfl h ?_
      intro o4 s4 h
      rcases h with ⟨y4, q5, rfl, h⟩ | ⟨e4, rfl, h⟩
      · refine .inl ⟨some (iv y4), rfl, ?_⟩
        show wp S 272 15 [(0, rf 252), (1, iv x1), (2, .long u2), (4, iv x4), (5, iv x5)] [iv y4] s4 Q
        refine i_if (t := 32) r_272_15 (n_272_15 _) rfl (T_eq q5 ⟨by omega, by omega⟩) (fun c6 => ?_) (fun c6 => ?_)
        · replace h := h.1 c6
          refine i_iconst r_272_32 (n_272_32 _) ?_
          exact wp_pr (l' := [(0, rf 252), (1, iv x1), (2, .long u2), (4, iv x4), (5, iv x5)]) rfl h
        · replace h := h.2 c6
          refine i_aload_n (a := 252) r_272_18 (n_272_18 _) rfl ?_
          refine i_iload_n (x := x1) r_272_19 (n_272_19 _) rfl ?_
          refine i_iload (x := x5) r_272_20 (n_272_20 _) rfl ?_
          refine wp_virt (b := 252) (rest := []) (Ls := [(0, rf 252), (1, iv x1), (2, iv x5)]) r_272_22 (n_272_22 _) rfl ⟨rfl, rfl, by decide, by decide⟩ rfl rfl lf_252 ⟨rfl, Nat.le_of_ble_eq_true rfl, Nat.le_of_ble_eq_true rfl⟩ rfl h ?_
          intro o7 s7 h
          rcases h with ⟨y7, q8, rfl, h⟩ | ⟨e7, rfl, h⟩
          · refine .inl ⟨some (iv y7), rfl, ?_⟩
            show wp S 272 25 [(0, rf 252), (1, iv x1), (2, .long u2), (4, iv x4), (5, iv x5)] [iv y7] s7 Q
            refine i_if (t := 32) r_272_25 (n_272_25 _) rfl (T_eq q8 ⟨by omega, by omega⟩) (fun c9 => ?_) (fun c9 => ?_)
            · replace h := h.1 c9
              refine i_iconst r_272_32 (n_272_32 _) ?_
              exact wp_pr (l' := [(0, rf 252), (1, iv x1), (2, .long u2), (4, iv x4), (5, iv x5)]) rfl h
            · replace h := h.2 c9
              refine i_iconst r_272_28 (n_272_28 _) ?_
              refine i_goto (t := 33) r_272_29 (n_272_29 _) rfl ?_
              exact wp_pr (l' := [(0, rf 252), (1, iv x1), (2, .long u2), (4, iv x4), (5, iv x5)]) rfl h
          · skip
            exact h.elim
      · skip
        exact h.elim
  · skip
    exact h.elim
theorem v_Model_runs_33 {S : Option (Nat × (Nat → Int32))} {s : zSt} {Q : Option Value ⊕ Nat → zSt → Prop} {x1 : Int} {u2 : Int64} {x4 : Int} {x5 : Int} {x90 : Int} 
    (h : rng x90 ∧ ((x90 ≠ 0 → rng x4 ∧ (rng x5 ∧ ((x4 ≤ x5 → wp S 179 0 [(0, rf 252), (1, iv 0)] [] s (fun o6 s6 => zkI (fun y6 => (y6 = 0 → wp S 193 0 [(0, rf 252)] [] s6 (fun o9 s9 => zkU (wp S 236 0 [(0, rf 252), (1, iv x1), (2, iv 0)] [] s9 (fun o11 s11 => zkI (fun y11 => wp S 236 0 [(0, rf 252), (1, iv x1), (2, iv 1)] [] s11 (fun o13 s13 => zkI (fun y13 => wp S 236 0 [(0, rf 252), (1, iv x1), (2, iv 2)] [] s13 (fun o15 s15 => zkI (fun y15 => wp S 236 0 [(0, rf 252), (1, iv x1), (2, iv 4)] [] s15 (fun o17 s17 => zkI (fun y17 => wp S 270 0 [(0, rf 252), (1, iv y11), (2, iv y13), (3, iv y15), (4, iv y17), (5, .long u2), (7, iv x4), (8, iv x5)] [] s17 (fun o19 s19 => zkI (fun y19 => wp S 272 110 [(0, rf 252), (7, iv y19), (8, iv 0), (9, iv 0)] [] s19 Q) (fun e19 => False) o19)) (fun e17 => False) o17)) (fun e15 => False) o15)) (fun e13 => False) o13)) (fun e11 => False) o11)) (fun e9 => False) o9)) ∧ (y6 ≠ 0 → Q (rI 0) s6)) (fun e6 => False) o6)) ∧ (x5 < x4 → wp S 179 0 [(0, rf 252), (1, iv 2)] [] s (fun o21 s21 => zkI (fun y21 => (y21 = 0 → wp S 193 0 [(0, rf 252)] [] s21 (fun o24 s24 => zkU (wp S 236 0 [(0, rf 252), (1, iv x1), (2, iv 0)] [] s24 (fun o26 s26 => zkI (fun y26 => wp S 236 0 [(0, rf 252), (1, iv x1), (2, iv 1)] [] s26 (fun o28 s28 => zkI (fun y28 => wp S 236 0 [(0, rf 252), (1, iv x1), (2, iv 2)] [] s28 (fun o30 s30 => zkI (fun y30 => wp S 236 0 [(0, rf 252), (1, iv x1), (2, iv 4)] [] s30 (fun o32 s32 => zkI (fun y32 => wp S 270 0 [(0, rf 252), (1, iv y26), (2, iv y28), (3, iv y30), (4, iv y32), (5, .long u2), (7, iv x4), (8, iv x5)] [] s32 (fun o34 s34 => zkI (fun y34 => wp S 272 110 [(0, rf 252), (7, iv y34), (8, iv 0), (9, iv 0)] [] s34 Q) (fun e34 => False) o34)) (fun e32 => False) o32)) (fun e30 => False) o30)) (fun e28 => False) o28)) (fun e26 => False) o26)) (fun e24 => False) o24)) ∧ (y21 ≠ 0 → Q (rI 0) s21)) (fun e21 => False) o21))))) ∧ (x90 = 0 → wp S 179 0 [(0, rf 252), (1, iv 1)] [] s (fun o36 s36 => zkI (fun y36 => (y36 = 0 → wp S 193 0 [(0, rf 252)] [] s36 (fun o39 s39 => zkU (wp S 236 0 [(0, rf 252), (1, iv x1), (2, iv 0)] [] s39 (fun o41 s41 => zkI (fun y41 => wp S 236 0 [(0, rf 252), (1, iv x1), (2, iv 1)] [] s41 (fun o43 s43 => zkI (fun y43 => wp S 236 0 [(0, rf 252), (1, iv x1), (2, iv 2)] [] s43 (fun o45 s45 => zkI (fun y45 => wp S 236 0 [(0, rf 252), (1, iv x1), (2, iv 4)] [] s45 (fun o47 s47 => zkI (fun y47 => wp S 270 0 [(0, rf 252), (1, iv y41), (2, iv y43), (3, iv y45), (4, iv y47), (5, .long u2), (7, iv x4), (8, iv x5)] [] s47 (fun o49 s49 => zkI (fun y49 => wp S 272 110 [(0, rf 252), (7, iv y49), (8, iv 0), (9, iv 0)] [] s49 Q) (fun e49 => False) o49)) (fun e47 => False) o47)) (fun e45 => False) o45)) (fun e43 => False) o43)) (fun e41 => False) o41)) (fun e39 => False) o39)) ∧ (y36 ≠ 0 → Q (rI 0) s36)) (fun e36 => False) o36)))) :
    wp S 272 33 [(0, rf 252), (1, iv x1), (2, .long u2), (4, iv x4), (5, iv x5)] [iv x90] s Q := by
  refine i_istore (l' := [(0, rf 252), (1, iv x1), (2, .long u2), (4, iv x4), (5, iv x5), (6, iv x90)]) r_272_33 rfl (by decide) rfl ?_
  refine i_aload_n (a := 252) r_272_35 (n_272_35 _) rfl ?_
  refine i_iload (x := x90) r_272_36 (n_272_36 _) rfl ?_
  obtain ⟨g1, h⟩ := h
  refine i_if (t := 45) r_272_38 (n_272_38 _) rfl (T_ne g1 ⟨by omega, by omega⟩) (fun c2 => ?_) (fun c2 => ?_)
  · replace h := h.1 c2
    refine i_iload (x := x4) r_272_45 (n_272_45 _) rfl ?_
    refine i_iload (x := x5) r_272_47 (n_272_47 _) rfl ?_
    obtain ⟨g3, h⟩ := h
    obtain ⟨g4, h⟩ := h
    refine i_icmp (t := 56) r_272_49 (n_272_49 _) rfl (T_le g3 g4) (fun c5 => ?_) (fun c5 => ?_)
    · replace h := h.1 c5
      refine i_iconst r_272_56 (n_272_56 _) ?_
      refine wp_virt (b := 252) (rest := []) (Ls := [(0, rf 252), (1, iv 0)]) r_272_57 (n_272_57 _) rfl ⟨rfl, rfl, by decide, by decide⟩ rfl rfl lf_252 ⟨rfl, Nat.le_of_ble_eq_true rfl, Nat.le_of_ble_eq_true rfl⟩ rfl h ?_
      intro o6 s6 h
      rcases h with ⟨y6, q7, rfl, h⟩ | ⟨e6, rfl, h⟩
      · refine .inl ⟨some (iv y6), rfl, ?_⟩
        show wp S 272 60 [(0, rf 252), (1, iv x1), (2, .long u2), (4, iv x4), (5, iv x5), (6, iv x90)] [iv y6] s6 Q
        refine i_if (t := 65) r_272_60 (n_272_60 _) rfl (T_eq q7 ⟨by omega, by omega⟩) (fun c8 => ?_) (fun c8 => ?_)
        · replace h := h.1 c8
          refine i_aload_n (a := 252) r_272_65 (n_272_65 _) rfl ?_
          refine wp_virt (b := 252) (rest := []) (Ls := [(0, rf 252)]) r_272_66 (n_272_66 _) rfl ⟨rfl, rfl, by decide, by decide⟩ rfl rfl lf_252 ⟨rfl, Nat.le_of_ble_eq_true rfl, Nat.le_of_ble_eq_true rfl⟩ rfl h ?_
          intro o9 s9 h
          rcases h with ⟨rfl, h⟩ | ⟨e9, rfl, h⟩
          · refine .inl ⟨none, rfl, ?_⟩
            refine i_aload_n (a := 252) r_272_69 (n_272_69 _) rfl ?_
            refine i_aload_n (a := 252) r_272_70 (n_272_70 _) rfl ?_
            refine i_iload_n (x := x1) r_272_71 (n_272_71 _) rfl ?_
            refine i_iconst r_272_72 (n_272_72 _) ?_
            refine wp_virt (b := 252) (rest := [rf 252]) (Ls := [(0, rf 252), (1, iv x1), (2, iv 0)]) r_272_73 (n_272_73 _) rfl ⟨rfl, rfl, by decide, by decide⟩ rfl rfl lf_252 ⟨rfl, Nat.le_of_ble_eq_true rfl, Nat.le_of_ble_eq_true rfl⟩ rfl h ?_
            intro o11 s11 h
            rcases h with ⟨y11, q12, rfl, h⟩ | ⟨e11, rfl, h⟩
            · refine .inl ⟨some (iv y11), rfl, ?_⟩
              show wp S 272 76 [(0, rf 252), (1, iv x1), (2, .long u2), (4, iv x4), (5, iv x5), (6, iv x90)] [iv y11, rf 252] s11 Q
              refine i_aload_n (a := 252) r_272_76 (n_272_76 _) rfl ?_
              refine i_iload_n (x := x1) r_272_77 (n_272_77 _) rfl ?_
              refine i_iconst r_272_78 (n_272_78 _) ?_
              refine wp_virt (b := 252) (rest := [iv y11, rf 252]) (Ls := [(0, rf 252), (1, iv x1), (2, iv 1)]) r_272_79 (n_272_79 _) rfl ⟨rfl, rfl, by decide, by decide⟩ rfl rfl lf_252 ⟨rfl, Nat.le_of_ble_eq_true rfl, Nat.le_of_ble_eq_true rfl⟩ rfl h ?_
              intro o13 s13 h
              rcases h with ⟨y13, q14, rfl, h⟩ | ⟨e13, rfl, h⟩
              · refine .inl ⟨some (iv y13), rfl, ?_⟩
                show wp S 272 82 [(0, rf 252), (1, iv x1), (2, .long u2), (4, iv x4), (5, iv x5), (6, iv x90)] [iv y13, iv y11, rf 252] s13 Q
                refine i_aload_n (a := 252) r_272_82 (n_272_82 _) rfl ?_
                refine i_iload_n (x := x1) r_272_83 (n_272_83 _) rfl ?_
                refine i_iconst r_272_84 (n_272_84 _) ?_
                refine wp_virt (b := 252) (rest := [iv y13, iv y11, rf 252]) (Ls := [(0, rf 252), (1, iv x1), (2, iv 2)]) r_272_85 (n_272_85 _) rfl ⟨rfl, rfl, by decide, by decide⟩ rfl rfl lf_252 ⟨rfl, Nat.le_of_ble_eq_true rfl, Nat.le_of_ble_eq_true rfl⟩ rfl h ?_
                intro o15 s15 h
                rcases h with ⟨y15, q16, rfl, h⟩ | ⟨e15, rfl, h⟩
                · refine .inl ⟨some (iv y15), rfl, ?_⟩
                  show wp S 272 88 [(0, rf 252), (1, iv x1), (2, .long u2), (4, iv x4), (5, iv x5), (6, iv x90)] [iv y15, iv y13, iv y11, rf 252] s15 Q
                  refine i_aload_n (a := 252) r_272_88 (n_272_88 _) rfl ?_
                  refine i_iload_n (x := x1) r_272_89 (n_272_89 _) rfl ?_
                  refine i_iconst r_272_90 (n_272_90 _) ?_
                  refine wp_virt (b := 252) (rest := [iv y15, iv y13, iv y11, rf 252]) (Ls := [(0, rf 252), (1, iv x1), (2, iv 4)]) r_272_91 (n_272_91 _) rfl ⟨rfl, rfl, by decide, by decide⟩ rfl rfl lf_252 ⟨rfl, Nat.le_of_ble_eq_true rfl, Nat.le_of_ble_eq_true rfl⟩ rfl h ?_
                  intro o17 s17 h
                  rcases h with ⟨y17, q18, rfl, h⟩ | ⟨e17, rfl, h⟩
                  · refine .inl ⟨some (iv y17), rfl, ?_⟩
                    show wp S 272 94 [(0, rf 252), (1, iv x1), (2, .long u2), (4, iv x4), (5, iv x5), (6, iv x90)] [iv y17, iv y15, iv y13, iv y11, rf 252] s17 Q
                    refine i_lload_n (u := u2) r_272_94 (n_272_94 _) rfl ?_
                    refine i_iload (x := x4) r_272_95 (n_272_95 _) rfl ?_
                    refine i_iload (x := x5) r_272_97 (n_272_97 _) rfl ?_
                    refine wp_virt (b := 252) (rest := []) (Ls := [(0, rf 252), (1, iv y11), (2, iv y13), (3, iv y15), (4, iv y17), (5, .long u2), (7, iv x4), (8, iv x5)]) r_272_99 (n_272_99 _) rfl ⟨rfl, rfl, by decide, by decide⟩ rfl rfl lf_252 ⟨rfl, Nat.le_of_ble_eq_true rfl, Nat.le_of_ble_eq_true rfl⟩ rfl h ?_
                    intro o19 s19 h
                    rcases h with ⟨y19, q20, rfl, h⟩ | ⟨e19, rfl, h⟩
                    · refine .inl ⟨some (iv y19), rfl, ?_⟩
                      show wp S 272 102 [(0, rf 252), (1, iv x1), (2, .long u2), (4, iv x4), (5, iv x5), (6, iv x90)] [iv y19] s19 Q
                      refine i_istore (l' := [(0, rf 252), (1, iv x1), (2, .long u2), (4, iv x4), (5, iv x5), (6, iv x90), (7, iv y19)]) r_272_102 (n_272_102 _) (by decide) rfl ?_
                      refine i_iconst r_272_104 (n_272_104 _) ?_
                      refine i_istore (l' := [(0, rf 252), (1, iv x1), (2, .long u2), (4, iv x4), (5, iv x5), (6, iv x90), (7, iv y19), (8, iv 0)]) r_272_105 (n_272_105 _) (by decide) rfl ?_
                      refine i_iconst r_272_107 (n_272_107 _) ?_
                      refine i_istore (l' := [(0, rf 252), (1, iv x1), (2, .long u2), (4, iv x4), (5, iv x5), (6, iv x90), (7, iv y19), (8, iv 0), (9, iv 0)]) r_272_108 (n_272_108 _) (by decide) rfl ?_
                      exact wp_pr (l' := [(0, rf 252), (7, iv y19), (8, iv 0), (9, iv 0)]) rfl h
                    · skip
                      exact h.elim
                  · skip
                    exact h.elim
                · skip
                  exact h.elim
              · skip
                exact h.elim
            · skip
              exact h.elim
          · skip
            exact h.elim
        · replace h := h.2 c8
          refine i_iconst r_272_63 (n_272_63 _) ?_
          exact i_ireturn r_272_64 (n_272_64 _) rfl h
      · skip
        exact h.elim
    · replace h := h.2 c5
      refine i_iconst r_272_52 (n_272_52 _) ?_
      refine i_goto (t := 57) r_272_53 (n_272_53 _) rfl ?_
      refine wp_virt (b := 252) (rest := []) (Ls := [(0, rf 252), (1, iv 2)]) r_272_57 (n_272_57 _) rfl ⟨rfl, rfl, by decide, by decide⟩ rfl rfl lf_252 ⟨rfl, Nat.le_of_ble_eq_true rfl, Nat.le_of_ble_eq_true rfl⟩ rfl h ?_
      intro o21 s21 h
      rcases h with ⟨y21, q22, rfl, h⟩ | ⟨e21, rfl, h⟩
      · refine .inl ⟨some (iv y21), rfl, ?_⟩
        show wp S 272 60 [(0, rf 252), (1, iv x1), (2, .long u2), (4, iv x4), (5, iv x5), (6, iv x90)] [iv y21] s21 Q
        refine i_if (t := 65) r_272_60 (n_272_60 _) rfl (T_eq q22 ⟨by omega, by omega⟩) (fun c23 => ?_) (fun c23 => ?_)
        · replace h := h.1 c23
          refine i_aload_n (a := 252) r_272_65 (n_272_65 _) rfl ?_
          refine wp_virt (b := 252) (rest := []) (Ls := [(0, rf 252)]) r_272_66 (n_272_66 _) rfl ⟨rfl, rfl, by decide, by decide⟩ rfl rfl lf_252 ⟨rfl, Nat.le_of_ble_eq_true rfl, Nat.le_of_ble_eq_true rfl⟩ rfl h ?_
          intro o24 s24 h
          rcases h with ⟨rfl, h⟩ | ⟨e24, rfl, h⟩
          · refine .inl ⟨none, rfl, ?_⟩
            refine i_aload_n (a := 252) r_272_69 (n_272_69 _) rfl ?_
            refine i_aload_n (a := 252) r_272_70 (n_272_70 _) rfl ?_
            refine i_iload_n (x := x1) r_272_71 (n_272_71 _) rfl ?_
            refine i_iconst r_272_72 (n_272_72 _) ?_
            refine wp_virt (b := 252) (rest := [rf 252]) (Ls := [(0, rf 252), (1, iv x1), (2, iv 0)]) r_272_73 (n_272_73 _) rfl ⟨rfl, rfl, by decide, by decide⟩ rfl rfl lf_252 ⟨rfl, Nat.le_of_ble_eq_true rfl, Nat.le_of_ble_eq_true rfl⟩ rfl h ?_
            intro o26 s26 h
            rcases h with ⟨y26, q27, rfl, h⟩ | ⟨e26, rfl, h⟩
            · refine .inl ⟨some (iv y26), rfl, ?_⟩
              show wp S 272 76 [(0, rf 252), (1, iv x1), (2, .long u2), (4, iv x4), (5, iv x5), (6, iv x90)] [iv y26, rf 252] s26 Q
              refine i_aload_n (a := 252) r_272_76 (n_272_76 _) rfl ?_
              refine i_iload_n (x := x1) r_272_77 (n_272_77 _) rfl ?_
              refine i_iconst r_272_78 (n_272_78 _) ?_
              refine wp_virt (b := 252) (rest := [iv y26, rf 252]) (Ls := [(0, rf 252), (1, iv x1), (2, iv 1)]) r_272_79 (n_272_79 _) rfl ⟨rfl, rfl, by decide, by decide⟩ rfl rfl lf_252 ⟨rfl, Nat.le_of_ble_eq_true rfl, Nat.le_of_ble_eq_true rfl⟩ rfl h ?_
              intro o28 s28 h
              rcases h with ⟨y28, q29, rfl, h⟩ | ⟨e28, rfl, h⟩
              · refine .inl ⟨some (iv y28), rfl, ?_⟩
                show wp S 272 82 [(0, rf 252), (1, iv x1), (2, .long u2), (4, iv x4), (5, iv x5), (6, iv x90)] [iv y28, iv y26, rf 252] s28 Q
                refine i_aload_n (a := 252) r_272_82 (n_272_82 _) rfl ?_
                refine i_iload_n (x := x1) r_272_83 (n_272_83 _) rfl ?_
                refine i_iconst r_272_84 (n_272_84 _) ?_
                refine wp_virt (b := 252) (rest := [iv y28, iv y26, rf 252]) (Ls := [(0, rf 252), (1, iv x1), (2, iv 2)]) r_272_85 (n_272_85 _) rfl ⟨rfl, rfl, by decide, by decide⟩ rfl rfl lf_252 ⟨rfl, Nat.le_of_ble_eq_true rfl, Nat.le_of_ble_eq_true rfl⟩ rfl h ?_
                intro o30 s30 h
                rcases h with ⟨y30, q31, rfl, h⟩ | ⟨e30, rfl, h⟩
                · refine .inl ⟨some (iv y30), rfl, ?_⟩
                  show wp S 272 88 [(0, rf 252), (1, iv x1), (2, .long u2), (4, iv x4), (5, iv x5), (6, iv x90)] [iv y30, iv y28, iv y26, rf 252] s30 Q
                  refine i_aload_n (a := 252) r_272_88 (n_272_88 _) rfl ?_
                  refine i_iload_n (x := x1) r_272_89 (n_272_89 _) rfl ?_
                  refine i_iconst r_272_90 (n_272_90 _) ?_
                  refine wp_virt (b := 252) (rest := [iv y30, iv y28, iv y26, rf 252]) (Ls := [(0, rf 252), (1, iv x1), (2, iv 4)]) r_272_91 (n_272_91 _) rfl ⟨rfl, rfl, by decide, by decide⟩ rfl rfl lf_252 ⟨rfl, Nat.le_of_ble_eq_true rfl, Nat.le_of_ble_eq_true rfl⟩ rfl h ?_
                  intro o32 s32 h
                  rcases h with ⟨y32, q33, rfl, h⟩ | ⟨e32, rfl, h⟩
                  · refine .inl ⟨some (iv y32), rfl, ?_⟩
                    show wp S 272 94 [(0, rf 252), (1, iv x1), (2, .long u2), (4, iv x4), (5, iv x5), (6, iv x90)] [iv y32, iv y30, iv y28, iv y26, rf 252] s32 Q
                    refine i_lload_n (u := u2) r_272_94 (n_272_94 _) rfl ?_
                    refine i_iload (x := x4) r_272_95 (n_272_95 _) rfl ?_
                    refine i_iload (x := x5) r_272_97 (n_272_97 _) rfl ?_
                    refine wp_virt (b := 252) (rest := []) (Ls := [(0, rf 252), (1, iv y26), (2, iv y28), (3, iv y30), (4, iv y32), (5, .long u2), (7, iv x4), (8, iv x5)]) r_272_99 (n_272_99 _) rfl ⟨rfl, rfl, by decide, by decide⟩ rfl rfl lf_252 ⟨rfl, Nat.le_of_ble_eq_true rfl, Nat.le_of_ble_eq_true rfl⟩ rfl h ?_
                    intro o34 s34 h
                    rcases h with ⟨y34, q35, rfl, h⟩ | ⟨e34, rfl, h⟩
                    · refine .inl ⟨some (iv y34), rfl, ?_⟩
                      show wp S 272 102 [(0, rf 252), (1, iv x1), (2, .long u2), (4, iv x4), (5, iv x5), (6, iv x90)] [iv y34] s34 Q
                      refine i_istore (l' := [(0, rf 252), (1, iv x1), (2, .long u2), (4, iv x4), (5, iv x5), (6, iv x90), (7, iv y34)]) r_272_102 (n_272_102 _) (by decide) rfl ?_
                      refine i_iconst r_272_104 (n_272_104 _) ?_
                      refine i_istore (l' := [(0, rf 252), (1, iv x1), (2, .long u2), (4, iv x4), (5, iv x5), (6, iv x90), (7, iv y34), (8, iv 0)]) r_272_105 (n_272_105 _) (by decide) rfl ?_
                      refine i_iconst r_272_107 (n_272_107 _) ?_
                      refine i_istore (l' := [(0, rf 252), (1, iv x1), (2, .long u2), (4, iv x4), (5, iv x5), (6, iv x90), (7, iv y34), (8, iv 0), (9, iv 0)]) r_272_108 (n_272_108 _) (by decide) rfl ?_
                      exact wp_pr (l' := [(0, rf 252), (7, iv y34), (8, iv 0), (9, iv 0)]) rfl h
                    · skip
                      exact h.elim
                  · skip
                    exact h.elim
                · skip
                  exact h.elim
              · skip
                exact h.elim
            · skip
              exact h.elim
          · skip
            exact h.elim
        · replace h := h.2 c23
          refine i_iconst r_272_63 (n_272_63 _) ?_
          exact i_ireturn r_272_64 (n_272_64 _) rfl h
      · skip
        exact h.elim
  · replace h := h.2 c2
    refine i_iconst r_272_41 (n_272_41 _) ?_
    refine i_goto (t := 57) r_272_42 (n_272_42 _) rfl ?_
    refine wp_virt (b := 252) (rest := []) (Ls := [(0, rf 252), (1, iv 1)]) r_272_57 (n_272_57 _) rfl ⟨rfl, rfl, by decide, by decide⟩ rfl rfl lf_252 ⟨rfl, Nat.le_of_ble_eq_true rfl, Nat.le_of_ble_eq_true rfl⟩ rfl h ?_
    intro o36 s36 h
    rcases h with ⟨y36, q37, rfl, h⟩ | ⟨e36, rfl, h⟩
    · refine .inl ⟨some (iv y36), rfl, ?_⟩
      show wp S 272 60 [(0, rf 252), (1, iv x1), (2, .long u2), (4, iv x4), (5, iv x5), (6, iv x90)] [iv y36] s36 Q
      refine i_if (t := 65) r_272_60 (n_272_60 _) rfl (T_eq q37 ⟨by omega, by omega⟩) (fun c38 => ?_) (fun c38 => ?_)
      · replace h := h.1 c38
        refine i_aload_n (a := 252) r_272_65 (n_272_65 _) rfl ?_
        refine wp_virt (b := 252) (rest := []) (Ls := [(0, rf 252)]) r_272_66 (n_272_66 _) rfl ⟨rfl, rfl, by decide, by decide⟩ rfl rfl lf_252 ⟨rfl, Nat.le_of_ble_eq_true rfl, Nat.le_of_ble_eq_true rfl⟩ rfl h ?_
        intro o39 s39 h
        rcases h with ⟨rfl, h⟩ | ⟨e39, rfl, h⟩
        · refine .inl ⟨none, rfl, ?_⟩
          refine i_aload_n (a := 252) r_272_69 (n_272_69 _) rfl ?_
          refine i_aload_n (a := 252) r_272_70 (n_272_70 _) rfl ?_
          refine i_iload_n (x := x1) r_272_71 (n_272_71 _) rfl ?_
          refine i_iconst r_272_72 (n_272_72 _) ?_
          refine wp_virt (b := 252) (rest := [rf 252]) (Ls := [(0, rf 252), (1, iv x1), (2, iv 0)]) r_272_73 (n_272_73 _) rfl ⟨rfl, rfl, by decide, by decide⟩ rfl rfl lf_252 ⟨rfl, Nat.le_of_ble_eq_true rfl, Nat.le_of_ble_eq_true rfl⟩ rfl h ?_
          intro o41 s41 h
          rcases h with ⟨y41, q42, rfl, h⟩ | ⟨e41, rfl, h⟩
          · refine .inl ⟨some (iv y41), rfl, ?_⟩
            show wp S 272 76 [(0, rf 252), (1, iv x1), (2, .long u2), (4, iv x4), (5, iv x5), (6, iv x90)] [iv y41, rf 252] s41 Q
            refine i_aload_n (a := 252) r_272_76 (n_272_76 _) rfl ?_
            refine i_iload_n (x := x1) r_272_77 (n_272_77 _) rfl ?_
            refine i_iconst r_272_78 (n_272_78 _) ?_
            refine wp_virt (b := 252) (rest := [iv y41, rf 252]) (Ls := [(0, rf 252), (1, iv x1), (2, iv 1)]) r_272_79 (n_272_79 _) rfl ⟨rfl, rfl, by decide, by decide⟩ rfl rfl lf_252 ⟨rfl, Nat.le_of_ble_eq_true rfl, Nat.le_of_ble_eq_true rfl⟩ rfl h ?_
            intro o43 s43 h
            rcases h with ⟨y43, q44, rfl, h⟩ | ⟨e43, rfl, h⟩
            · refine .inl ⟨some (iv y43), rfl, ?_⟩
              show wp S 272 82 [(0, rf 252), (1, iv x1), (2, .long u2), (4, iv x4), (5, iv x5), (6, iv x90)] [iv y43, iv y41, rf 252] s43 Q
              refine i_aload_n (a := 252) r_272_82 (n_272_82 _) rfl ?_
              refine i_iload_n (x := x1) r_272_83 (n_272_83 _) rfl ?_
              refine i_iconst r_272_84 (n_272_84 _) ?_
              refine wp_virt (b := 252) (rest := [iv y43, iv y41, rf 252]) (Ls := [(0, rf 252), (1, iv x1), (2, iv 2)]) r_272_85 (n_272_85 _) rfl ⟨rfl, rfl, by decide, by decide⟩ rfl rfl lf_252 ⟨rfl, Nat.le_of_ble_eq_true rfl, Nat.le_of_ble_eq_true rfl⟩ rfl h ?_
              intro o45 s45 h
              rcases h with ⟨y45, q46, rfl, h⟩ | ⟨e45, rfl, h⟩
              · refine .inl ⟨some (iv y45), rfl, ?_⟩
                show wp S 272 88 [(0, rf 252), (1, iv x1), (2, .long u2), (4, iv x4), (5, iv x5), (6, iv x90)] [iv y45, iv y43, iv y41, rf 252] s45 Q
                refine i_aload_n (a := 252) r_272_88 (n_272_88 _) rfl ?_
                refine i_iload_n (x := x1) r_272_89 (n_272_89 _) rfl ?_
                refine i_iconst r_272_90 (n_272_90 _) ?_
                refine wp_virt (b := 252) (rest := [iv y45, iv y43, iv y41, rf 252]) (Ls := [(0, rf 252), (1, iv x1), (2, iv 4)]) r_272_91 (n_272_91 _) rfl ⟨rfl, rfl, by decide, by decide⟩ rfl rfl lf_252 ⟨rfl, Nat.le_of_ble_eq_true rfl, Nat.le_of_ble_eq_true rfl⟩ rfl h ?_
                intro o47 s47 h
                rcases h with ⟨y47, q48, rfl, h⟩ | ⟨e47, rfl, h⟩
                · refine .inl ⟨some (iv y47), rfl, ?_⟩
                  show wp S 272 94 [(0, rf 252), (1, iv x1), (2, .long u2), (4, iv x4), (5, iv x5), (6, iv x90)] [iv y47, iv y45, iv y43, iv y41, rf 252] s47 Q
                  refine i_lload_n (u := u2) r_272_94 (n_272_94 _) rfl ?_
                  refine i_iload (x := x4) r_272_95 (n_272_95 _) rfl ?_
                  refine i_iload (x := x5) r_272_97 (n_272_97 _) rfl ?_
                  refine wp_virt (b := 252) (rest := []) (Ls := [(0, rf 252), (1, iv y41), (2, iv y43), (3, iv y45), (4, iv y47), (5, .long u2), (7, iv x4), (8, iv x5)]) r_272_99 (n_272_99 _) rfl ⟨rfl, rfl, by decide, by decide⟩ rfl rfl lf_252 ⟨rfl, Nat.le_of_ble_eq_true rfl, Nat.le_of_ble_eq_true rfl⟩ rfl h ?_
                  intro o49 s49 h
                  rcases h with ⟨y49, q50, rfl, h⟩ | ⟨e49, rfl, h⟩
                  · refine .inl ⟨some (iv y49), rfl, ?_⟩
                    show wp S 272 102 [(0, rf 252), (1, iv x1), (2, .long u2), (4, iv x4), (5, iv x5), (6, iv x90)] [iv y49] s49 Q
                    refine i_istore (l' := [(0, rf 252), (1, iv x1), (2, .long u2), (4, iv x4), (5, iv x5), (6, iv x90), (7, iv y49)]) r_272_102 (n_272_102 _) (by decide) rfl ?_
                    refine i_iconst r_272_104 (n_272_104 _) ?_
                    refine i_istore (l' := [(0, rf 252), (1, iv x1), (2, .long u2), (4, iv x4), (5, iv x5), (6, iv x90), (7, iv y49), (8, iv 0)]) r_272_105 (n_272_105 _) (by decide) rfl ?_
                    refine i_iconst r_272_107 (n_272_107 _) ?_
                    refine i_istore (l' := [(0, rf 252), (1, iv x1), (2, .long u2), (4, iv x4), (5, iv x5), (6, iv x90), (7, iv y49), (8, iv 0), (9, iv 0)]) r_272_108 (n_272_108 _) (by decide) rfl ?_
                    exact wp_pr (l' := [(0, rf 252), (7, iv y49), (8, iv 0), (9, iv 0)]) rfl h
                  · skip
                    exact h.elim
                · skip
                  exact h.elim
              · skip
                exact h.elim
            · skip
              exact h.elim
          · skip
            exact h.elim
        · skip
          exact h.elim
      · replace h := h.2 c38
        refine i_iconst r_272_63 (n_272_63 _) ?_
        exact i_ireturn r_272_64 (n_272_64 _) rfl h
    · skip
      exact h.elim
theorem v_Model_runs_110 {S : Option (Nat × (Nat → Int32))} {s : zSt} {Q : Option Value ⊕ Nat → zSt → Prop} {x7 : Int} {x8 : Int} {x9 : Int} 
    (h : rng x9 ∧ (rng x7 ∧ ((x7 ≤ x9 → Q (rI x8) s) ∧ (x9 < x7 → (0 ≤ x9 ∧ x9 < 8192) ∧ (((zI s 274 x9) ≠ 1 → wp S 272 110 [(0, rf 252), (7, iv x7), (8, iv (x8 + 0)), (9, iv (x9 + 1))] [] s Q) ∧ ((zI s 274 x9) = 1 → (x9 = 0 → wp S 272 110 [(0, rf 252), (7, iv x7), (8, iv (x8 + 1)), (9, iv (x9 + 1))] [] s Q) ∧ (x9 ≠ 0 → (0 ≤ (x9 - 1) ∧ (x9 - 1) < 8192) ∧ (((zI s 274 (x9 - 1)) ≠ 0 → wp S 272 110 [(0, rf 252), (7, iv x7), (8, iv (x8 + 0)), (9, iv (x9 + 1))] [] s Q) ∧ ((zI s 274 (x9 - 1)) = 0 → wp S 272 110 [(0, rf 252), (7, iv x7), (8, iv (x8 + 1)), (9, iv (x9 + 1))] [] s Q))))))))) :
    wp S 272 110 [(0, rf 252), (7, iv x7), (8, iv x8), (9, iv x9)] [] s Q := by
  refine i_iload (x := x9) r_272_110 rfl rfl ?_
  refine i_iload (x := x7) r_272_112 (n_272_112 _) rfl ?_
  obtain ⟨g1, h⟩ := h
  obtain ⟨g2, h⟩ := h
  refine i_icmp (t := 161) r_272_114 (n_272_114 _) rfl (T_ge g1 g2) (fun c3 => ?_) (fun c3 => ?_)
  · replace h := h.1 c3
    refine i_iload (x := x8) r_272_161 (n_272_161 _) rfl ?_
    exact i_ireturn r_272_163 (n_272_163 _) rfl h
  · replace h := h.2 c3
    refine i_iload (x := x8) r_272_117 (n_272_117 _) rfl ?_
    refine i_aload_n (a := 252) r_272_119 (n_272_119 _) rfl ?_
    refine i_getR (a := 252) (b := 274) r_272_120 (n_272_120 _) rfl rfl rfl (by omega) lf_252 (by omega) ?_
    refine i_iload (x := x9) r_272_123 (n_272_123 _) rfl ?_
    obtain ⟨g4, h⟩ := h
    refine i_iaload (a := 274) (j := x9) r_272_125 (n_272_125 _) lf_274 ⟨by omega, by omega⟩ (by omega) (by omega) (fun q5 => ?_)
    refine i_iconst r_272_126 (n_272_126 _) ?_
    refine i_icmp (t := 151) r_272_127 (n_272_127 _) rfl (T_ne q5 ⟨by omega, by omega⟩) (fun c6 => ?_) (fun c6 => ?_)
    · replace h := h.1 c6
      refine i_iconst r_272_151 (n_272_151 _) ?_
      refine i_iadd r_272_152 (n_272_152 _) ?_
      refine i_istore (l' := [(0, rf 252), (7, iv x7), (8, iv (x8 + 0)), (9, iv x9)]) r_272_153 (n_272_153 _) (by decide) rfl ?_
      refine i_iinc (x := x9) (l' := [(0, rf 252), (7, iv x7), (8, iv (x8 + 0)), (9, iv (x9 + 1))]) r_272_155 (n_272_155 _) (by decide) rfl rfl ?_
      refine i_goto (t := 110) r_272_158 (n_272_158 _) rfl ?_
      exact wp_pr (l' := [(0, rf 252), (7, iv x7), (8, iv (x8 + 0)), (9, iv (x9 + 1))]) rfl h
    · replace h := h.2 c6
      refine i_iload (x := x9) r_272_130 (n_272_130 _) rfl ?_
      refine i_if (t := 147) r_272_132 (n_272_132 _) rfl (T_eq g1 ⟨by omega, by omega⟩) (fun c7 => ?_) (fun c7 => ?_)
      · replace h := h.1 c7
        refine i_iconst r_272_147 (n_272_147 _) ?_
        refine i_goto (t := 152) r_272_148 (n_272_148 _) rfl ?_
        refine i_iadd r_272_152 (n_272_152 _) ?_
        refine i_istore (l' := [(0, rf 252), (7, iv x7), (8, iv (x8 + 1)), (9, iv x9)]) r_272_153 (n_272_153 _) (by decide) rfl ?_
        refine i_iinc (x := x9) (l' := [(0, rf 252), (7, iv x7), (8, iv (x8 + 1)), (9, iv (x9 + 1))]) r_272_155 (n_272_155 _) (by decide) rfl rfl ?_
        refine i_goto (t := 110) r_272_158 (n_272_158 _) rfl ?_
        exact wp_pr (l' := [(0, rf 252), (7, iv x7), (8, iv (x8 + 1)), (9, iv (x9 + 1))]) rfl h
      · replace h := h.2 c7
        refine i_aload_n (a := 252) r_272_135 (n_272_135 _) rfl ?_
        refine i_getR (a := 252) (b := 274) r_272_136 (n_272_136 _) rfl rfl rfl (by omega) lf_252 (by omega) ?_
        refine i_iload (x := x9) r_272_139 (n_272_139 _) rfl ?_
        refine i_iconst r_272_141 (n_272_141 _) ?_
        refine i_isub r_272_142 (n_272_142 _) ?_
        obtain ⟨g8, h⟩ := h
        refine i_iaload (a := 274) (j := x9 - 1) r_272_143 (n_272_143 _) lf_274 ⟨by omega, by omega⟩ (by omega) (by omega) (fun q9 => ?_)
        refine i_if (t := 151) r_272_144 (n_272_144 _) rfl (T_ne q9 ⟨by omega, by omega⟩) (fun c10 => ?_) (fun c10 => ?_)
        · replace h := h.1 c10
          refine i_iconst r_272_151 (n_272_151 _) ?_
          refine i_iadd r_272_152 (n_272_152 _) ?_
          refine i_istore (l' := [(0, rf 252), (7, iv x7), (8, iv (x8 + 0)), (9, iv x9)]) r_272_153 (n_272_153 _) (by decide) rfl ?_
          refine i_iinc (x := x9) (l' := [(0, rf 252), (7, iv x7), (8, iv (x8 + 0)), (9, iv (x9 + 1))]) r_272_155 (n_272_155 _) (by decide) rfl rfl ?_
          refine i_goto (t := 110) r_272_158 (n_272_158 _) rfl ?_
          exact wp_pr (l' := [(0, rf 252), (7, iv x7), (8, iv (x8 + 0)), (9, iv (x9 + 1))]) rfl h
        · replace h := h.2 c10
          refine i_iconst r_272_147 (n_272_147 _) ?_
          refine i_goto (t := 152) r_272_148 (n_272_148 _) rfl ?_
          refine i_iadd r_272_152 (n_272_152 _) ?_
          refine i_istore (l' := [(0, rf 252), (7, iv x7), (8, iv (x8 + 1)), (9, iv x9)]) r_272_153 (n_272_153 _) (by decide) rfl ?_
          refine i_iinc (x := x9) (l' := [(0, rf 252), (7, iv x7), (8, iv (x8 + 1)), (9, iv (x9 + 1))]) r_272_155 (n_272_155 _) (by decide) rfl rfl ?_
          refine i_goto (t := 110) r_272_158 (n_272_158 _) rfl ?_
          exact wp_pr (l' := [(0, rf 252), (7, iv x7), (8, iv (x8 + 1)), (9, iv (x9 + 1))]) rfl h
theorem r_273_0 : xfetch 273 0 = some (.aload_n 0, 1) := by decide +kernel
theorem n_273_0 : ∀ l, xpr 273 0 l = l := xpr_no (by decide +kernel)
theorem r_273_1 : xfetch 273 1 = some (.aload_n 0, 1) := by decide +kernel
theorem n_273_1 : ∀ l, xpr 273 1 l = l := xpr_no (by decide +kernel)
theorem r_273_2 : xfetch 273 2 = some (.iload_n 1, 1) := by decide +kernel
theorem n_273_2 : ∀ l, xpr 273 2 l = l := xpr_no (by decide +kernel)
theorem r_273_3 : xfetch 273 3 = some (.invokevirtual 225, 3) := by decide +kernel
theorem n_273_3 : ∀ l, xpr 273 3 l = l := xpr_no (by decide +kernel)
theorem r_273_6 : xfetch 273 6 = some (.ifCond .ne 7, 3) := by decide +kernel
theorem n_273_6 : ∀ l, xpr 273 6 l = l := xpr_no (by decide +kernel)
theorem r_273_9 : xfetch 273 9 = some (.iconst 1, 1) := by decide +kernel
theorem n_273_9 : ∀ l, xpr 273 9 l = l := xpr_no (by decide +kernel)
theorem r_273_10 : xfetch 273 10 = some (.goto 16, 3) := by decide +kernel
theorem n_273_10 : ∀ l, xpr 273 10 l = l := xpr_no (by decide +kernel)
theorem r_273_13 : xfetch 273 13 = some (.iload 4, 2) := by decide +kernel
theorem n_273_13 : ∀ l, xpr 273 13 l = l := xpr_no (by decide +kernel)
theorem r_273_15 : xfetch 273 15 = some (.invokestatic 290, 3) := by decide +kernel
theorem n_273_15 : ∀ l, xpr 273 15 l = l := xpr_no (by decide +kernel)
theorem r_273_18 : xfetch 273 18 = some (.ifCond .ne 7, 3) := by decide +kernel
theorem n_273_18 : ∀ l, xpr 273 18 l = l := xpr_no (by decide +kernel)
theorem r_273_21 : xfetch 273 21 = some (.iconst 2, 1) := by decide +kernel
theorem n_273_21 : ∀ l, xpr 273 21 l = l := xpr_no (by decide +kernel)
theorem r_273_22 : xfetch 273 22 = some (.goto 4, 3) := by decide +kernel
theorem n_273_22 : ∀ l, xpr 273 22 l = l := xpr_no (by decide +kernel)
theorem r_273_25 : xfetch 273 25 = some (.iconst 0, 1) := by decide +kernel
theorem n_273_25 : ∀ l, xpr 273 25 l = l := xpr_no (by decide +kernel)
theorem r_273_26 : xfetch 273 26 = some (.invokevirtual 84, 3) := by decide +kernel
theorem n_273_26 : ∀ l, xpr 273 26 l = l := xpr_no (by decide +kernel)
theorem r_273_29 : xfetch 273 29 = some (.ifCond .eq 5, 3) := by decide +kernel
theorem n_273_29 : ∀ l, xpr 273 29 l = l := xpr_no (by decide +kernel)
theorem r_273_32 : xfetch 273 32 = some (.iconst 0, 1) := by decide +kernel
theorem n_273_32 : ∀ l, xpr 273 32 l = l := xpr_no (by decide +kernel)
theorem r_273_33 : xfetch 273 33 = some (.ireturn, 1) := by decide +kernel
theorem n_273_33 : ∀ l, xpr 273 33 l = l := xpr_no (by decide +kernel)
theorem r_273_34 : xfetch 273 34 = some (.aload_n 0, 1) := by decide +kernel
theorem n_273_34 : ∀ l, xpr 273 34 l = l := xpr_no (by decide +kernel)
theorem r_273_35 : xfetch 273 35 = some (.invokevirtual 152, 3) := by decide +kernel
theorem n_273_35 : ∀ l, xpr 273 35 l = l := xpr_no (by decide +kernel)
theorem r_273_38 : xfetch 273 38 = some (.iconst (-1), 1) := by decide +kernel
theorem n_273_38 : ∀ l, xpr 273 38 l = l := xpr_no (by decide +kernel)
theorem r_273_39 : xfetch 273 39 = some (.istore 5, 2) := by decide +kernel
theorem n_273_39 : ∀ l, xpr 273 39 l = l := xpr_no (by decide +kernel)
theorem r_273_41 : xfetch 273 41 = some (.iconst (-1), 1) := by decide +kernel
theorem n_273_41 : ∀ l, xpr 273 41 l = l := xpr_no (by decide +kernel)
theorem r_273_42 : xfetch 273 42 = some (.istore 6, 2) := by decide +kernel
theorem n_273_42 : ∀ l, xpr 273 42 l = l := xpr_no (by decide +kernel)
theorem r_273_44 : xfetch 273 44 = some (.iconst 0, 1) := by decide +kernel
theorem n_273_44 : ∀ l, xpr 273 44 l = l := xpr_no (by decide +kernel)
theorem r_273_45 : xfetch 273 45 = some (.istore 7, 2) := by decide +kernel
theorem n_273_45 : ∀ l, xpr 273 45 l = l := xpr_no (by decide +kernel)
theorem r_273_47 : xfetch 273 47 = some (.iload 7, 2) := by decide +kernel
theorem r_273_49 : xfetch 273 49 = some (.bipush 8, 2) := by decide +kernel
theorem n_273_49 : ∀ l, xpr 273 49 l = l := xpr_no (by decide +kernel)
theorem r_273_51 : xfetch 273 51 = some (.if_icmp .gt 68, 3) := by decide +kernel
theorem n_273_51 : ∀ l, xpr 273 51 l = l := xpr_no (by decide +kernel)
theorem r_273_54 : xfetch 273 54 = some (.aload_n 0, 1) := by decide +kernel
theorem n_273_54 : ∀ l, xpr 273 54 l = l := xpr_no (by decide +kernel)
theorem r_273_55 : xfetch 273 55 = some (.aload_n 0, 1) := by decide +kernel
theorem n_273_55 : ∀ l, xpr 273 55 l = l := xpr_no (by decide +kernel)
theorem r_273_56 : xfetch 273 56 = some (.iload_n 1, 1) := by decide +kernel
theorem n_273_56 : ∀ l, xpr 273 56 l = l := xpr_no (by decide +kernel)
theorem r_273_57 : xfetch 273 57 = some (.iconst 0, 1) := by decide +kernel
theorem n_273_57 : ∀ l, xpr 273 57 l = l := xpr_no (by decide +kernel)
theorem r_273_58 : xfetch 273 58 = some (.invokevirtual 228, 3) := by decide +kernel
theorem n_273_58 : ∀ l, xpr 273 58 l = l := xpr_no (by decide +kernel)
theorem r_273_61 : xfetch 273 61 = some (.aload_n 0, 1) := by decide +kernel
theorem n_273_61 : ∀ l, xpr 273 61 l = l := xpr_no (by decide +kernel)
theorem r_273_62 : xfetch 273 62 = some (.iload_n 1, 1) := by decide +kernel
theorem n_273_62 : ∀ l, xpr 273 62 l = l := xpr_no (by decide +kernel)
theorem r_273_63 : xfetch 273 63 = some (.iconst 1, 1) := by decide +kernel
theorem n_273_63 : ∀ l, xpr 273 63 l = l := xpr_no (by decide +kernel)
theorem r_273_64 : xfetch 273 64 = some (.invokevirtual 228, 3) := by decide +kernel
theorem n_273_64 : ∀ l, xpr 273 64 l = l := xpr_no (by decide +kernel)
theorem r_273_67 : xfetch 273 67 = some (.iload 7, 2) := by decide +kernel
theorem n_273_67 : ∀ l, xpr 273 67 l = l := xpr_no (by decide +kernel)
theorem r_273_69 : xfetch 273 69 = some (.iconst 0, 1) := by decide +kernel
theorem n_273_69 : ∀ l, xpr 273 69 l = l := xpr_no (by decide +kernel)
theorem r_273_70 : xfetch 273 70 = some (.lload_n 2, 1) := by decide +kernel
theorem n_273_70 : ∀ l, xpr 273 70 l = l := xpr_no (by decide +kernel)
theorem r_273_71 : xfetch 273 71 = some (.iconst 0, 1) := by decide +kernel
theorem n_273_71 : ∀ l, xpr 273 71 l = l := xpr_no (by decide +kernel)
theorem r_273_72 : xfetch 273 72 = some (.aload_n 0, 1) := by decide +kernel
theorem n_273_72 : ∀ l, xpr 273 72 l = l := xpr_no (by decide +kernel)
theorem r_273_73 : xfetch 273 73 = some (.iload_n 1, 1) := by decide +kernel
theorem n_273_73 : ∀ l, xpr 273 73 l = l := xpr_no (by decide +kernel)
theorem r_273_74 : xfetch 273 74 = some (.iconst 1, 1) := by decide +kernel
theorem n_273_74 : ∀ l, xpr 273 74 l = l := xpr_no (by decide +kernel)
theorem r_273_75 : xfetch 273 75 = some (.invokevirtual 228, 3) := by decide +kernel
theorem n_273_75 : ∀ l, xpr 273 75 l = l := xpr_no (by decide +kernel)
theorem r_273_78 : xfetch 273 78 = some (.iconst 1, 1) := by decide +kernel
theorem n_273_78 : ∀ l, xpr 273 78 l = l := xpr_no (by decide +kernel)
theorem r_273_79 : xfetch 273 79 = some (.isub, 1) := by decide +kernel
theorem n_273_79 : ∀ l, xpr 273 79 l = l := xpr_no (by decide +kernel)
theorem r_273_80 : xfetch 273 80 = some (.invokevirtual 293, 3) := by decide +kernel
theorem n_273_80 : ∀ l, xpr 273 80 l = l := xpr_no (by decide +kernel)
theorem r_273_83 : xfetch 273 83 = some (.pop, 1) := by decide +kernel
theorem n_273_83 : ∀ l, xpr 273 83 l = l := xpr_no (by decide +kernel)
theorem r_273_84 : xfetch 273 84 = some (.aload_n 0, 1) := by decide +kernel
theorem n_273_84 : ∀ l, xpr 273 84 l = l := xpr_no (by decide +kernel)
theorem r_273_85 : xfetch 273 85 = some (.iload 4, 2) := by decide +kernel
theorem n_273_85 : ∀ l, xpr 273 85 l = l := xpr_no (by decide +kernel)
theorem r_273_87 : xfetch 273 87 = some (.invokevirtual 297, 3) := by decide +kernel
theorem n_273_87 : ∀ l, xpr 273 87 l = l := xpr_no (by decide +kernel)
theorem r_273_90 : xfetch 273 90 = some (.istore 8, 2) := by decide +kernel
theorem n_273_90 : ∀ l, xpr 273 90 l = l := xpr_no (by decide +kernel)
theorem r_273_92 : xfetch 273 92 = some (.iload 6, 2) := by decide +kernel
theorem n_273_92 : ∀ l, xpr 273 92 l = l := xpr_no (by decide +kernel)
theorem r_273_94 : xfetch 273 94 = some (.iconst (-1), 1) := by decide +kernel
theorem n_273_94 : ∀ l, xpr 273 94 l = l := xpr_no (by decide +kernel)
theorem r_273_95 : xfetch 273 95 = some (.if_icmp .eq 10, 3) := by decide +kernel
theorem n_273_95 : ∀ l, xpr 273 95 l = l := xpr_no (by decide +kernel)
theorem r_273_98 : xfetch 273 98 = some (.iload 8, 2) := by decide +kernel
theorem n_273_98 : ∀ l, xpr 273 98 l = l := xpr_no (by decide +kernel)
theorem r_273_100 : xfetch 273 100 = some (.iload 5, 2) := by decide +kernel
theorem n_273_100 : ∀ l, xpr 273 100 l = l := xpr_no (by decide +kernel)
theorem r_273_102 : xfetch 273 102 = some (.if_icmp .ge 11, 3) := by decide +kernel
theorem n_273_102 : ∀ l, xpr 273 102 l = l := xpr_no (by decide +kernel)
theorem r_273_105 : xfetch 273 105 = some (.iload 8, 2) := by decide +kernel
theorem n_273_105 : ∀ l, xpr 273 105 l = l := xpr_no (by decide +kernel)
theorem r_273_107 : xfetch 273 107 = some (.istore 5, 2) := by decide +kernel
theorem n_273_107 : ∀ l, xpr 273 107 l = l := xpr_no (by decide +kernel)
theorem r_273_109 : xfetch 273 109 = some (.iload 7, 2) := by decide +kernel
theorem n_273_109 : ∀ l, xpr 273 109 l = l := xpr_no (by decide +kernel)
theorem r_273_111 : xfetch 273 111 = some (.istore 6, 2) := by decide +kernel
theorem n_273_111 : ∀ l, xpr 273 111 l = l := xpr_no (by decide +kernel)
theorem r_273_113 : xfetch 273 113 = some (.iinc 7 1, 3) := by decide +kernel
theorem n_273_113 : ∀ l, xpr 273 113 l = l := xpr_no (by decide +kernel)
theorem r_273_116 : xfetch 273 116 = some (.goto (-69), 3) := by decide +kernel
theorem n_273_116 : ∀ l, xpr 273 116 l = l := xpr_no (by decide +kernel)
theorem r_273_119 : xfetch 273 119 = some (.iload 6, 2) := by decide +kernel
theorem n_273_119 : ∀ l, xpr 273 119 l = l := xpr_no (by decide +kernel)
theorem r_273_121 : xfetch 273 121 = some (.ireturn, 1) := by decide +kernel
theorem n_273_121 : ∀ l, xpr 273 121 l = l := xpr_no (by decide +kernel)
theorem v_Model_bestLayout_0 {S : Option (Nat × (Nat → Int32))} {s : zSt} {Q : Option Value ⊕ Nat → zSt → Prop} {x1 : Int} {u2 : Int64} {x4 : Int} 
    (h : wp S 229 0 [(0, rf 252), (1, iv x1)] [] s (fun o1 s1 => zkI (fun y1 => (y1 ≠ 0 → wp S 269 0 [(0, iv x4)] [] s1 (fun o4 s4 => zkI (fun y4 => (y4 ≠ 0 → wp S 179 0 [(0, rf 252), (1, iv 0)] [] s4 (fun o7 s7 => zkI (fun y7 => (y7 = 0 → wp S 193 0 [(0, rf 252)] [] s7 (fun o10 s10 => zkU (wp S 273 47 [(0, rf 252), (1, iv x1), (2, .long u2), (4, iv x4), (5, iv (-1)), (6, iv (-1)), (7, iv 0)] [] s10 Q) (fun e10 => False) o10)) ∧ (y7 ≠ 0 → Q (rI 0) s7)) (fun e7 => False) o7)) ∧ (y4 = 0 → wp S 179 0 [(0, rf 252), (1, iv 2)] [] s4 (fun o12 s12 => zkI (fun y12 => (y12 = 0 → wp S 193 0 [(0, rf 252)] [] s12 (fun o15 s15 => zkU (wp S 273 47 [(0, rf 252), (1, iv x1), (2, .long u2), (4, iv x4), (5, iv (-1)), (6, iv (-1)), (7, iv 0)] [] s15 Q) (fun e15 => False) o15)) ∧ (y12 ≠ 0 → Q (rI 0) s12)) (fun e12 => False) o12))) (fun e4 => False) o4)) ∧ (y1 = 0 → wp S 179 0 [(0, rf 252), (1, iv 1)] [] s1 (fun o17 s17 => zkI (fun y17 => (y17 = 0 → wp S 193 0 [(0, rf 252)] [] s17 (fun o20 s20 => zkU (wp S 273 47 [(0, rf 252), (1, iv x1), (2, .long u2), (4, iv x4), (5, iv (-1)), (6, iv (-1)), (7, iv 0)] [] s20 Q) (fun e20 => False) o20)) ∧ (y17 ≠ 0 → Q (rI 0) s17)) (fun e17 => False) o17))) (fun e1 => False) o1)) :
    wp S 273 0 [(0, rf 252), (1, iv x1), (2, .long u2), (4, iv x4)] [] s Q := by
  refine i_aload_n (a := 252) r_273_0 (n_273_0 _) rfl ?_
  refine i_aload_n (a := 252) r_273_1 (n_273_1 _) rfl ?_
  refine i_iload_n (x := x1) r_273_2 (n_273_2 _) rfl ?_
  refine wp_virt (b := 252) (rest := [rf 252]) (Ls := [(0, rf 252), (1, iv x1)]) r_273_3 (n_273_3 _) rfl ⟨rfl, rfl, by decide, by decide⟩ rfl rfl lf_252 ⟨rfl, Nat.le_of_ble_eq_true rfl, Nat.le_of_ble_eq_true rfl⟩ rfl h ?_
  intro o1 s1 h
  rcases h with ⟨y1, q2, rfl, h⟩ | ⟨e1, rfl, h⟩
  · refine .inl ⟨some (iv y1), rfl, ?_⟩
    show wp S 273 6 [(0, rf 252), (1, iv x1), (2, .long u2), (4, iv x4)] [iv y1, rf 252] s1 Q
    refine i_if (t := 13) r_273_6 (n_273_6 _) rfl (T_ne q2 ⟨by omega, by omega⟩) (fun c3 => ?_) (fun c3 => ?_)
    · replace h := h.1 c3
      refine i_iload (x := x4) r_273_13 (n_273_13 _) rfl ?_
      refine wp_stat (rest := [rf 252]) (Ls := [(0, iv x4)]) r_273_15 (n_273_15 _) rfl ⟨rfl, by decide, by decide, by decide⟩ rfl rfl ⟨rfl, Nat.le_of_ble_eq_true rfl, Nat.le_of_ble_eq_true rfl⟩ rfl h ?_
      intro o4 s4 h
      rcases h with ⟨y4, q5, rfl, h⟩ | ⟨e4, rfl, h⟩
      · refine .inl ⟨some (iv y4), rfl, ?_⟩
        show wp S 273 18 [(0, rf 252), (1, iv x1), (2, .long u2), (4, iv x4)] [iv y4, rf 252] s4 Q
        refine i_if (t := 25) r_273_18 (n_273_18 _) rfl (T_ne q5 ⟨by omega, by omega⟩) (fun c6 => ?_) (fun c6 => ?_)
        · replace h := h.1 c6
          refine i_iconst r_273_25 (n_273_25 _) ?_
          refine wp_virt (b := 252) (rest := []) (Ls := [(0, rf 252), (1, iv 0)]) r_273_26 (n_273_26 _) rfl ⟨rfl, rfl, by decide, by decide⟩ rfl rfl lf_252 ⟨rfl, Nat.le_of_ble_eq_true rfl, Nat.le_of_ble_eq_true rfl⟩ rfl h ?_
          intro o7 s7 h
          rcases h with ⟨y7, q8, rfl, h⟩ | ⟨e7, rfl, h⟩
          · refine .inl ⟨some (iv y7), rfl, ?_⟩
            show wp S 273 29 [(0, rf 252), (1, iv x1), (2, .long u2), (4, iv x4)] [iv y7] s7 Q
            refine i_if (t := 34) r_273_29 (n_273_29 _) rfl (T_eq q8 ⟨by omega, by omega⟩) (fun c9 => ?_) (fun c9 => ?_)
            · replace h := h.1 c9
              refine i_aload_n (a := 252) r_273_34 (n_273_34 _) rfl ?_
              refine wp_virt (b := 252) (rest := []) (Ls := [(0, rf 252)]) r_273_35 (n_273_35 _) rfl ⟨rfl, rfl, by decide, by decide⟩ rfl rfl lf_252 ⟨rfl, Nat.le_of_ble_eq_true rfl, Nat.le_of_ble_eq_true rfl⟩ rfl h ?_
              intro o10 s10 h
              rcases h with ⟨rfl, h⟩ | ⟨e10, rfl, h⟩
              · refine .inl ⟨none, rfl, ?_⟩
                refine i_iconst r_273_38 (n_273_38 _) ?_
                refine i_istore (l' := [(0, rf 252), (1, iv x1), (2, .long u2), (4, iv x4), (5, iv (-1))]) r_273_39 (n_273_39 _) (by decide) rfl ?_
                refine i_iconst r_273_41 (n_273_41 _) ?_
                refine i_istore (l' := [(0, rf 252), (1, iv x1), (2, .long u2), (4, iv x4), (5, iv (-1)), (6, iv (-1))]) r_273_42 (n_273_42 _) (by decide) rfl ?_
                refine i_iconst r_273_44 (n_273_44 _) ?_
                refine i_istore (l' := [(0, rf 252), (1, iv x1), (2, .long u2), (4, iv x4), (5, iv (-1)), (6, iv (-1)), (7, iv 0)]) r_273_45 (n_273_45 _) (by decide) rfl ?_
                exact wp_pr (l' := [(0, rf 252), (1, iv x1), (2, .long u2), (4, iv x4), (5, iv (-1)), (6, iv (-1)), (7, iv 0)]) rfl h
              · skip
                exact h.elim
            · replace h := h.2 c9
              refine i_iconst r_273_32 (n_273_32 _) ?_
              exact i_ireturn r_273_33 (n_273_33 _) rfl h
          · skip
            exact h.elim
        · replace h := h.2 c6
          refine i_iconst r_273_21 (n_273_21 _) ?_
          refine i_goto (t := 26) r_273_22 (n_273_22 _) rfl ?_
          refine wp_virt (b := 252) (rest := []) (Ls := [(0, rf 252), (1, iv 2)]) r_273_26 (n_273_26 _) rfl ⟨rfl, rfl, by decide, by decide⟩ rfl rfl lf_252 ⟨rfl, Nat.le_of_ble_eq_true rfl, Nat.le_of_ble_eq_true rfl⟩ rfl h ?_
          intro o12 s12 h
          rcases h with ⟨y12, q13, rfl, h⟩ | ⟨e12, rfl, h⟩
          · refine .inl ⟨some (iv y12), rfl, ?_⟩
            show wp S 273 29 [(0, rf 252), (1, iv x1), (2, .long u2), (4, iv x4)] [iv y12] s12 Q
            refine i_if (t := 34) r_273_29 (n_273_29 _) rfl (T_eq q13 ⟨by omega, by omega⟩) (fun c14 => ?_) (fun c14 => ?_)
            · replace h := h.1 c14
              refine i_aload_n (a := 252) r_273_34 (n_273_34 _) rfl ?_
              refine wp_virt (b := 252) (rest := []) (Ls := [(0, rf 252)]) r_273_35 (n_273_35 _) rfl ⟨rfl, rfl, by decide, by decide⟩ rfl rfl lf_252 ⟨rfl, Nat.le_of_ble_eq_true rfl, Nat.le_of_ble_eq_true rfl⟩ rfl h ?_
              intro o15 s15 h
              rcases h with ⟨rfl, h⟩ | ⟨e15, rfl, h⟩
              · refine .inl ⟨none, rfl, ?_⟩
                refine i_iconst r_273_38 (n_273_38 _) ?_
                refine i_istore (l' := [(0, rf 252), (1, iv x1), (2, .long u2), (4, iv x4), (5, iv (-1))]) r_273_39 (n_273_39 _) (by decide) rfl ?_
                refine i_iconst r_273_41 (n_273_41 _) ?_
                refine i_istore (l' := [(0, rf 252), (1, iv x1), (2, .long u2), (4, iv x4), (5, iv (-1)), (6, iv (-1))]) r_273_42 (n_273_42 _) (by decide) rfl ?_
                refine i_iconst r_273_44 (n_273_44 _) ?_
                refine i_istore (l' := [(0, rf 252), (1, iv x1), (2, .long u2), (4, iv x4), (5, iv (-1)), (6, iv (-1)), (7, iv 0)]) r_273_45 (n_273_45 _) (by decide) rfl ?_
                exact wp_pr (l' := [(0, rf 252), (1, iv x1), (2, .long u2), (4, iv x4), (5, iv (-1)), (6, iv (-1)), (7, iv 0)]) rfl h
              · skip
                exact h.elim
            · replace h := h.2 c14
              refine i_iconst r_273_32 (n_273_32 _) ?_
              exact i_ireturn r_273_33 (n_273_33 _) rfl h
          · skip
            exact h.elim
      · skip
        exact h.elim
    · replace h := h.2 c3
      refine i_iconst r_273_9 (n_273_9 _) ?_
      refine i_goto (t := 26) r_273_10 (n_273_10 _) rfl ?_
      refine wp_virt (b := 252) (rest := []) (Ls := [(0, rf 252), (1, iv 1)]) r_273_26 (n_273_26 _) rfl ⟨rfl, rfl, by decide, by decide⟩ rfl rfl lf_252 ⟨rfl, Nat.le_of_ble_eq_true rfl, Nat.le_of_ble_eq_true rfl⟩ rfl h ?_
      intro o17 s17 h
      rcases h with ⟨y17, q18, rfl, h⟩ | ⟨e17, rfl, h⟩
      · refine .inl ⟨some (iv y17), rfl, ?_⟩
        show wp S 273 29 [(0, rf 252), (1, iv x1), (2, .long u2), (4, iv x4)] [iv y17] s17 Q
        refine i_if (t := 34) r_273_29 (n_273_29 _) rfl (T_eq q18 ⟨by omega, by omega⟩) (fun c19 => ?_) (fun c19 => ?_)
        · replace h := h.1 c19
          refine i_aload_n (a := 252) r_273_34 (n_273_34 _) rfl ?_
          refine wp_virt (b := 252) (rest := []) (Ls := [(0, rf 252)]) r_273_35 (n_273_35 _) rfl ⟨rfl, rfl, by decide, by decide⟩ rfl rfl lf_252 ⟨rfl, Nat.le_of_ble_eq_true rfl, Nat.le_of_ble_eq_true rfl⟩ rfl h ?_
          intro o20 s20 h
          rcases h with ⟨rfl, h⟩ | ⟨e20, rfl, h⟩
          · refine .inl ⟨none, rfl, ?_⟩
            refine i_iconst r_273_38 (n_273_38 _) ?_
            refine i_istore (l' := [(0, rf 252), (1, iv x1), (2, .long u2), (4, iv x4), (5, iv (-1))]) r_273_39 (n_273_39 _) (by decide) rfl ?_
            refine i_iconst r_273_41 (n_273_41 _) ?_
            refine i_istore (l' := [(0, rf 252), (1, iv x1), (2, .long u2), (4, iv x4), (5, iv (-1)), (6, iv (-1))]) r_273_42 (n_273_42 _) (by decide) rfl ?_
            refine i_iconst r_273_44 (n_273_44 _) ?_
            refine i_istore (l' := [(0, rf 252), (1, iv x1), (2, .long u2), (4, iv x4), (5, iv (-1)), (6, iv (-1)), (7, iv 0)]) r_273_45 (n_273_45 _) (by decide) rfl ?_
            exact wp_pr (l' := [(0, rf 252), (1, iv x1), (2, .long u2), (4, iv x4), (5, iv (-1)), (6, iv (-1)), (7, iv 0)]) rfl h
          · skip
            exact h.elim
        · replace h := h.2 c19
          refine i_iconst r_273_32 (n_273_32 _) ?_
          exact i_ireturn r_273_33 (n_273_33 _) rfl h
      · skip
        exact h.elim
  · skip
    exact h.elim
theorem v_Model_bestLayout_47 {S : Option (Nat × (Nat → Int32))} {s : zSt} {Q : Option Value ⊕ Nat → zSt → Prop} {x1 : Int} {u2 : Int64} {x4 : Int} {x5 : Int} {x6 : Int} {x7 : Int} 
    (h : rng x7 ∧ ((8 < x7 → Q (rI x6) s) ∧ (x7 ≤ 8 → wp S 236 0 [(0, rf 252), (1, iv x1), (2, iv 0)] [] s (fun o3 s3 => zkI (fun y3 => wp S 236 0 [(0, rf 252), (1, iv x1), (2, iv 1)] [] s3 (fun o5 s5 => zkI (fun y5 => wp S 236 0 [(0, rf 252), (1, iv x1), (2, iv 1)] [] s5 (fun o7 s7 => zkI (fun y7 => wp S 270 0 [(0, rf 252), (1, iv y3), (2, iv y5), (3, iv x7), (4, iv 0), (5, .long u2), (7, iv 0), (8, iv (y7 - 1))] [] s7 (fun o9 s9 => zkI (fun y9 => wp S 271 0 [(0, rf 252), (1, iv x4)] [] s9 (fun o11 s11 => zkI (fun y11 => rng x6 ∧ ((x6 = (-1) → wp S 273 47 [(0, rf 252), (1, iv x1), (2, .long u2), (4, iv x4), (5, iv y11), (6, iv x7), (7, iv (x7 + 1))] [] s11 Q) ∧ (x6 ≠ (-1) → rng x5 ∧ ((x5 ≤ y11 → wp S 273 47 [(0, rf 252), (1, iv x1), (2, .long u2), (4, iv x4), (5, iv x5), (6, iv x6), (7, iv (x7 + 1))] [] s11 Q) ∧ (y11 < x5 → wp S 273 47 [(0, rf 252), (1, iv x1), (2, .long u2), (4, iv x4), (5, iv y11), (6, iv x7), (7, iv (x7 + 1))] [] s11 Q))))) (fun e11 => False) o11)) (fun e9 => False) o9)) (fun e7 => False) o7)) (fun e5 => False) o5)) (fun e3 => False) o3)))) :
    wp S 273 47 [(0, rf 252), (1, iv x1), (2, .long u2), (4, iv x4), (5, iv x5), (6, iv x6), (7, iv x7)] [] s Q := by
  refine i_iload (x := x7) r_273_47 rfl rfl ?_
  refine i_bipush r_273_49 (n_273_49 _) rfl ?_
  obtain ⟨g1, h⟩ := h
  refine i_icmp (t := 119) r_273_51 (n_273_51 _) rfl (T_gt g1 ⟨by omega, by omega⟩) (fun c2 => ?_) (fun c2 => ?_)
  · replace h := h.1 c2
    refine i_iload (x := x6) r_273_119 (n_273_119 _) rfl ?_
    exact i_ireturn r_273_121 (n_273_121 _) rfl h
  · replace h := h.2 c2
    refine i_aload_n (a := 252) r_273_54 (n_273_54 _) rfl ?_
    refine i_aload_n (a := 252) r_273_55 (n_273_55 _) rfl ?_
    refine i_iload_n (x := x1) r_273_56 (n_273_56 _) rfl ?_
    refine i_iconst r_273_57 (n_273_57 _) ?_
    refine wp_virt (b := 252) (rest := [rf 252]) (Ls := [(0, rf 252), (1, iv x1), (2, iv 0)]) r_273_58 (n_273_58 _) rfl ⟨rfl, rfl, by decide, by decide⟩ rfl rfl lf_252 ⟨rfl, Nat.le_of_ble_eq_true rfl, Nat.le_of_ble_eq_true rfl⟩ rfl h ?_
    intro o3 s3 h
    rcases h with ⟨y3, q4, rfl, h⟩ | ⟨e3, rfl, h⟩
    · refine .inl ⟨some (iv y3), rfl, ?_⟩
      show wp S 273 61 [(0, rf 252), (1, iv x1), (2, .long u2), (4, iv x4), (5, iv x5), (6, iv x6), (7, iv x7)] [iv y3, rf 252] s3 Q
      refine i_aload_n (a := 252) r_273_61 (n_273_61 _) rfl ?_
      refine i_iload_n (x := x1) r_273_62 (n_273_62 _) rfl ?_
      refine i_iconst r_273_63 (n_273_63 _) ?_
      refine wp_virt (b := 252) (rest := [iv y3, rf 252]) (Ls := [(0, rf 252), (1, iv x1), (2, iv 1)]) r_273_64 (n_273_64 _) rfl ⟨rfl, rfl, by decide, by decide⟩ rfl rfl lf_252 ⟨rfl, Nat.le_of_ble_eq_true rfl, Nat.le_of_ble_eq_true rfl⟩ rfl h ?_
      intro o5 s5 h
      rcases h with ⟨y5, q6, rfl, h⟩ | ⟨e5, rfl, h⟩
      · refine .inl ⟨some (iv y5), rfl, ?_⟩
        show wp S 273 67 [(0, rf 252), (1, iv x1), (2, .long u2), (4, iv x4), (5, iv x5), (6, iv x6), (7, iv x7)] [iv y5, iv y3, rf 252] s5 Q
        refine i_iload (x := x7) r_273_67 (n_273_67 _) rfl ?_
        refine i_iconst r_273_69 (n_273_69 _) ?_
        refine i_lload_n (u := u2) r_273_70 (n_273_70 _) rfl ?_
        refine i_iconst r_273_71 (n_273_71 _) ?_
        refine i_aload_n (a := 252) r_273_72 (n_273_72 _) rfl ?_
        refine i_iload_n (x := x1) r_273_73 (n_273_73 _) rfl ?_
        refine i_iconst r_273_74 (n_273_74 _) ?_
        refine wp_virt (b := 252) (rest := [iv 0, .long u2, iv 0, iv x7, iv y5, iv y3, rf 252]) (Ls := [(0, rf 252), (1, iv x1), (2, iv 1)]) r_273_75 (n_273_75 _) rfl ⟨rfl, rfl, by decide, by decide⟩ rfl rfl lf_252 ⟨rfl, Nat.le_of_ble_eq_true rfl, Nat.le_of_ble_eq_true rfl⟩ rfl h ?_
        intro o7 s7 h
        rcases h with ⟨y7, q8, rfl, h⟩ | ⟨e7, rfl, h⟩
        · refine .inl ⟨some (iv y7), rfl, ?_⟩
          show wp S 273 78 [(0, rf 252), (1, iv x1), (2, .long u2), (4, iv x4), (5, iv x5), (6, iv x6), (7, iv x7)] [iv y7, iv 0, .long u2, iv 0, iv x7, iv y5, iv y3, rf 252] s7 Q
          refine i_iconst r_273_78 (n_273_78 _) ?_
          refine i_isub r_273_79 (n_273_79 _) ?_
          refine wp_virt (b := 252) (rest := []) (Ls := [(0, rf 252), (1, iv y3), (2, iv y5), (3, iv x7), (4, iv 0), (5, .long u2), (7, iv 0), (8, iv (y7 - 1))]) r_273_80 (n_273_80 _) rfl ⟨rfl, rfl, by decide, by decide⟩ rfl rfl lf_252 ⟨rfl, Nat.le_of_ble_eq_true rfl, Nat.le_of_ble_eq_true rfl⟩ rfl h ?_
          intro o9 s9 h
          rcases h with ⟨y9, q10, rfl, h⟩ | ⟨e9, rfl, h⟩
          · refine .inl ⟨some (iv y9), rfl, ?_⟩
            show wp S 273 83 [(0, rf 252), (1, iv x1), (2, .long u2), (4, iv x4), (5, iv x5), (6, iv x6), (7, iv x7)] [iv y9] s9 Q
            refine i_pop r_273_83 (n_273_83 _) rfl ?_
            refine i_aload_n (a := 252) r_273_84 (n_273_84 _) rfl ?_
            refine i_iload (x := x4) r_273_85 (n_273_85 _) rfl ?_
            refine wp_virt (b := 252) (rest := []) (Ls := [(0, rf 252), (1, iv x4)]) r_273_87 (n_273_87 _) rfl ⟨rfl, rfl, by decide, by decide⟩ rfl rfl lf_252 ⟨rfl, Nat.le_of_ble_eq_true rfl, Nat.le_of_ble_eq_true rfl⟩ rfl h ?_
            intro o11 s11 h
            rcases h with ⟨y11, q12, rfl, h⟩ | ⟨e11, rfl, h⟩
            · refine .inl ⟨some (iv y11), rfl, ?_⟩
              show wp S 273 90 [(0, rf 252), (1, iv x1), (2, .long u2), (4, iv x4), (5, iv x5), (6, iv x6), (7, iv x7)] [iv y11] s11 Q
              refine i_istore (l' := [(0, rf 252), (1, iv x1), (2, .long u2), (4, iv x4), (5, iv x5), (6, iv x6), (7, iv x7), (8, iv y11)]) r_273_90 (n_273_90 _) (by decide) rfl ?_
              refine i_iload (x := x6) r_273_92 (n_273_92 _) rfl ?_
              refine i_iconst r_273_94 (n_273_94 _) ?_
              obtain ⟨g13, h⟩ := h
              refine i_icmp (t := 105) r_273_95 (n_273_95 _) rfl (T_eq g13 ⟨by omega, by omega⟩) (fun c14 => ?_) (fun c14 => ?_)
              · replace h := h.1 c14
                refine i_iload (x := y11) r_273_105 (n_273_105 _) rfl ?_
                refine i_istore (l' := [(0, rf 252), (1, iv x1), (2, .long u2), (4, iv x4), (5, iv y11), (6, iv x6), (7, iv x7), (8, iv y11)]) r_273_107 (n_273_107 _) (by decide) rfl ?_
                refine i_iload (x := x7) r_273_109 (n_273_109 _) rfl ?_
                refine i_istore (l' := [(0, rf 252), (1, iv x1), (2, .long u2), (4, iv x4), (5, iv y11), (6, iv x7), (7, iv x7), (8, iv y11)]) r_273_111 (n_273_111 _) (by decide) rfl ?_
                refine i_iinc (x := x7) (l' := [(0, rf 252), (1, iv x1), (2, .long u2), (4, iv x4), (5, iv y11), (6, iv x7), (7, iv (x7 + 1)), (8, iv y11)]) r_273_113 (n_273_113 _) (by decide) rfl rfl ?_
                refine i_goto (t := 47) r_273_116 (n_273_116 _) rfl ?_
                exact wp_pr (l' := [(0, rf 252), (1, iv x1), (2, .long u2), (4, iv x4), (5, iv y11), (6, iv x7), (7, iv (x7 + 1))]) rfl h
              · replace h := h.2 c14
                refine i_iload (x := y11) r_273_98 (n_273_98 _) rfl ?_
                refine i_iload (x := x5) r_273_100 (n_273_100 _) rfl ?_
                obtain ⟨g15, h⟩ := h
                refine i_icmp (t := 113) r_273_102 (n_273_102 _) rfl (T_ge q12 g15) (fun c16 => ?_) (fun c16 => ?_)
                · replace h := h.1 c16
                  refine i_iinc (x := x7) (l' := [(0, rf 252), (1, iv x1), (2, .long u2), (4, iv x4), (5, iv x5), (6, iv x6), (7, iv (x7 + 1)), (8, iv y11)]) r_273_113 (n_273_113 _) (by decide) rfl rfl ?_
                  refine i_goto (t := 47) r_273_116 (n_273_116 _) rfl ?_
                  exact wp_pr (l' := [(0, rf 252), (1, iv x1), (2, .long u2), (4, iv x4), (5, iv x5), (6, iv x6), (7, iv (x7 + 1))]) rfl h
                · replace h := h.2 c16
                  refine i_iload (x := y11) r_273_105 (n_273_105 _) rfl ?_
                  refine i_istore (l' := [(0, rf 252), (1, iv x1), (2, .long u2), (4, iv x4), (5, iv y11), (6, iv x6), (7, iv x7), (8, iv y11)]) r_273_107 (n_273_107 _) (by decide) rfl ?_
                  refine i_iload (x := x7) r_273_109 (n_273_109 _) rfl ?_
                  refine i_istore (l' := [(0, rf 252), (1, iv x1), (2, .long u2), (4, iv x4), (5, iv y11), (6, iv x7), (7, iv x7), (8, iv y11)]) r_273_111 (n_273_111 _) (by decide) rfl ?_
                  refine i_iinc (x := x7) (l' := [(0, rf 252), (1, iv x1), (2, .long u2), (4, iv x4), (5, iv y11), (6, iv x7), (7, iv (x7 + 1)), (8, iv y11)]) r_273_113 (n_273_113 _) (by decide) rfl rfl ?_
                  refine i_goto (t := 47) r_273_116 (n_273_116 _) rfl ?_
                  exact wp_pr (l' := [(0, rf 252), (1, iv x1), (2, .long u2), (4, iv x4), (5, iv y11), (6, iv x7), (7, iv (x7 + 1))]) rfl h
            · skip
              exact h.elim
          · skip
            exact h.elim
        · skip
          exact h.elim
      · skip
        exact h.elim
    · skip
      exact h.elim
theorem r_274_0 : xfetch 274 0 = some (.aload_n 0, 1) := by decide +kernel
theorem n_274_0 : ∀ l, xpr 274 0 l = l := xpr_no (by decide +kernel)
theorem r_274_1 : xfetch 274 1 = some (.iconst 0, 1) := by decide +kernel
theorem n_274_1 : ∀ l, xpr 274 1 l = l := xpr_no (by decide +kernel)
theorem r_274_2 : xfetch 274 2 = some (.putfield 77, 3) := by decide +kernel
theorem n_274_2 : ∀ l, xpr 274 2 l = l := xpr_no (by decide +kernel)
theorem r_274_5 : xfetch 274 5 = some (.aload_n 0, 1) := by decide +kernel
theorem n_274_5 : ∀ l, xpr 274 5 l = l := xpr_no (by decide +kernel)
theorem r_274_6 : xfetch 274 6 = some (.invokevirtual 152, 3) := by decide +kernel
theorem n_274_6 : ∀ l, xpr 274 6 l = l := xpr_no (by decide +kernel)
theorem r_274_9 : xfetch 274 9 = some (.aload_n 0, 1) := by decide +kernel
theorem n_274_9 : ∀ l, xpr 274 9 l = l := xpr_no (by decide +kernel)
theorem r_274_10 : xfetch 274 10 = some (.ldc2_w 306, 3) := by decide +kernel
theorem n_274_10 : ∀ l, xpr 274 10 l = l := xpr_no (by decide +kernel)
theorem r_274_13 : xfetch 274 13 = some (.putfield 302, 3) := by decide +kernel
theorem n_274_13 : ∀ l, xpr 274 13 l = l := xpr_no (by decide +kernel)
theorem r_274_16 : xfetch 274 16 = some (.aload_n 0, 1) := by decide +kernel
theorem n_274_16 : ∀ l, xpr 274 16 l = l := xpr_no (by decide +kernel)
theorem r_274_17 : xfetch 274 17 = some (.aload_n 0, 1) := by decide +kernel
theorem n_274_17 : ∀ l, xpr 274 17 l = l := xpr_no (by decide +kernel)
theorem r_274_18 : xfetch 274 18 = some (.getfield 7, 3) := by decide +kernel
theorem n_274_18 : ∀ l, xpr 274 18 l = l := xpr_no (by decide +kernel)
theorem r_274_21 : xfetch 274 21 = some (.iconst 0, 1) := by decide +kernel
theorem n_274_21 : ∀ l, xpr 274 21 l = l := xpr_no (by decide +kernel)
theorem r_274_22 : xfetch 274 22 = some (.iaload, 1) := by decide +kernel
theorem n_274_22 : ∀ l, xpr 274 22 l = l := xpr_no (by decide +kernel)
theorem r_274_23 : xfetch 274 23 = some (.i2l, 1) := by decide +kernel
theorem n_274_23 : ∀ l, xpr 274 23 l = l := xpr_no (by decide +kernel)
theorem r_274_24 : xfetch 274 24 = some (.invokevirtual 308, 3) := by decide +kernel
theorem n_274_24 : ∀ l, xpr 274 24 l = l := xpr_no (by decide +kernel)
theorem r_274_27 : xfetch 274 27 = some (.iconst 0, 1) := by decide +kernel
theorem n_274_27 : ∀ l, xpr 274 27 l = l := xpr_no (by decide +kernel)
theorem r_274_28 : xfetch 274 28 = some (.istore_n 1, 1) := by decide +kernel
theorem n_274_28 : ∀ l, xpr 274 28 l = l := xpr_no (by decide +kernel)
theorem r_274_29 : xfetch 274 29 = some (.iload_n 1, 1) := by decide +kernel
theorem r_274_30 : xfetch 274 30 = some (.aload_n 0, 1) := by decide +kernel
theorem n_274_30 : ∀ l, xpr 274 30 l = l := xpr_no (by decide +kernel)
theorem r_274_31 : xfetch 274 31 = some (.getfield 7, 3) := by decide +kernel
theorem n_274_31 : ∀ l, xpr 274 31 l = l := xpr_no (by decide +kernel)
theorem r_274_34 : xfetch 274 34 = some (.iconst 0, 1) := by decide +kernel
theorem n_274_34 : ∀ l, xpr 274 34 l = l := xpr_no (by decide +kernel)
theorem r_274_35 : xfetch 274 35 = some (.iaload, 1) := by decide +kernel
theorem n_274_35 : ∀ l, xpr 274 35 l = l := xpr_no (by decide +kernel)
theorem r_274_36 : xfetch 274 36 = some (.if_icmp .ge 76, 3) := by decide +kernel
theorem n_274_36 : ∀ l, xpr 274 36 l = l := xpr_no (by decide +kernel)
theorem r_274_39 : xfetch 274 39 = some (.iconst 0, 1) := by decide +kernel
theorem n_274_39 : ∀ l, xpr 274 39 l = l := xpr_no (by decide +kernel)
theorem r_274_40 : xfetch 274 40 = some (.istore_n 2, 1) := by decide +kernel
theorem n_274_40 : ∀ l, xpr 274 40 l = l := xpr_no (by decide +kernel)
theorem r_274_41 : xfetch 274 41 = some (.iload_n 2, 1) := by decide +kernel
theorem r_274_42 : xfetch 274 42 = some (.bipush 6, 2) := by decide +kernel
theorem n_274_42 : ∀ l, xpr 274 42 l = l := xpr_no (by decide +kernel)
theorem r_274_44 : xfetch 274 44 = some (.if_icmp .ge 20, 3) := by decide +kernel
theorem n_274_44 : ∀ l, xpr 274 44 l = l := xpr_no (by decide +kernel)
theorem r_274_47 : xfetch 274 47 = some (.aload_n 0, 1) := by decide +kernel
theorem n_274_47 : ∀ l, xpr 274 47 l = l := xpr_no (by decide +kernel)
theorem r_274_48 : xfetch 274 48 = some (.aload_n 0, 1) := by decide +kernel
theorem n_274_48 : ∀ l, xpr 274 48 l = l := xpr_no (by decide +kernel)
theorem r_274_49 : xfetch 274 49 = some (.iload_n 1, 1) := by decide +kernel
theorem n_274_49 : ∀ l, xpr 274 49 l = l := xpr_no (by decide +kernel)
theorem r_274_50 : xfetch 274 50 = some (.iload_n 2, 1) := by decide +kernel
theorem n_274_50 : ∀ l, xpr 274 50 l = l := xpr_no (by decide +kernel)
theorem r_274_51 : xfetch 274 51 = some (.invokevirtual 165, 3) := by decide +kernel
theorem n_274_51 : ∀ l, xpr 274 51 l = l := xpr_no (by decide +kernel)
theorem r_274_54 : xfetch 274 54 = some (.i2l, 1) := by decide +kernel
theorem n_274_54 : ∀ l, xpr 274 54 l = l := xpr_no (by decide +kernel)
theorem r_274_55 : xfetch 274 55 = some (.invokevirtual 308, 3) := by decide +kernel
theorem n_274_55 : ∀ l, xpr 274 55 l = l := xpr_no (by decide +kernel)
theorem r_274_58 : xfetch 274 58 = some (.iinc 2 1, 3) := by decide +kernel
theorem n_274_58 : ∀ l, xpr 274 58 l = l := xpr_no (by decide +kernel)
theorem r_274_61 : xfetch 274 61 = some (.goto (-20), 3) := by decide +kernel
theorem n_274_61 : ∀ l, xpr 274 61 l = l := xpr_no (by decide +kernel)
theorem r_274_64 : xfetch 274 64 = some (.iconst 0, 1) := by decide +kernel
theorem n_274_64 : ∀ l, xpr 274 64 l = l := xpr_no (by decide +kernel)
theorem r_274_65 : xfetch 274 65 = some (.istore_n 2, 1) := by decide +kernel
theorem n_274_65 : ∀ l, xpr 274 65 l = l := xpr_no (by decide +kernel)
theorem r_274_66 : xfetch 274 66 = some (.iload_n 2, 1) := by decide +kernel
theorem r_274_67 : xfetch 274 67 = some (.aload_n 0, 1) := by decide +kernel
theorem n_274_67 : ∀ l, xpr 274 67 l = l := xpr_no (by decide +kernel)
theorem r_274_68 : xfetch 274 68 = some (.iload_n 1, 1) := by decide +kernel
theorem n_274_68 : ∀ l, xpr 274 68 l = l := xpr_no (by decide +kernel)
theorem r_274_69 : xfetch 274 69 = some (.invokevirtual 99, 3) := by decide +kernel
theorem n_274_69 : ∀ l, xpr 274 69 l = l := xpr_no (by decide +kernel)
theorem r_274_72 : xfetch 274 72 = some (.if_icmp .ge 34, 3) := by decide +kernel
theorem n_274_72 : ∀ l, xpr 274 72 l = l := xpr_no (by decide +kernel)
theorem r_274_75 : xfetch 274 75 = some (.iconst 0, 1) := by decide +kernel
theorem n_274_75 : ∀ l, xpr 274 75 l = l := xpr_no (by decide +kernel)
theorem r_274_76 : xfetch 274 76 = some (.istore_n 3, 1) := by decide +kernel
theorem n_274_76 : ∀ l, xpr 274 76 l = l := xpr_no (by decide +kernel)
theorem r_274_77 : xfetch 274 77 = some (.iload_n 3, 1) := by decide +kernel
theorem r_274_78 : xfetch 274 78 = some (.iconst 5, 1) := by decide +kernel
theorem n_274_78 : ∀ l, xpr 274 78 l = l := xpr_no (by decide +kernel)
theorem r_274_79 : xfetch 274 79 = some (.if_icmp .ge 21, 3) := by decide +kernel
theorem n_274_79 : ∀ l, xpr 274 79 l = l := xpr_no (by decide +kernel)
theorem r_274_82 : xfetch 274 82 = some (.aload_n 0, 1) := by decide +kernel
theorem n_274_82 : ∀ l, xpr 274 82 l = l := xpr_no (by decide +kernel)
theorem r_274_83 : xfetch 274 83 = some (.aload_n 0, 1) := by decide +kernel
theorem n_274_83 : ∀ l, xpr 274 83 l = l := xpr_no (by decide +kernel)
theorem r_274_84 : xfetch 274 84 = some (.iload_n 1, 1) := by decide +kernel
theorem n_274_84 : ∀ l, xpr 274 84 l = l := xpr_no (by decide +kernel)
theorem r_274_85 : xfetch 274 85 = some (.iload_n 2, 1) := by decide +kernel
theorem n_274_85 : ∀ l, xpr 274 85 l = l := xpr_no (by decide +kernel)
theorem r_274_86 : xfetch 274 86 = some (.iload_n 3, 1) := by decide +kernel
theorem n_274_86 : ∀ l, xpr 274 86 l = l := xpr_no (by decide +kernel)
theorem r_274_87 : xfetch 274 87 = some (.invokevirtual 168, 3) := by decide +kernel
theorem n_274_87 : ∀ l, xpr 274 87 l = l := xpr_no (by decide +kernel)
theorem r_274_90 : xfetch 274 90 = some (.i2l, 1) := by decide +kernel
theorem n_274_90 : ∀ l, xpr 274 90 l = l := xpr_no (by decide +kernel)
theorem r_274_91 : xfetch 274 91 = some (.invokevirtual 308, 3) := by decide +kernel
theorem n_274_91 : ∀ l, xpr 274 91 l = l := xpr_no (by decide +kernel)
theorem r_274_94 : xfetch 274 94 = some (.iinc 3 1, 3) := by decide +kernel
theorem n_274_94 : ∀ l, xpr 274 94 l = l := xpr_no (by decide +kernel)
theorem r_274_97 : xfetch 274 97 = some (.goto (-20), 3) := by decide +kernel
theorem n_274_97 : ∀ l, xpr 274 97 l = l := xpr_no (by decide +kernel)
theorem r_274_100 : xfetch 274 100 = some (.iinc 2 1, 3) := by decide +kernel
theorem n_274_100 : ∀ l, xpr 274 100 l = l := xpr_no (by decide +kernel)
theorem r_274_103 : xfetch 274 103 = some (.goto (-37), 3) := by decide +kernel
theorem n_274_103 : ∀ l, xpr 274 103 l = l := xpr_no (by decide +kernel)
theorem r_274_106 : xfetch 274 106 = some (.iinc 1 1, 3) := by decide +kernel
theorem n_274_106 : ∀ l, xpr 274 106 l = l := xpr_no (by decide +kernel)
theorem r_274_109 : xfetch 274 109 = some (.goto (-80), 3) := by decide +kernel
theorem n_274_109 : ∀ l, xpr 274 109 l = l := xpr_no (by decide +kernel)
theorem r_274_112 : xfetch 274 112 = some (.aload_n 0, 1) := by decide +kernel
theorem n_274_112 : ∀ l, xpr 274 112 l = l := xpr_no (by decide +kernel)
theorem r_274_113 : xfetch 274 113 = some (.aload_n 0, 1) := by decide +kernel
theorem n_274_113 : ∀ l, xpr 274 113 l = l := xpr_no (by decide +kernel)
theorem r_274_114 : xfetch 274 114 = some (.invokevirtual 247, 3) := by decide +kernel
theorem n_274_114 : ∀ l, xpr 274 114 l = l := xpr_no (by decide +kernel)
theorem r_274_117 : xfetch 274 117 = some (.i2l, 1) := by decide +kernel
theorem n_274_117 : ∀ l, xpr 274 117 l = l := xpr_no (by decide +kernel)
theorem r_274_118 : xfetch 274 118 = some (.invokevirtual 308, 3) := by decide +kernel
theorem n_274_118 : ∀ l, xpr 274 118 l = l := xpr_no (by decide +kernel)
theorem r_274_121 : xfetch 274 121 = some (.iconst 0, 1) := by decide +kernel
theorem n_274_121 : ∀ l, xpr 274 121 l = l := xpr_no (by decide +kernel)
theorem r_274_122 : xfetch 274 122 = some (.istore_n 1, 1) := by decide +kernel
theorem n_274_122 : ∀ l, xpr 274 122 l = l := xpr_no (by decide +kernel)
theorem r_274_123 : xfetch 274 123 = some (.iload_n 1, 1) := by decide +kernel
theorem r_274_124 : xfetch 274 124 = some (.iconst 3, 1) := by decide +kernel
theorem n_274_124 : ∀ l, xpr 274 124 l = l := xpr_no (by decide +kernel)
theorem r_274_125 : xfetch 274 125 = some (.if_icmp .ge 42, 3) := by decide +kernel
theorem n_274_125 : ∀ l, xpr 274 125 l = l := xpr_no (by decide +kernel)
theorem r_274_128 : xfetch 274 128 = some (.iconst 0, 1) := by decide +kernel
theorem n_274_128 : ∀ l, xpr 274 128 l = l := xpr_no (by decide +kernel)
theorem r_274_129 : xfetch 274 129 = some (.istore_n 2, 1) := by decide +kernel
theorem n_274_129 : ∀ l, xpr 274 129 l = l := xpr_no (by decide +kernel)
theorem r_274_130 : xfetch 274 130 = some (.iload_n 2, 1) := by decide +kernel
theorem r_274_131 : xfetch 274 131 = some (.bipush 6, 2) := by decide +kernel
theorem n_274_131 : ∀ l, xpr 274 131 l = l := xpr_no (by decide +kernel)
theorem r_274_133 : xfetch 274 133 = some (.if_icmp .ge 28, 3) := by decide +kernel
theorem n_274_133 : ∀ l, xpr 274 133 l = l := xpr_no (by decide +kernel)
theorem r_274_136 : xfetch 274 136 = some (.aload_n 0, 1) := by decide +kernel
theorem n_274_136 : ∀ l, xpr 274 136 l = l := xpr_no (by decide +kernel)
theorem r_274_137 : xfetch 274 137 = some (.iload_n 1, 1) := by decide +kernel
theorem n_274_137 : ∀ l, xpr 274 137 l = l := xpr_no (by decide +kernel)
theorem r_274_138 : xfetch 274 138 = some (.invokevirtual 225, 3) := by decide +kernel
theorem n_274_138 : ∀ l, xpr 274 138 l = l := xpr_no (by decide +kernel)
theorem r_274_141 : xfetch 274 141 = some (.ifCond .eq 20, 3) := by decide +kernel
theorem n_274_141 : ∀ l, xpr 274 141 l = l := xpr_no (by decide +kernel)
theorem r_274_144 : xfetch 274 144 = some (.aload_n 0, 1) := by decide +kernel
theorem n_274_144 : ∀ l, xpr 274 144 l = l := xpr_no (by decide +kernel)
theorem r_274_145 : xfetch 274 145 = some (.aload_n 0, 1) := by decide +kernel
theorem n_274_145 : ∀ l, xpr 274 145 l = l := xpr_no (by decide +kernel)
theorem r_274_146 : xfetch 274 146 = some (.iload_n 1, 1) := by decide +kernel
theorem n_274_146 : ∀ l, xpr 274 146 l = l := xpr_no (by decide +kernel)
theorem r_274_147 : xfetch 274 147 = some (.iload_n 2, 1) := by decide +kernel
theorem n_274_147 : ∀ l, xpr 274 147 l = l := xpr_no (by decide +kernel)
theorem r_274_148 : xfetch 274 148 = some (.invokevirtual 228, 3) := by decide +kernel
theorem n_274_148 : ∀ l, xpr 274 148 l = l := xpr_no (by decide +kernel)
theorem r_274_151 : xfetch 274 151 = some (.i2l, 1) := by decide +kernel
theorem n_274_151 : ∀ l, xpr 274 151 l = l := xpr_no (by decide +kernel)
theorem r_274_152 : xfetch 274 152 = some (.invokevirtual 308, 3) := by decide +kernel
theorem n_274_152 : ∀ l, xpr 274 152 l = l := xpr_no (by decide +kernel)
theorem r_274_155 : xfetch 274 155 = some (.iinc 2 1, 3) := by decide +kernel
theorem n_274_155 : ∀ l, xpr 274 155 l = l := xpr_no (by decide +kernel)
theorem r_274_158 : xfetch 274 158 = some (.goto (-28), 3) := by decide +kernel
theorem n_274_158 : ∀ l, xpr 274 158 l = l := xpr_no (by decide +kernel)
theorem r_274_161 : xfetch 274 161 = some (.iinc 1 1, 3) := by decide +kernel
theorem n_274_161 : ∀ l, xpr 274 161 l = l := xpr_no (by decide +kernel)
theorem r_274_164 : xfetch 274 164 = some (.goto (-41), 3) := by decide +kernel
theorem n_274_164 : ∀ l, xpr 274 164 l = l := xpr_no (by decide +kernel)
theorem r_274_167 : xfetch 274 167 = some (.iconst 0, 1) := by decide +kernel
theorem n_274_167 : ∀ l, xpr 274 167 l = l := xpr_no (by decide +kernel)
theorem r_274_168 : xfetch 274 168 = some (.istore_n 1, 1) := by decide +kernel
theorem n_274_168 : ∀ l, xpr 274 168 l = l := xpr_no (by decide +kernel)
theorem r_274_169 : xfetch 274 169 = some (.iload_n 1, 1) := by decide +kernel
theorem r_274_170 : xfetch 274 170 = some (.sipush 1024, 3) := by decide +kernel
theorem n_274_170 : ∀ l, xpr 274 170 l = l := xpr_no (by decide +kernel)
theorem r_274_173 : xfetch 274 173 = some (.if_icmp .ge 24, 3) := by decide +kernel
theorem n_274_173 : ∀ l, xpr 274 173 l = l := xpr_no (by decide +kernel)
theorem r_274_176 : xfetch 274 176 = some (.aload_n 0, 1) := by decide +kernel
theorem n_274_176 : ∀ l, xpr 274 176 l = l := xpr_no (by decide +kernel)
theorem r_274_177 : xfetch 274 177 = some (.aload_n 0, 1) := by decide +kernel
theorem n_274_177 : ∀ l, xpr 274 177 l = l := xpr_no (by decide +kernel)
theorem r_274_178 : xfetch 274 178 = some (.getfield 7, 3) := by decide +kernel
theorem n_274_178 : ∀ l, xpr 274 178 l = l := xpr_no (by decide +kernel)
theorem r_274_181 : xfetch 274 181 = some (.sipush 175, 3) := by decide +kernel
theorem n_274_181 : ∀ l, xpr 274 181 l = l := xpr_no (by decide +kernel)
theorem r_274_184 : xfetch 274 184 = some (.iload_n 1, 1) := by decide +kernel
theorem n_274_184 : ∀ l, xpr 274 184 l = l := xpr_no (by decide +kernel)
theorem r_274_185 : xfetch 274 185 = some (.iadd, 1) := by decide +kernel
theorem n_274_185 : ∀ l, xpr 274 185 l = l := xpr_no (by decide +kernel)
theorem r_274_186 : xfetch 274 186 = some (.iaload, 1) := by decide +kernel
theorem n_274_186 : ∀ l, xpr 274 186 l = l := xpr_no (by decide +kernel)
theorem r_274_187 : xfetch 274 187 = some (.i2l, 1) := by decide +kernel
theorem n_274_187 : ∀ l, xpr 274 187 l = l := xpr_no (by decide +kernel)
theorem r_274_188 : xfetch 274 188 = some (.invokevirtual 308, 3) := by decide +kernel
theorem n_274_188 : ∀ l, xpr 274 188 l = l := xpr_no (by decide +kernel)
theorem r_274_191 : xfetch 274 191 = some (.iinc 1 1, 3) := by decide +kernel
theorem n_274_191 : ∀ l, xpr 274 191 l = l := xpr_no (by decide +kernel)
theorem r_274_194 : xfetch 274 194 = some (.goto (-25), 3) := by decide +kernel
theorem n_274_194 : ∀ l, xpr 274 194 l = l := xpr_no (by decide +kernel)
theorem r_274_197 : xfetch 274 197 = some (.aload_n 0, 1) := by decide +kernel
theorem n_274_197 : ∀ l, xpr 274 197 l = l := xpr_no (by decide +kernel)
theorem r_274_198 : xfetch 274 198 = some (.aload_n 0, 1) := by decide +kernel
theorem n_274_198 : ∀ l, xpr 274 198 l = l := xpr_no (by decide +kernel)
theorem r_274_199 : xfetch 274 199 = some (.getfield 179, 3) := by decide +kernel
theorem n_274_199 : ∀ l, xpr 274 199 l = l := xpr_no (by decide +kernel)
theorem r_274_202 : xfetch 274 202 = some (.i2l, 1) := by decide +kernel
theorem n_274_202 : ∀ l, xpr 274 202 l = l := xpr_no (by decide +kernel)
theorem r_274_203 : xfetch 274 203 = some (.invokevirtual 308, 3) := by decide +kernel
theorem n_274_203 : ∀ l, xpr 274 203 l = l := xpr_no (by decide +kernel)
theorem r_274_206 : xfetch 274 206 = some (.aload_n 0, 1) := by decide +kernel
theorem n_274_206 : ∀ l, xpr 274 206 l = l := xpr_no (by decide +kernel)
theorem r_274_207 : xfetch 274 207 = some (.aload_n 0, 1) := by decide +kernel
theorem n_274_207 : ∀ l, xpr 274 207 l = l := xpr_no (by decide +kernel)
theorem r_274_208 : xfetch 274 208 = some (.getfield 81, 3) := by decide +kernel
theorem n_274_208 : ∀ l, xpr 274 208 l = l := xpr_no (by decide +kernel)
theorem r_274_211 : xfetch 274 211 = some (.i2l, 1) := by decide +kernel
theorem n_274_211 : ∀ l, xpr 274 211 l = l := xpr_no (by decide +kernel)
theorem r_274_212 : xfetch 274 212 = some (.invokevirtual 308, 3) := by decide +kernel
theorem n_274_212 : ∀ l, xpr 274 212 l = l := xpr_no (by decide +kernel)
theorem r_274_215 : xfetch 274 215 = some (.aload_n 0, 1) := by decide +kernel
theorem n_274_215 : ∀ l, xpr 274 215 l = l := xpr_no (by decide +kernel)
theorem r_274_216 : xfetch 274 216 = some (.getfield 302, 3) := by decide +kernel
theorem n_274_216 : ∀ l, xpr 274 216 l = l := xpr_no (by decide +kernel)
theorem r_274_219 : xfetch 274 219 = some (.lreturn, 1) := by decide +kernel
theorem n_274_219 : ∀ l, xpr 274 219 l = l := xpr_no (by decide +kernel)
theorem v_Model_digest_0 {S : Option (Nat × (Nat → Int32))} {s : zSt} {Q : Option Value ⊕ Nat → zSt → Prop}  
    (h : wp S 193 0 [(0, rf 252)] [] (zwI s 252 3 0) (fun o1 s1 => zkU (wp S 275 0 [(0, rf 252), (1, .long (zi2l (zI (zwL s1 252 29 1733) 253 0)))] [] (zwL s1 252 29 1733) (fun o4 s4 => zkU (wp S 274 29 [(0, rf 252), (1, iv 0)] [] s4 Q) (fun e4 => False) o4)) (fun e1 => False) o1)) :
    wp S 274 0 [(0, rf 252)] [] s Q := by
  refine i_aload_n (a := 252) r_274_0 (n_274_0 _) rfl ?_
  refine i_iconst r_274_1 (n_274_1 _) ?_
  refine i_putI (a := 252) (x := 0) r_274_2 (n_274_2 _) rfl (.inl rfl) rfl lf_252 ⟨by omega, by omega⟩ ?_
  refine i_aload_n (a := 252) r_274_5 (n_274_5 _) rfl ?_
  refine wp_virt (b := 252) (rest := []) (Ls := [(0, rf 252)]) r_274_6 (n_274_6 _) rfl ⟨rfl, rfl, by decide, by decide⟩ rfl rfl lf_252 ⟨rfl, Nat.le_of_ble_eq_true rfl, Nat.le_of_ble_eq_true rfl⟩ rfl h ?_
  intro o1 s1 h
  rcases h with ⟨rfl, h⟩ | ⟨e1, rfl, h⟩
  · refine .inl ⟨none, rfl, ?_⟩
    refine i_aload_n (a := 252) r_274_9 (n_274_9 _) rfl ?_
    refine i_ldc2 r_274_10 (n_274_10 _) rfl ?_
    refine i_putL (a := 252) r_274_13 (n_274_13 _) rfl rfl rfl lf_252 ?_
    refine i_aload_n (a := 252) r_274_16 (n_274_16 _) rfl ?_
    refine i_aload_n (a := 252) r_274_17 (n_274_17 _) rfl ?_
    refine i_getR (a := 252) (b := 253) r_274_18 (n_274_18 _) rfl rfl rfl (by omega) lf_252 (by omega) ?_
    refine i_iconst r_274_21 (n_274_21 _) ?_
    refine i_iaload (a := 253) (j := 0) r_274_22 (n_274_22 _) lf_253 ⟨by omega, by omega⟩ (by omega) (by omega) (fun q3 => ?_)
    refine i_i2l r_274_23 (n_274_23 _) ?_
    refine wp_virt (b := 252) (rest := []) (Ls := [(0, rf 252), (1, .long (zi2l (zI (zwL s1 252 29 1733) 253 0)))]) r_274_24 (n_274_24 _) rfl ⟨rfl, rfl, by decide, by decide⟩ rfl rfl lf_252 ⟨rfl, Nat.le_of_ble_eq_true rfl, Nat.le_of_ble_eq_true rfl⟩ rfl h ?_
    intro o4 s4 h
    rcases h with ⟨rfl, h⟩ | ⟨e4, rfl, h⟩
    · refine .inl ⟨none, rfl, ?_⟩
      refine i_iconst r_274_27 (n_274_27 _) ?_
      refine i_istore_n (l' := [(0, rf 252), (1, iv 0)]) r_274_28 (n_274_28 _) (by decide) rfl ?_
      exact wp_pr (l' := [(0, rf 252), (1, iv 0)]) rfl h
    · skip
      exact h.elim
  · skip
    exact h.elim
theorem v_Model_digest_29 {S : Option (Nat × (Nat → Int32))} {s : zSt} {Q : Option Value ⊕ Nat → zSt → Prop} {x1 : Int} 
    (h : rng x1 ∧ (((zI s 253 0) ≤ x1 → wp S 240 0 [(0, rf 252)] [] s (fun o4 s4 => zkI (fun y4 => wp S 275 0 [(0, rf 252), (1, .long (zi2l y4))] [] s4 (fun o6 s6 => zkU (wp S 274 123 [(0, rf 252), (1, iv 0)] [] s6 Q) (fun e6 => False) o6)) (fun e4 => False) o4)) ∧ (x1 < (zI s 253 0) → wp S 274 41 [(0, rf 252), (1, iv x1), (2, iv 0)] [] s Q))) :
    wp S 274 29 [(0, rf 252), (1, iv x1)] [] s Q := by
  refine i_iload_n (x := x1) r_274_29 rfl rfl ?_
  refine i_aload_n (a := 252) r_274_30 (n_274_30 _) rfl ?_
  refine i_getR (a := 252) (b := 253) r_274_31 (n_274_31 _) rfl rfl rfl (by omega) lf_252 (by omega) ?_
  refine i_iconst r_274_34 (n_274_34 _) ?_
  refine i_iaload (a := 253) (j := 0) r_274_35 (n_274_35 _) lf_253 ⟨by omega, by omega⟩ (by omega) (by omega) (fun q1 => ?_)
  obtain ⟨g2, h⟩ := h
  refine i_icmp (t := 112) r_274_36 (n_274_36 _) rfl (T_ge g2 q1) (fun c3 => ?_) (fun c3 => ?_)
  · replace h := h.1 c3
    refine i_aload_n (a := 252) r_274_112 (n_274_112 _) rfl ?_
    refine i_aload_n (a := 252) r_274_113 (n_274_113 _) rfl ?_
    refine wp_virt (b := 252) (rest := [rf 252]) (Ls := [(0, rf 252)]) r_274_114 (n_274_114 _) rfl ⟨rfl, rfl, by decide, by decide⟩ rfl rfl lf_252 ⟨rfl, Nat.le_of_ble_eq_true rfl, Nat.le_of_ble_eq_true rfl⟩ rfl h ?_
    intro o4 s4 h
    rcases h with ⟨y4, q5, rfl, h⟩ | ⟨e4, rfl, h⟩
    · refine .inl ⟨some (iv y4), rfl, ?_⟩
      show wp S 274 117 [(0, rf 252), (1, iv x1)] [iv y4, rf 252] s4 Q
      refine i_i2l r_274_117 (n_274_117 _) ?_
      refine wp_virt (b := 252) (rest := []) (Ls := [(0, rf 252), (1, .long (zi2l y4))]) r_274_118 (n_274_118 _) rfl ⟨rfl, rfl, by decide, by decide⟩ rfl rfl lf_252 ⟨rfl, Nat.le_of_ble_eq_true rfl, Nat.le_of_ble_eq_true rfl⟩ rfl h ?_
      intro o6 s6 h
      rcases h with ⟨rfl, h⟩ | ⟨e6, rfl, h⟩
      · refine .inl ⟨none, rfl, ?_⟩
        refine i_iconst r_274_121 (n_274_121 _) ?_
        refine i_istore_n (l' := [(0, rf 252), (1, iv 0)]) r_274_122 (n_274_122 _) (by decide) rfl ?_
        exact wp_pr (l' := [(0, rf 252), (1, iv 0)]) rfl h
      · skip
        exact h.elim
    · skip
      exact h.elim
  · replace h := h.2 c3
    refine i_iconst r_274_39 (n_274_39 _) ?_
    refine i_istore_n (l' := [(0, rf 252), (1, iv x1), (2, iv 0)]) r_274_40 (n_274_40 _) (by decide) rfl ?_
    exact wp_pr (l' := [(0, rf 252), (1, iv x1), (2, iv 0)]) rfl h
theorem v_Model_digest_41 {S : Option (Nat × (Nat → Int32))} {s : zSt} {Q : Option Value ⊕ Nat → zSt → Prop} {x1 : Int} {x2 : Int} 
    (h : rng x2 ∧ ((6 ≤ x2 → wp S 274 66 [(0, rf 252), (1, iv x1), (2, iv 0)] [] s Q) ∧ (x2 < 6 → wp S 206 0 [(0, rf 252), (1, iv x1), (2, iv x2)] [] s (fun o3 s3 => zkI (fun y3 => wp S 275 0 [(0, rf 252), (1, .long (zi2l y3))] [] s3 (fun o5 s5 => zkU (wp S 274 41 [(0, rf 252), (1, iv x1), (2, iv (x2 + 1))] [] s5 Q) (fun e5 => False) o5)) (fun e3 => False) o3)))) :
    wp S 274 41 [(0, rf 252), (1, iv x1), (2, iv x2)] [] s Q := by
  refine i_iload_n (x := x2) r_274_41 rfl rfl ?_
  refine i_bipush r_274_42 (n_274_42 _) rfl ?_
  obtain ⟨g1, h⟩ := h
  refine i_icmp (t := 64) r_274_44 (n_274_44 _) rfl (T_ge g1 ⟨by omega, by omega⟩) (fun c2 => ?_) (fun c2 => ?_)
  · replace h := h.1 c2
    refine i_iconst r_274_64 (n_274_64 _) ?_
    refine i_istore_n (l' := [(0, rf 252), (1, iv x1), (2, iv 0)]) r_274_65 (n_274_65 _) (by decide) rfl ?_
    exact wp_pr (l' := [(0, rf 252), (1, iv x1), (2, iv 0)]) rfl h
  · replace h := h.2 c2
    refine i_aload_n (a := 252) r_274_47 (n_274_47 _) rfl ?_
    refine i_aload_n (a := 252) r_274_48 (n_274_48 _) rfl ?_
    refine i_iload_n (x := x1) r_274_49 (n_274_49 _) rfl ?_
    refine i_iload_n (x := x2) r_274_50 (n_274_50 _) rfl ?_
    refine wp_virt (b := 252) (rest := [rf 252]) (Ls := [(0, rf 252), (1, iv x1), (2, iv x2)]) r_274_51 (n_274_51 _) rfl ⟨rfl, rfl, by decide, by decide⟩ rfl rfl lf_252 ⟨rfl, Nat.le_of_ble_eq_true rfl, Nat.le_of_ble_eq_true rfl⟩ rfl h ?_
    intro o3 s3 h
    rcases h with ⟨y3, q4, rfl, h⟩ | ⟨e3, rfl, h⟩
    · refine .inl ⟨some (iv y3), rfl, ?_⟩
      show wp S 274 54 [(0, rf 252), (1, iv x1), (2, iv x2)] [iv y3, rf 252] s3 Q
      refine i_i2l r_274_54 (n_274_54 _) ?_
      refine wp_virt (b := 252) (rest := []) (Ls := [(0, rf 252), (1, .long (zi2l y3))]) r_274_55 (n_274_55 _) rfl ⟨rfl, rfl, by decide, by decide⟩ rfl rfl lf_252 ⟨rfl, Nat.le_of_ble_eq_true rfl, Nat.le_of_ble_eq_true rfl⟩ rfl h ?_
      intro o5 s5 h
      rcases h with ⟨rfl, h⟩ | ⟨e5, rfl, h⟩
      · refine .inl ⟨none, rfl, ?_⟩
        refine i_iinc (x := x2) (l' := [(0, rf 252), (1, iv x1), (2, iv (x2 + 1))]) r_274_58 (n_274_58 _) (by decide) rfl rfl ?_
        refine i_goto (t := 41) r_274_61 (n_274_61 _) rfl ?_
        exact wp_pr (l' := [(0, rf 252), (1, iv x1), (2, iv (x2 + 1))]) rfl h
      · skip
        exact h.elim
    · skip
      exact h.elim
theorem v_Model_digest_66 {S : Option (Nat × (Nat → Int32))} {s : zSt} {Q : Option Value ⊕ Nat → zSt → Prop} {x1 : Int} {x2 : Int} 
    (h : wp S 189 0 [(0, rf 252), (1, iv x1)] [] s (fun o1 s1 => zkI (fun y1 => rng x2 ∧ ((y1 ≤ x2 → wp S 274 29 [(0, rf 252), (1, iv (x1 + 1))] [] s1 Q) ∧ (x2 < y1 → wp S 274 77 [(0, rf 252), (1, iv x1), (2, iv x2), (3, iv 0)] [] s1 Q))) (fun e1 => False) o1)) :
    wp S 274 66 [(0, rf 252), (1, iv x1), (2, iv x2)] [] s Q := by
  refine i_iload_n (x := x2) r_274_66 rfl rfl ?_
  refine i_aload_n (a := 252) r_274_67 (n_274_67 _) rfl ?_
  refine i_iload_n (x := x1) r_274_68 (n_274_68 _) rfl ?_
  refine wp_virt (b := 252) (rest := [iv x2]) (Ls := [(0, rf 252), (1, iv x1)]) r_274_69 (n_274_69 _) rfl ⟨rfl, rfl, by decide, by decide⟩ rfl rfl lf_252 ⟨rfl, Nat.le_of_ble_eq_true rfl, Nat.le_of_ble_eq_true rfl⟩ rfl h ?_
  intro o1 s1 h
  rcases h with ⟨y1, q2, rfl, h⟩ | ⟨e1, rfl, h⟩
  · refine .inl ⟨some (iv y1), rfl, ?_⟩
    show wp S 274 72 [(0, rf 252), (1, iv x1), (2, iv x2)] [iv y1, iv x2] s1 Q
    obtain ⟨g3, h⟩ := h
    refine i_icmp (t := 106) r_274_72 (n_274_72 _) rfl (T_ge g3 q2) (fun c4 => ?_) (fun c4 => ?_)
    · replace h := h.1 c4
      refine i_iinc (x := x1) (l' := [(0, rf 252), (1, iv (x1 + 1)), (2, iv x2)]) r_274_106 (n_274_106 _) (by decide) rfl rfl ?_
      refine i_goto (t := 29) r_274_109 (n_274_109 _) rfl ?_
      exact wp_pr (l' := [(0, rf 252), (1, iv (x1 + 1))]) rfl h
    · replace h := h.2 c4
      refine i_iconst r_274_75 (n_274_75 _) ?_
      refine i_istore_n (l' := [(0, rf 252), (1, iv x1), (2, iv x2), (3, iv 0)]) r_274_76 (n_274_76 _) (by decide) rfl ?_
      exact wp_pr (l' := [(0, rf 252), (1, iv x1), (2, iv x2), (3, iv 0)]) rfl h
  · skip
    exact h.elim
theorem v_Model_digest_77 {S : Option (Nat × (Nat → Int32))} {s : zSt} {Q : Option Value ⊕ Nat → zSt → Prop} {x1 : Int} {x2 : Int} {x3 : Int} 
    (h : rng x3 ∧ ((5 ≤ x3 → wp S 274 66 [(0, rf 252), (1, iv x1), (2, iv (x2 + 1))] [] s Q) ∧ (x3 < 5 → wp S 209 0 [(0, rf 252), (1, iv x1), (2, iv x2), (3, iv x3)] [] s (fun o3 s3 => zkI (fun y3 => wp S 275 0 [(0, rf 252), (1, .long (zi2l y3))] [] s3 (fun o5 s5 => zkU (wp S 274 77 [(0, rf 252), (1, iv x1), (2, iv x2), (3, iv (x3 + 1))] [] s5 Q) (fun e5 => False) o5)) (fun e3 => False) o3)))) :
    wp S 274 77 [(0, rf 252), (1, iv x1), (2, iv x2), (3, iv x3)] [] s Q := by
  refine i_iload_n (x := x3) r_274_77 rfl rfl ?_
  refine i_iconst r_274_78 (n_274_78 _) ?_
  obtain ⟨g1, h⟩ := h
  refine i_icmp (t := 100) r_274_79 (n_274_79 _) rfl (T_ge g1 ⟨by omega, by omega⟩) (fun c2 => ?_) (fun c2 => ?_)
  · replace h := h.1 c2
    refine i_iinc (x := x2) (l' := [(0, rf 252), (1, iv x1), (2, iv (x2 + 1)), (3, iv x3)]) r_274_100 (n_274_100 _) (by decide) rfl rfl ?_
    refine i_goto (t := 66) r_274_103 (n_274_103 _) rfl ?_
    exact wp_pr (l' := [(0, rf 252), (1, iv x1), (2, iv (x2 + 1))]) rfl h
  · replace h := h.2 c2
    refine i_aload_n (a := 252) r_274_82 (n_274_82 _) rfl ?_
    refine i_aload_n (a := 252) r_274_83 (n_274_83 _) rfl ?_
    refine i_iload_n (x := x1) r_274_84 (n_274_84 _) rfl ?_
    refine i_iload_n (x := x2) r_274_85 (n_274_85 _) rfl ?_
    refine i_iload_n (x := x3) r_274_86 (n_274_86 _) rfl ?_
    refine wp_virt (b := 252) (rest := [rf 252]) (Ls := [(0, rf 252), (1, iv x1), (2, iv x2), (3, iv x3)]) r_274_87 (n_274_87 _) rfl ⟨rfl, rfl, by decide, by decide⟩ rfl rfl lf_252 ⟨rfl, Nat.le_of_ble_eq_true rfl, Nat.le_of_ble_eq_true rfl⟩ rfl h ?_
    intro o3 s3 h
    rcases h with ⟨y3, q4, rfl, h⟩ | ⟨e3, rfl, h⟩
    · refine .inl ⟨some (iv y3), rfl, ?_⟩
      show wp S 274 90 [(0, rf 252), (1, iv x1), (2, iv x2), (3, iv x3)] [iv y3, rf 252] s3 Q
      refine i_i2l r_274_90 (n_274_90 _) ?_
      refine wp_virt (b := 252) (rest := []) (Ls := [(0, rf 252), (1, .long (zi2l y3))]) r_274_91 (n_274_91 _) rfl ⟨rfl, rfl, by decide, by decide⟩ rfl rfl lf_252 ⟨rfl, Nat.le_of_ble_eq_true rfl, Nat.le_of_ble_eq_true rfl⟩ rfl h ?_
      intro o5 s5 h
      rcases h with ⟨rfl, h⟩ | ⟨e5, rfl, h⟩
      · refine .inl ⟨none, rfl, ?_⟩
        refine i_iinc (x := x3) (l' := [(0, rf 252), (1, iv x1), (2, iv x2), (3, iv (x3 + 1))]) r_274_94 (n_274_94 _) (by decide) rfl rfl ?_
        refine i_goto (t := 77) r_274_97 (n_274_97 _) rfl ?_
        exact wp_pr (l' := [(0, rf 252), (1, iv x1), (2, iv x2), (3, iv (x3 + 1))]) rfl h
      · skip
        exact h.elim
    · skip
      exact h.elim
theorem v_Model_digest_123 {S : Option (Nat × (Nat → Int32))} {s : zSt} {Q : Option Value ⊕ Nat → zSt → Prop} {x1 : Int} 
    (h : rng x1 ∧ ((3 ≤ x1 → wp S 274 169 [(0, rf 252), (1, iv 0)] [] s Q) ∧ (x1 < 3 → wp S 274 130 [(0, rf 252), (1, iv x1), (2, iv 0)] [] s Q))) :
    wp S 274 123 [(0, rf 252), (1, iv x1)] [] s Q := by
  refine i_iload_n (x := x1) r_274_123 rfl rfl ?_
  refine i_iconst r_274_124 (n_274_124 _) ?_
  obtain ⟨g1, h⟩ := h
  refine i_icmp (t := 167) r_274_125 (n_274_125 _) rfl (T_ge g1 ⟨by omega, by omega⟩) (fun c2 => ?_) (fun c2 => ?_)
  · replace h := h.1 c2
    refine i_iconst r_274_167 (n_274_167 _) ?_
    refine i_istore_n (l' := [(0, rf 252), (1, iv 0)]) r_274_168 (n_274_168 _) (by decide) rfl ?_
    exact wp_pr (l' := [(0, rf 252), (1, iv 0)]) rfl h
  · replace h := h.2 c2
    refine i_iconst r_274_128 (n_274_128 _) ?_
    refine i_istore_n (l' := [(0, rf 252), (1, iv x1), (2, iv 0)]) r_274_129 (n_274_129 _) (by decide) rfl ?_
    exact wp_pr (l' := [(0, rf 252), (1, iv x1), (2, iv 0)]) rfl h
theorem v_Model_digest_130 {S : Option (Nat × (Nat → Int32))} {s : zSt} {Q : Option Value ⊕ Nat → zSt → Prop} {x1 : Int} {x2 : Int} 
    (h : rng x2 ∧ ((6 ≤ x2 → wp S 274 123 [(0, rf 252), (1, iv (x1 + 1))] [] s Q) ∧ (x2 < 6 → wp S 229 0 [(0, rf 252), (1, iv x1)] [] s (fun o3 s3 => zkI (fun y3 => (y3 = 0 → wp S 274 123 [(0, rf 252), (1, iv (x1 + 1))] [] s3 Q) ∧ (y3 ≠ 0 → wp S 236 0 [(0, rf 252), (1, iv x1), (2, iv x2)] [] s3 (fun o6 s6 => zkI (fun y6 => wp S 275 0 [(0, rf 252), (1, .long (zi2l y6))] [] s6 (fun o8 s8 => zkU (wp S 274 130 [(0, rf 252), (1, iv x1), (2, iv (x2 + 1))] [] s8 Q) (fun e8 => False) o8)) (fun e6 => False) o6))) (fun e3 => False) o3)))) :
    wp S 274 130 [(0, rf 252), (1, iv x1), (2, iv x2)] [] s Q := by
  refine i_iload_n (x := x2) r_274_130 rfl rfl ?_
  refine i_bipush r_274_131 (n_274_131 _) rfl ?_
  obtain ⟨g1, h⟩ := h
  refine i_icmp (t := 161) r_274_133 (n_274_133 _) rfl (T_ge g1 ⟨by omega, by omega⟩) (fun c2 => ?_) (fun c2 => ?_)
  · replace h := h.1 c2
    refine i_iinc (x := x1) (l' := [(0, rf 252), (1, iv (x1 + 1)), (2, iv x2)]) r_274_161 (n_274_161 _) (by decide) rfl rfl ?_
    refine i_goto (t := 123) r_274_164 (n_274_164 _) rfl ?_
    exact wp_pr (l' := [(0, rf 252), (1, iv (x1 + 1))]) rfl h
  · replace h := h.2 c2
    refine i_aload_n (a := 252) r_274_136 (n_274_136 _) rfl ?_
    refine i_iload_n (x := x1) r_274_137 (n_274_137 _) rfl ?_
    refine wp_virt (b := 252) (rest := []) (Ls := [(0, rf 252), (1, iv x1)]) r_274_138 (n_274_138 _) rfl ⟨rfl, rfl, by decide, by decide⟩ rfl rfl lf_252 ⟨rfl, Nat.le_of_ble_eq_true rfl, Nat.le_of_ble_eq_true rfl⟩ rfl h ?_
    intro o3 s3 h
    rcases h with ⟨y3, q4, rfl, h⟩ | ⟨e3, rfl, h⟩
    · refine .inl ⟨some (iv y3), rfl, ?_⟩
      show wp S 274 141 [(0, rf 252), (1, iv x1), (2, iv x2)] [iv y3] s3 Q
      refine i_if (t := 161) r_274_141 (n_274_141 _) rfl (T_eq q4 ⟨by omega, by omega⟩) (fun c5 => ?_) (fun c5 => ?_)
      · replace h := h.1 c5
        refine i_iinc (x := x1) (l' := [(0, rf 252), (1, iv (x1 + 1)), (2, iv x2)]) r_274_161 (n_274_161 _) (by decide) rfl rfl ?_
        refine i_goto (t := 123) r_274_164 (n_274_164 _) rfl ?_
        exact wp_pr (l' := [(0, rf 252), (1, iv (x1 + 1))]) rfl h
      · replace h := h.2 c5
        refine i_aload_n (a := 252) r_274_144 (n_274_144 _) rfl ?_
        refine i_aload_n (a := 252) r_274_145 (n_274_145 _) rfl ?_
        refine i_iload_n (x := x1) r_274_146 (n_274_146 _) rfl ?_
        refine i_iload_n (x := x2) r_274_147 (n_274_147 _) rfl ?_
        refine wp_virt (b := 252) (rest := [rf 252]) (Ls := [(0, rf 252), (1, iv x1), (2, iv x2)]) r_274_148 (n_274_148 _) rfl ⟨rfl, rfl, by decide, by decide⟩ rfl rfl lf_252 ⟨rfl, Nat.le_of_ble_eq_true rfl, Nat.le_of_ble_eq_true rfl⟩ rfl h ?_
        intro o6 s6 h
        rcases h with ⟨y6, q7, rfl, h⟩ | ⟨e6, rfl, h⟩
        · refine .inl ⟨some (iv y6), rfl, ?_⟩
          show wp S 274 151 [(0, rf 252), (1, iv x1), (2, iv x2)] [iv y6, rf 252] s6 Q
          refine i_i2l r_274_151 (n_274_151 _) ?_
          refine wp_virt (b := 252) (rest := []) (Ls := [(0, rf 252), (1, .long (zi2l y6))]) r_274_152 (n_274_152 _) rfl ⟨rfl, rfl, by decide, by decide⟩ rfl rfl lf_252 ⟨rfl, Nat.le_of_ble_eq_true rfl, Nat.le_of_ble_eq_true rfl⟩ rfl h ?_
          intro o8 s8 h
          rcases h with ⟨rfl, h⟩ | ⟨e8, rfl, h⟩
          · refine .inl ⟨none, rfl, ?_⟩
            refine i_iinc (x := x2) (l' := [(0, rf 252), (1, iv x1), (2, iv (x2 + 1))]) r_274_155 (n_274_155 _) (by decide) rfl rfl ?_
            refine i_goto (t := 130) r_274_158 (n_274_158 _) rfl ?_
            exact wp_pr (l' := [(0, rf 252), (1, iv x1), (2, iv (x2 + 1))]) rfl h
          · skip
            exact h.elim
        · skip
          exact h.elim
    · skip
      exact h.elim
theorem v_Model_digest_169 {S : Option (Nat × (Nat → Int32))} {s : zSt} {Q : Option Value ⊕ Nat → zSt → Prop} {x1 : Int} 
    (h : rng x1 ∧ ((1024 ≤ x1 → wp S 275 0 [(0, rf 252), (1, .long (zi2l (zI s 252 5)))] [] s (fun o4 s4 => zkU (wp S 275 0 [(0, rf 252), (1, .long (zi2l (zI s4 252 2)))] [] s4 (fun o7 s7 => zkU (Q (rL (zL s7 252 29)) s7) (fun e7 => False) o7)) (fun e4 => False) o4)) ∧ (x1 < 1024 → (0 ≤ (175 + x1) ∧ (175 + x1) < 1199) ∧ (wp S 275 0 [(0, rf 252), (1, .long (zi2l (zI s 253 (175 + x1))))] [] s (fun o11 s11 => zkU (wp S 274 169 [(0, rf 252), (1, iv (x1 + 1))] [] s11 Q) (fun e11 => False) o11))))) :
    wp S 274 169 [(0, rf 252), (1, iv x1)] [] s Q := by
  refine i_iload_n (x := x1) r_274_169 rfl rfl ?_
  refine i_sipush r_274_170 (n_274_170 _) rfl ?_
  obtain ⟨g1, h⟩ := h
  refine i_icmp (t := 197) r_274_173 (n_274_173 _) rfl (T_ge g1 ⟨by omega, by omega⟩) (fun c2 => ?_) (fun c2 => ?_)
  · replace h := h.1 c2
    refine i_aload_n (a := 252) r_274_197 (n_274_197 _) rfl ?_
    refine i_aload_n (a := 252) r_274_198 (n_274_198 _) rfl ?_
    refine i_getI (a := 252) r_274_199 (n_274_199 _) rfl (by decide) lf_252 (fun q3 => ?_)
    refine i_i2l r_274_202 (n_274_202 _) ?_
    refine wp_virt (b := 252) (rest := []) (Ls := [(0, rf 252), (1, .long (zi2l (zI s 252 5)))]) r_274_203 (n_274_203 _) rfl ⟨rfl, rfl, by decide, by decide⟩ rfl rfl lf_252 ⟨rfl, Nat.le_of_ble_eq_true rfl, Nat.le_of_ble_eq_true rfl⟩ rfl h ?_
    intro o4 s4 h
    rcases h with ⟨rfl, h⟩ | ⟨e4, rfl, h⟩
    · refine .inl ⟨none, rfl, ?_⟩
      refine i_aload_n (a := 252) r_274_206 (n_274_206 _) rfl ?_
      refine i_aload_n (a := 252) r_274_207 (n_274_207 _) rfl ?_
      refine i_getI (a := 252) r_274_208 (n_274_208 _) rfl (by decide) lf_252 (fun q6 => ?_)
      refine i_i2l r_274_211 (n_274_211 _) ?_
      refine wp_virt (b := 252) (rest := []) (Ls := [(0, rf 252), (1, .long (zi2l (zI s4 252 2)))]) r_274_212 (n_274_212 _) rfl ⟨rfl, rfl, by decide, by decide⟩ rfl rfl lf_252 ⟨rfl, Nat.le_of_ble_eq_true rfl, Nat.le_of_ble_eq_true rfl⟩ rfl h ?_
      intro o7 s7 h
      rcases h with ⟨rfl, h⟩ | ⟨e7, rfl, h⟩
      · refine .inl ⟨none, rfl, ?_⟩
        refine i_aload_n (a := 252) r_274_215 (n_274_215 _) rfl ?_
        refine i_getL (a := 252) r_274_216 (n_274_216 _) rfl rfl lf_252 ?_
        exact i_lreturn r_274_219 (n_274_219 _) rfl h
      · skip
        exact h.elim
    · skip
      exact h.elim
  · replace h := h.2 c2
    refine i_aload_n (a := 252) r_274_176 (n_274_176 _) rfl ?_
    refine i_aload_n (a := 252) r_274_177 (n_274_177 _) rfl ?_
    refine i_getR (a := 252) (b := 253) r_274_178 (n_274_178 _) rfl rfl rfl (by omega) lf_252 (by omega) ?_
    refine i_sipush r_274_181 (n_274_181 _) rfl ?_
    refine i_iload_n (x := x1) r_274_184 (n_274_184 _) rfl ?_
    refine i_iadd r_274_185 (n_274_185 _) ?_
    obtain ⟨g9, h⟩ := h
    refine i_iaload (a := 253) (j := 175 + x1) r_274_186 (n_274_186 _) lf_253 ⟨by omega, by omega⟩ (by omega) (by omega) (fun q10 => ?_)
    refine i_i2l r_274_187 (n_274_187 _) ?_
    refine wp_virt (b := 252) (rest := []) (Ls := [(0, rf 252), (1, .long (zi2l (zI s 253 (175 + x1))))]) r_274_188 (n_274_188 _) rfl ⟨rfl, rfl, by decide, by decide⟩ rfl rfl lf_252 ⟨rfl, Nat.le_of_ble_eq_true rfl, Nat.le_of_ble_eq_true rfl⟩ rfl h ?_
    intro o11 s11 h
    rcases h with ⟨rfl, h⟩ | ⟨e11, rfl, h⟩
    · refine .inl ⟨none, rfl, ?_⟩
      refine i_iinc (x := x1) (l' := [(0, rf 252), (1, iv (x1 + 1))]) r_274_191 (n_274_191 _) (by decide) rfl rfl ?_
      refine i_goto (t := 169) r_274_194 (n_274_194 _) rfl ?_
      exact wp_pr (l' := [(0, rf 252), (1, iv (x1 + 1))]) rfl h
    · skip
      exact h.elim
theorem r_275_0 : xfetch 275 0 = some (.aload_n 0, 1) := by decide +kernel
theorem n_275_0 : ∀ l, xpr 275 0 l = l := xpr_no (by decide +kernel)
theorem r_275_1 : xfetch 275 1 = some (.ldc2_w 300, 3) := by decide +kernel
theorem n_275_1 : ∀ l, xpr 275 1 l = l := xpr_no (by decide +kernel)
theorem r_275_4 : xfetch 275 4 = some (.aload_n 0, 1) := by decide +kernel
theorem n_275_4 : ∀ l, xpr 275 4 l = l := xpr_no (by decide +kernel)
theorem r_275_5 : xfetch 275 5 = some (.getfield 302, 3) := by decide +kernel
theorem n_275_5 : ∀ l, xpr 275 5 l = l := xpr_no (by decide +kernel)
theorem r_275_8 : xfetch 275 8 = some (.lmul, 1) := by decide +kernel
theorem n_275_8 : ∀ l, xpr 275 8 l = l := xpr_no (by decide +kernel)
theorem r_275_9 : xfetch 275 9 = some (.lload_n 1, 1) := by decide +kernel
theorem n_275_9 : ∀ l, xpr 275 9 l = l := xpr_no (by decide +kernel)
theorem r_275_10 : xfetch 275 10 = some (.ladd, 1) := by decide +kernel
theorem n_275_10 : ∀ l, xpr 275 10 l = l := xpr_no (by decide +kernel)
theorem r_275_11 : xfetch 275 11 = some (.putfield 302, 3) := by decide +kernel
theorem n_275_11 : ∀ l, xpr 275 11 l = l := xpr_no (by decide +kernel)
theorem r_275_14 : xfetch 275 14 = some (.return_, 1) := by decide +kernel
theorem n_275_14 : ∀ l, xpr 275 14 l = l := xpr_no (by decide +kernel)
theorem v_Model_mix_0 {S : Option (Nat × (Nat → Int32))} {s : zSt} {Q : Option Value ⊕ Nat → zSt → Prop} {u1 : Int64} 
    (h : Q rU (zwL s 252 29 ((31 * (zL s 252 29)) + u1))) :
    wp S 275 0 [(0, rf 252), (1, .long u1)] [] s Q := by
  refine i_aload_n (a := 252) r_275_0 (n_275_0 _) rfl ?_
  refine i_ldc2 r_275_1 (n_275_1 _) rfl ?_
  refine i_aload_n (a := 252) r_275_4 (n_275_4 _) rfl ?_
  refine i_getL (a := 252) r_275_5 (n_275_5 _) rfl rfl lf_252 ?_
  refine i_lmul r_275_8 (n_275_8 _) ?_
  refine i_lload_n (u := u1) r_275_9 (n_275_9 _) rfl ?_
  refine i_ladd r_275_10 (n_275_10 _) ?_
  refine i_putL (a := 252) r_275_11 (n_275_11 _) rfl rfl rfl lf_252 ?_
  exact i_return r_275_14 (n_275_14 _) rfl h

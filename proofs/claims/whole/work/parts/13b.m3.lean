theorem r_270_0 : xfetch 270 0 = some (.iconst 0, 1) := by decide +kernel
theorem n_270_0 : ∀ l, xpr 270 0 l = l := xpr_no (by decide +kernel)
theorem r_270_1 : xfetch 270 1 = some (.istore 9, 2) := by decide +kernel
theorem n_270_1 : ∀ l, xpr 270 1 l = l := xpr_no (by decide +kernel)
theorem r_270_3 : xfetch 270 3 = some (.iload 9, 2) := by decide +kernel
theorem r_270_5 : xfetch 270 5 = some (.sipush 8192, 3) := by decide +kernel
theorem n_270_5 : ∀ l, xpr 270 5 l = l := xpr_no (by decide +kernel)
theorem r_270_8 : xfetch 270 8 = some (.if_icmp .ge 17, 3) := by decide +kernel
theorem n_270_8 : ∀ l, xpr 270 8 l = l := xpr_no (by decide +kernel)
theorem r_270_11 : xfetch 270 11 = some (.aload_n 0, 1) := by decide +kernel
theorem n_270_11 : ∀ l, xpr 270 11 l = l := xpr_no (by decide +kernel)
theorem r_270_12 : xfetch 270 12 = some (.getfield 74, 3) := by decide +kernel
theorem n_270_12 : ∀ l, xpr 270 12 l = l := xpr_no (by decide +kernel)
theorem r_270_15 : xfetch 270 15 = some (.iload 9, 2) := by decide +kernel
theorem n_270_15 : ∀ l, xpr 270 15 l = l := xpr_no (by decide +kernel)
theorem r_270_17 : xfetch 270 17 = some (.iconst 0, 1) := by decide +kernel
theorem n_270_17 : ∀ l, xpr 270 17 l = l := xpr_no (by decide +kernel)
theorem r_270_18 : xfetch 270 18 = some (.iastore, 1) := by decide +kernel
theorem n_270_18 : ∀ l, xpr 270 18 l = l := xpr_no (by decide +kernel)
theorem r_270_19 : xfetch 270 19 = some (.iinc 9 1, 3) := by decide +kernel
theorem n_270_19 : ∀ l, xpr 270 19 l = l := xpr_no (by decide +kernel)
theorem r_270_22 : xfetch 270 22 = some (.goto (-19), 3) := by decide +kernel
theorem n_270_22 : ∀ l, xpr 270 22 l = l := xpr_no (by decide +kernel)
theorem r_270_25 : xfetch 270 25 = some (.iload 7, 2) := by decide +kernel
theorem n_270_25 : ∀ l, xpr 270 25 l = l := xpr_no (by decide +kernel)
theorem r_270_27 : xfetch 270 27 = some (.istore 9, 2) := by decide +kernel
theorem n_270_27 : ∀ l, xpr 270 27 l = l := xpr_no (by decide +kernel)
theorem r_270_29 : xfetch 270 29 = some (.iload 9, 2) := by decide +kernel
theorem r_270_31 : xfetch 270 31 = some (.iload 8, 2) := by decide +kernel
theorem n_270_31 : ∀ l, xpr 270 31 l = l := xpr_no (by decide +kernel)
theorem r_270_33 : xfetch 270 33 = some (.if_icmp .gt 97, 3) := by decide +kernel
theorem n_270_33 : ∀ l, xpr 270 33 l = l := xpr_no (by decide +kernel)
theorem r_270_36 : xfetch 270 36 = some (.iconst 0, 1) := by decide +kernel
theorem n_270_36 : ∀ l, xpr 270 36 l = l := xpr_no (by decide +kernel)
theorem r_270_37 : xfetch 270 37 = some (.istore 10, 2) := by decide +kernel
theorem n_270_37 : ∀ l, xpr 270 37 l = l := xpr_no (by decide +kernel)
theorem r_270_39 : xfetch 270 39 = some (.iload 10, 2) := by decide +kernel
theorem r_270_41 : xfetch 270 41 = some (.aload_n 0, 1) := by decide +kernel
theorem n_270_41 : ∀ l, xpr 270 41 l = l := xpr_no (by decide +kernel)
theorem r_270_42 : xfetch 270 42 = some (.getfield 19, 3) := by decide +kernel
theorem n_270_42 : ∀ l, xpr 270 42 l = l := xpr_no (by decide +kernel)
theorem r_270_45 : xfetch 270 45 = some (.iload_n 1, 1) := by decide +kernel
theorem n_270_45 : ∀ l, xpr 270 45 l = l := xpr_no (by decide +kernel)
theorem r_270_46 : xfetch 270 46 = some (.iaload, 1) := by decide +kernel
theorem n_270_46 : ∀ l, xpr 270 46 l = l := xpr_no (by decide +kernel)
theorem r_270_47 : xfetch 270 47 = some (.if_icmp .ge 77, 3) := by decide +kernel
theorem n_270_47 : ∀ l, xpr 270 47 l = l := xpr_no (by decide +kernel)
theorem r_270_50 : xfetch 270 50 = some (.lload 5, 2) := by decide +kernel
theorem n_270_50 : ∀ l, xpr 270 50 l = l := xpr_no (by decide +kernel)
theorem r_270_52 : xfetch 270 52 = some (.iload 10, 2) := by decide +kernel
theorem n_270_52 : ∀ l, xpr 270 52 l = l := xpr_no (by decide +kernel)
theorem r_270_54 : xfetch 270 54 = some (.lshr, 1) := by decide +kernel
theorem n_270_54 : ∀ l, xpr 270 54 l = l := xpr_no (by decide +kernel)
theorem r_270_55 : xfetch 270 55 = some (.lconst 1, 1) := by decide +kernel
theorem n_270_55 : ∀ l, xpr 270 55 l = l := xpr_no (by decide +kernel)
theorem r_270_56 : xfetch 270 56 = some (.land, 1) := by decide +kernel
theorem n_270_56 : ∀ l, xpr 270 56 l = l := xpr_no (by decide +kernel)
theorem r_270_57 : xfetch 270 57 = some (.lconst 1, 1) := by decide +kernel
theorem n_270_57 : ∀ l, xpr 270 57 l = l := xpr_no (by decide +kernel)
theorem r_270_58 : xfetch 270 58 = some (.lcmp, 1) := by decide +kernel
theorem n_270_58 : ∀ l, xpr 270 58 l = l := xpr_no (by decide +kernel)
theorem r_270_59 : xfetch 270 59 = some (.ifCond .ne 59, 3) := by decide +kernel
theorem n_270_59 : ∀ l, xpr 270 59 l = l := xpr_no (by decide +kernel)
theorem r_270_62 : xfetch 270 62 = some (.iload 4, 2) := by decide +kernel
theorem n_270_62 : ∀ l, xpr 270 62 l = l := xpr_no (by decide +kernel)
theorem r_270_64 : xfetch 270 64 = some (.aload_n 0, 1) := by decide +kernel
theorem n_270_64 : ∀ l, xpr 270 64 l = l := xpr_no (by decide +kernel)
theorem r_270_65 : xfetch 270 65 = some (.iload_n 1, 1) := by decide +kernel
theorem n_270_65 : ∀ l, xpr 270 65 l = l := xpr_no (by decide +kernel)
theorem r_270_66 : xfetch 270 66 = some (.iload_n 2, 1) := by decide +kernel
theorem n_270_66 : ∀ l, xpr 270 66 l = l := xpr_no (by decide +kernel)
theorem r_270_67 : xfetch 270 67 = some (.iload_n 3, 1) := by decide +kernel
theorem n_270_67 : ∀ l, xpr 270 67 l = l := xpr_no (by decide +kernel)
theorem r_270_68 : xfetch 270 68 = some (.iload 9, 2) := by decide +kernel
theorem n_270_68 : ∀ l, xpr 270 68 l = l := xpr_no (by decide +kernel)
theorem r_270_70 : xfetch 270 70 = some (.iload 10, 2) := by decide +kernel
theorem n_270_70 : ∀ l, xpr 270 70 l = l := xpr_no (by decide +kernel)
theorem r_270_72 : xfetch 270 72 = some (.invokevirtual 250, 3) := by decide +kernel
theorem n_270_72 : ∀ l, xpr 270 72 l = l := xpr_no (by decide +kernel)
theorem r_270_75 : xfetch 270 75 = some (.iadd, 1) := by decide +kernel
theorem n_270_75 : ∀ l, xpr 270 75 l = l := xpr_no (by decide +kernel)
theorem r_270_76 : xfetch 270 76 = some (.istore 11, 2) := by decide +kernel
theorem n_270_76 : ∀ l, xpr 270 76 l = l := xpr_no (by decide +kernel)
theorem r_270_78 : xfetch 270 78 = some (.iconst 0, 1) := by decide +kernel
theorem n_270_78 : ∀ l, xpr 270 78 l = l := xpr_no (by decide +kernel)
theorem r_270_79 : xfetch 270 79 = some (.istore 12, 2) := by decide +kernel
theorem n_270_79 : ∀ l, xpr 270 79 l = l := xpr_no (by decide +kernel)
theorem r_270_81 : xfetch 270 81 = some (.iload 12, 2) := by decide +kernel
theorem r_270_83 : xfetch 270 83 = some (.aload_n 0, 1) := by decide +kernel
theorem n_270_83 : ∀ l, xpr 270 83 l = l := xpr_no (by decide +kernel)
theorem r_270_84 : xfetch 270 84 = some (.getfield 28, 3) := by decide +kernel
theorem n_270_84 : ∀ l, xpr 270 84 l = l := xpr_no (by decide +kernel)
theorem r_270_87 : xfetch 270 87 = some (.bipush 40, 2) := by decide +kernel
theorem n_270_87 : ∀ l, xpr 270 87 l = l := xpr_no (by decide +kernel)
theorem r_270_89 : xfetch 270 89 = some (.iload_n 1, 1) := by decide +kernel
theorem n_270_89 : ∀ l, xpr 270 89 l = l := xpr_no (by decide +kernel)
theorem r_270_90 : xfetch 270 90 = some (.imul, 1) := by decide +kernel
theorem n_270_90 : ∀ l, xpr 270 90 l = l := xpr_no (by decide +kernel)
theorem r_270_91 : xfetch 270 91 = some (.iload 10, 2) := by decide +kernel
theorem n_270_91 : ∀ l, xpr 270 91 l = l := xpr_no (by decide +kernel)
theorem r_270_93 : xfetch 270 93 = some (.iadd, 1) := by decide +kernel
theorem n_270_93 : ∀ l, xpr 270 93 l = l := xpr_no (by decide +kernel)
theorem r_270_94 : xfetch 270 94 = some (.iaload, 1) := by decide +kernel
theorem n_270_94 : ∀ l, xpr 270 94 l = l := xpr_no (by decide +kernel)
theorem r_270_95 : xfetch 270 95 = some (.invokestatic 96, 3) := by decide +kernel
theorem n_270_95 : ∀ l, xpr 270 95 l = l := xpr_no (by decide +kernel)
theorem r_270_98 : xfetch 270 98 = some (.if_icmp .ge 20, 3) := by decide +kernel
theorem n_270_98 : ∀ l, xpr 270 98 l = l := xpr_no (by decide +kernel)
theorem r_270_101 : xfetch 270 101 = some (.aload_n 0, 1) := by decide +kernel
theorem n_270_101 : ∀ l, xpr 270 101 l = l := xpr_no (by decide +kernel)
theorem r_270_102 : xfetch 270 102 = some (.getfield 74, 3) := by decide +kernel
theorem n_270_102 : ∀ l, xpr 270 102 l = l := xpr_no (by decide +kernel)
theorem r_270_105 : xfetch 270 105 = some (.iload 11, 2) := by decide +kernel
theorem n_270_105 : ∀ l, xpr 270 105 l = l := xpr_no (by decide +kernel)
theorem r_270_107 : xfetch 270 107 = some (.iload 12, 2) := by decide +kernel
theorem n_270_107 : ∀ l, xpr 270 107 l = l := xpr_no (by decide +kernel)
theorem r_270_109 : xfetch 270 109 = some (.iadd, 1) := by decide +kernel
theorem n_270_109 : ∀ l, xpr 270 109 l = l := xpr_no (by decide +kernel)
theorem r_270_110 : xfetch 270 110 = some (.iconst 1, 1) := by decide +kernel
theorem n_270_110 : ∀ l, xpr 270 110 l = l := xpr_no (by decide +kernel)
theorem r_270_111 : xfetch 270 111 = some (.iastore, 1) := by decide +kernel
theorem n_270_111 : ∀ l, xpr 270 111 l = l := xpr_no (by decide +kernel)
theorem r_270_112 : xfetch 270 112 = some (.iinc 12 1, 3) := by decide +kernel
theorem n_270_112 : ∀ l, xpr 270 112 l = l := xpr_no (by decide +kernel)
theorem r_270_115 : xfetch 270 115 = some (.goto (-34), 3) := by decide +kernel
theorem n_270_115 : ∀ l, xpr 270 115 l = l := xpr_no (by decide +kernel)
theorem r_270_118 : xfetch 270 118 = some (.iinc 10 1, 3) := by decide +kernel
theorem n_270_118 : ∀ l, xpr 270 118 l = l := xpr_no (by decide +kernel)
theorem r_270_121 : xfetch 270 121 = some (.goto (-82), 3) := by decide +kernel
theorem n_270_121 : ∀ l, xpr 270 121 l = l := xpr_no (by decide +kernel)
theorem r_270_124 : xfetch 270 124 = some (.iinc 9 1, 3) := by decide +kernel
theorem n_270_124 : ∀ l, xpr 270 124 l = l := xpr_no (by decide +kernel)
theorem r_270_127 : xfetch 270 127 = some (.goto (-98), 3) := by decide +kernel
theorem n_270_127 : ∀ l, xpr 270 127 l = l := xpr_no (by decide +kernel)
theorem r_270_130 : xfetch 270 130 = some (.sipush 8192, 3) := by decide +kernel
theorem n_270_130 : ∀ l, xpr 270 130 l = l := xpr_no (by decide +kernel)
theorem r_270_133 : xfetch 270 133 = some (.ireturn, 1) := by decide +kernel
theorem n_270_133 : ∀ l, xpr 270 133 l = l := xpr_no (by decide +kernel)
theorem v_Model_marksScan_0 {S : Option (Nat × (Nat → Int32))} {s : zSt} {Q : Option Value ⊕ Nat → zSt → Prop} {x1 : Int} {x2 : Int} {x3 : Int} {x4 : Int} {u5 : Int64} {x7 : Int} {x8 : Int} 
    (h : wp S 270 3 [(0, rf 252), (1, iv x1), (2, iv x2), (3, iv x3), (4, iv x4), (5, .long u5), (7, iv x7), (8, iv x8), (9, iv 0)] [] s Q) :
    wp S 270 0 [(0, rf 252), (1, iv x1), (2, iv x2), (3, iv x3), (4, iv x4), (5, .long u5), (7, iv x7), (8, iv x8)] [] s Q := by
  refine i_iconst r_270_0 (n_270_0 _) ?_
  refine i_istore (l' := [(0, rf 252), (1, iv x1), (2, iv x2), (3, iv x3), (4, iv x4), (5, .long u5), (7, iv x7), (8, iv x8), (9, iv 0)]) r_270_1 (n_270_1 _) (by decide) rfl ?_
  exact wp_pr (l' := [(0, rf 252), (1, iv x1), (2, iv x2), (3, iv x3), (4, iv x4), (5, .long u5), (7, iv x7), (8, iv x8), (9, iv 0)]) rfl h
theorem v_Model_marksScan_3 {S : Option (Nat × (Nat → Int32))} {s : zSt} {Q : Option Value ⊕ Nat → zSt → Prop} {x1 : Int} {x2 : Int} {x3 : Int} {x4 : Int} {u5 : Int64} {x7 : Int} {x8 : Int} {x9 : Int} 
    (h : rng x9 ∧ ((8192 ≤ x9 → wp S 270 29 [(0, rf 252), (1, iv x1), (2, iv x2), (3, iv x3), (4, iv x4), (5, .long u5), (8, iv x8), (9, iv x7)] [] s Q) ∧ (x9 < 8192 → (0 ≤ x9 ∧ x9 < 8192) ∧ (wp S 270 3 [(0, rf 252), (1, iv x1), (2, iv x2), (3, iv x3), (4, iv x4), (5, .long u5), (7, iv x7), (8, iv x8), (9, iv (x9 + 1))] [] (zwI s 274 x9 0) Q)))) :
    wp S 270 3 [(0, rf 252), (1, iv x1), (2, iv x2), (3, iv x3), (4, iv x4), (5, .long u5), (7, iv x7), (8, iv x8), (9, iv x9)] [] s Q := by
  refine i_iload (x := x9) r_270_3 rfl rfl ?_
  refine i_sipush r_270_5 (n_270_5 _) rfl ?_
  obtain ⟨g1, h⟩ := h
  refine i_icmp (t := 25) r_270_8 (n_270_8 _) rfl (T_ge g1 ⟨by omega, by omega⟩) (fun c2 => ?_) (fun c2 => ?_)
  · replace h := h.1 c2
    refine i_iload (x := x7) r_270_25 (n_270_25 _) rfl ?_
    refine i_istore (l' := [(0, rf 252), (1, iv x1), (2, iv x2), (3, iv x3), (4, iv x4), (5, .long u5), (7, iv x7), (8, iv x8), (9, iv x7)]) r_270_27 (n_270_27 _) (by decide) rfl ?_
    exact wp_pr (l' := [(0, rf 252), (1, iv x1), (2, iv x2), (3, iv x3), (4, iv x4), (5, .long u5), (8, iv x8), (9, iv x7)]) rfl h
  · replace h := h.2 c2
    refine i_aload_n (a := 252) r_270_11 (n_270_11 _) rfl ?_
    refine i_getR (a := 252) (b := 274) r_270_12 (n_270_12 _) rfl rfl rfl (by omega) lf_252 (by omega) ?_
    refine i_iload (x := x9) r_270_15 (n_270_15 _) rfl ?_
    refine i_iconst r_270_17 (n_270_17 _) ?_
    obtain ⟨g3, h⟩ := h
    refine i_iastore (a := 274) (j := x9) (x := 0) r_270_18 (n_270_18 _) lf_274 ⟨by omega, by omega⟩ (by omega) (by omega) ⟨by omega, by omega⟩ ?_
    refine i_iinc (x := x9) (l' := [(0, rf 252), (1, iv x1), (2, iv x2), (3, iv x3), (4, iv x4), (5, .long u5), (7, iv x7), (8, iv x8), (9, iv (x9 + 1))]) r_270_19 (n_270_19 _) (by decide) rfl rfl ?_
    refine i_goto (t := 3) r_270_22 (n_270_22 _) rfl ?_
    exact wp_pr (l' := [(0, rf 252), (1, iv x1), (2, iv x2), (3, iv x3), (4, iv x4), (5, .long u5), (7, iv x7), (8, iv x8), (9, iv (x9 + 1))]) rfl h
theorem v_Model_marksScan_29 {S : Option (Nat × (Nat → Int32))} {s : zSt} {Q : Option Value ⊕ Nat → zSt → Prop} {x1 : Int} {x2 : Int} {x3 : Int} {x4 : Int} {u5 : Int64} {x8 : Int} {x9 : Int} 
    (h : rng x9 ∧ (rng x8 ∧ ((x8 < x9 → Q (rI 8192) s) ∧ (x9 ≤ x8 → wp S 270 39 [(0, rf 252), (1, iv x1), (2, iv x2), (3, iv x3), (4, iv x4), (5, .long u5), (8, iv x8), (9, iv x9), (10, iv 0)] [] s Q)))) :
    wp S 270 29 [(0, rf 252), (1, iv x1), (2, iv x2), (3, iv x3), (4, iv x4), (5, .long u5), (8, iv x8), (9, iv x9)] [] s Q := by
  refine i_iload (x := x9) r_270_29 rfl rfl ?_
  refine i_iload (x := x8) r_270_31 (n_270_31 _) rfl ?_
  obtain ⟨g1, h⟩ := h
  obtain ⟨g2, h⟩ := h
  refine i_icmp (t := 130) r_270_33 (n_270_33 _) rfl (T_gt g1 g2) (fun c3 => ?_) (fun c3 => ?_)
  · replace h := h.1 c3
    refine i_sipush r_270_130 (n_270_130 _) rfl ?_
    exact i_ireturn r_270_133 (n_270_133 _) rfl h
  · replace h := h.2 c3
    refine i_iconst r_270_36 (n_270_36 _) ?_
    refine i_istore (l' := [(0, rf 252), (1, iv x1), (2, iv x2), (3, iv x3), (4, iv x4), (5, .long u5), (8, iv x8), (9, iv x9), (10, iv 0)]) r_270_37 (n_270_37 _) (by decide) rfl ?_
    exact wp_pr (l' := [(0, rf 252), (1, iv x1), (2, iv x2), (3, iv x3), (4, iv x4), (5, .long u5), (8, iv x8), (9, iv x9), (10, iv 0)]) rfl h
theorem v_Model_marksScan_39 {S : Option (Nat × (Nat → Int32))} {s : zSt} {Q : Option Value ⊕ Nat → zSt → Prop} {x1 : Int} {x2 : Int} {x3 : Int} {x4 : Int} {u5 : Int64} {x8 : Int} {x9 : Int} {x10 : Int} 
    (h : (0 ≤ x1 ∧ x1 < 6) ∧ (rng x10 ∧ (((zI s 256 x1) ≤ x10 → wp S 270 29 [(0, rf 252), (1, iv x1), (2, iv x2), (3, iv x3), (4, iv x4), (5, .long u5), (8, iv x8), (9, iv (x9 + 1))] [] s Q) ∧ (x10 < (zI s 256 x1) → ((zcmp ((zshrL u5 x10) &&& 1) 1) ≠ 0 → wp S 270 39 [(0, rf 252), (1, iv x1), (2, iv x2), (3, iv x3), (4, iv x4), (5, .long u5), (8, iv x8), (9, iv x9), (10, iv (x10 + 1))] [] s Q) ∧ ((zcmp ((zshrL u5 x10) &&& 1) 1) = 0 → wp S 246 0 [(0, rf 252), (1, iv x1), (2, iv x2), (3, iv x3), (4, iv x9), (5, iv x10)] [] s (fun o6 s6 => zkI (fun y6 => wp S 270 81 [(0, rf 252), (1, iv x1), (2, iv x2), (3, iv x3), (4, iv x4), (5, .long u5), (8, iv x8), (9, iv x9), (10, iv x10), (11, iv (x4 + y6)), (12, iv 0)] [] s6 Q) (fun e6 => False) o6)))))) :
    wp S 270 39 [(0, rf 252), (1, iv x1), (2, iv x2), (3, iv x3), (4, iv x4), (5, .long u5), (8, iv x8), (9, iv x9), (10, iv x10)] [] s Q := by
  refine i_iload (x := x10) r_270_39 rfl rfl ?_
  refine i_aload_n (a := 252) r_270_41 (n_270_41 _) rfl ?_
  refine i_getR (a := 252) (b := 256) r_270_42 (n_270_42 _) rfl rfl rfl (by omega) lf_252 (by omega) ?_
  refine i_iload_n (x := x1) r_270_45 (n_270_45 _) rfl ?_
  obtain ⟨g1, h⟩ := h
  refine i_iaload (a := 256) (j := x1) r_270_46 (n_270_46 _) lf_256 ⟨by omega, by omega⟩ (by omega) (by omega) (fun q2 => ?_)
  obtain ⟨g3, h⟩ := h
  refine i_icmp (t := 124) r_270_47 (n_270_47 _) rfl (T_ge g3 q2) (fun c4 => ?_) (fun c4 => ?_)
  · replace h := h.1 c4
    refine i_iinc (x := x9) (l' := [(0, rf 252), (1, iv x1), (2, iv x2), (3, iv x3), (4, iv x4), (5, .long u5), (8, iv x8), (9, iv (x9 + 1)), (10, iv x10)]) r_270_124 (n_270_124 _) (by decide) rfl rfl ?_
    refine i_goto (t := 29) r_270_127 (n_270_127 _) rfl ?_
    exact wp_pr (l' := [(0, rf 252), (1, iv x1), (2, iv x2), (3, iv x3), (4, iv x4), (5, .long u5), (8, iv x8), (9, iv (x9 + 1))]) rfl h
  · replace h := h.2 c4
    refine i_lload (u := u5) r_270_50 (n_270_50 _) rfl ?_
    refine i_iload (x := x10) r_270_52 (n_270_52 _) rfl ?_
    refine i_lshr r_270_54 (n_270_54 _) ?_
    refine i_lconst r_270_55 (n_270_55 _) ?_
    refine i_land r_270_56 (n_270_56 _) ?_
    refine i_lconst r_270_57 (n_270_57 _) ?_
    refine i_lcmp r_270_58 (n_270_58 _) ?_
    refine i_if (t := 118) r_270_59 (n_270_59 _) rfl (T_ne (zcmp_rng _ _) ⟨by omega, by omega⟩) (fun c5 => ?_) (fun c5 => ?_)
    · replace h := h.1 c5
      refine i_iinc (x := x10) (l' := [(0, rf 252), (1, iv x1), (2, iv x2), (3, iv x3), (4, iv x4), (5, .long u5), (8, iv x8), (9, iv x9), (10, iv (x10 + 1))]) r_270_118 (n_270_118 _) (by decide) rfl rfl ?_
      refine i_goto (t := 39) r_270_121 (n_270_121 _) rfl ?_
      exact wp_pr (l' := [(0, rf 252), (1, iv x1), (2, iv x2), (3, iv x3), (4, iv x4), (5, .long u5), (8, iv x8), (9, iv x9), (10, iv (x10 + 1))]) rfl h
    · replace h := h.2 c5
      refine i_iload (x := x4) r_270_62 (n_270_62 _) rfl ?_
      refine i_aload_n (a := 252) r_270_64 (n_270_64 _) rfl ?_
      refine i_iload_n (x := x1) r_270_65 (n_270_65 _) rfl ?_
      refine i_iload_n (x := x2) r_270_66 (n_270_66 _) rfl ?_
      refine i_iload_n (x := x3) r_270_67 (n_270_67 _) rfl ?_
      refine i_iload (x := x9) r_270_68 (n_270_68 _) rfl ?_
      refine i_iload (x := x10) r_270_70 (n_270_70 _) rfl ?_
      refine wp_virt (b := 252) (rest := [iv x4]) (Ls := [(0, rf 252), (1, iv x1), (2, iv x2), (3, iv x3), (4, iv x9), (5, iv x10)]) r_270_72 (n_270_72 _) rfl ⟨rfl, rfl, by decide, by decide⟩ rfl rfl lf_252 ⟨rfl, Nat.le_of_ble_eq_true rfl, Nat.le_of_ble_eq_true rfl⟩ rfl h ?_
      intro o6 s6 h
      rcases h with ⟨y6, q7, rfl, h⟩ | ⟨e6, rfl, h⟩
      · refine .inl ⟨some (iv y6), rfl, ?_⟩
        show wp S 270 75 [(0, rf 252), (1, iv x1), (2, iv x2), (3, iv x3), (4, iv x4), (5, .long u5), (8, iv x8), (9, iv x9), (10, iv x10)] [iv y6, iv x4] s6 Q
        refine i_iadd r_270_75 (n_270_75 _) ?_
        refine i_istore (l' := [(0, rf 252), (1, iv x1), (2, iv x2), (3, iv x3), (4, iv x4), (5, .long u5), (8, iv x8), (9, iv x9), (10, iv x10), (11, iv (x4 + y6))]) r_270_76 (n_270_76 _) (by decide) rfl ?_
        refine i_iconst r_270_78 (n_270_78 _) ?_
        refine i_istore (l' := [(0, rf 252), (1, iv x1), (2, iv x2), (3, iv x3), (4, iv x4), (5, .long u5), (8, iv x8), (9, iv x9), (10, iv x10), (11, iv (x4 + y6)), (12, iv 0)]) r_270_79 (n_270_79 _) (by decide) rfl ?_
        exact wp_pr (l' := [(0, rf 252), (1, iv x1), (2, iv x2), (3, iv x3), (4, iv x4), (5, .long u5), (8, iv x8), (9, iv x9), (10, iv x10), (11, iv (x4 + y6)), (12, iv 0)]) rfl h
      · skip
        exact h.elim
theorem v_Model_marksScan_81 {S : Option (Nat × (Nat → Int32))} {s : zSt} {Q : Option Value ⊕ Nat → zSt → Prop} {x1 : Int} {x2 : Int} {x3 : Int} {x4 : Int} {u5 : Int64} {x8 : Int} {x9 : Int} {x10 : Int} {x11 : Int} {x12 : Int} 
    (h : (0 ≤ ((40 * x1) + x10) ∧ ((40 * x1) + x10) < 240) ∧ (rng x12 ∧ (rng (zby (zI s 259 ((40 * x1) + x10))) ∧ (((zby (zI s 259 ((40 * x1) + x10))) ≤ x12 → wp S 270 39 [(0, rf 252), (1, iv x1), (2, iv x2), (3, iv x3), (4, iv x4), (5, .long u5), (8, iv x8), (9, iv x9), (10, iv (x10 + 1))] [] s Q) ∧ (x12 < (zby (zI s 259 ((40 * x1) + x10))) → (0 ≤ (x11 + x12) ∧ (x11 + x12) < 8192) ∧ (wp S 270 81 [(0, rf 252), (1, iv x1), (2, iv x2), (3, iv x3), (4, iv x4), (5, .long u5), (8, iv x8), (9, iv x9), (10, iv x10), (11, iv x11), (12, iv (x12 + 1))] [] (zwI s 274 (x11 + x12) 1) Q)))))) :
    wp S 270 81 [(0, rf 252), (1, iv x1), (2, iv x2), (3, iv x3), (4, iv x4), (5, .long u5), (8, iv x8), (9, iv x9), (10, iv x10), (11, iv x11), (12, iv x12)] [] s Q := by
  refine i_iload (x := x12) r_270_81 rfl rfl ?_
  refine i_aload_n (a := 252) r_270_83 (n_270_83 _) rfl ?_
  refine i_getR (a := 252) (b := 259) r_270_84 (n_270_84 _) rfl rfl rfl (by omega) lf_252 (by omega) ?_
  refine i_bipush r_270_87 (n_270_87 _) rfl ?_
  refine i_iload_n (x := x1) r_270_89 (n_270_89 _) rfl ?_
  refine i_imul r_270_90 (n_270_90 _) ?_
  refine i_iload (x := x10) r_270_91 (n_270_91 _) rfl ?_
  refine i_iadd r_270_93 (n_270_93 _) ?_
  obtain ⟨g1, h⟩ := h
  refine i_iaload (a := 259) (j := (40 * x1) + x10) r_270_94 (n_270_94 _) lf_259 ⟨by omega, by omega⟩ (by omega) (by omega) (fun q2 => ?_)
  refine wp_stat (rest := [iv x12]) (Ls := [(0, iv (zI s 259 ((40 * x1) + x10)))]) r_270_95 (n_270_95 _) rfl ⟨rfl, by decide, by decide, by decide⟩ rfl rfl ⟨rfl, Nat.le_of_ble_eq_true rfl, Nat.le_of_ble_eq_true rfl⟩ rfl (K_Model_bytesOf q2) ?_
  rintro _ _ ⟨rfl, rfl⟩
  refine .inl ⟨some (iv (zby (zI s 259 ((40 * x1) + x10)))), rfl, ?_⟩
  show wp S 270 98 [(0, rf 252), (1, iv x1), (2, iv x2), (3, iv x3), (4, iv x4), (5, .long u5), (8, iv x8), (9, iv x9), (10, iv x10), (11, iv x11), (12, iv x12)] [iv (zby (zI s 259 ((40 * x1) + x10))), iv x12] s Q
  obtain ⟨g4, h⟩ := h
  obtain ⟨g5, h⟩ := h
  refine i_icmp (t := 118) r_270_98 (n_270_98 _) rfl (T_ge g4 g5) (fun c6 => ?_) (fun c6 => ?_)
  · replace h := h.1 c6
    refine i_iinc (x := x10) (l' := [(0, rf 252), (1, iv x1), (2, iv x2), (3, iv x3), (4, iv x4), (5, .long u5), (8, iv x8), (9, iv x9), (10, iv (x10 + 1)), (11, iv x11), (12, iv x12)]) r_270_118 (n_270_118 _) (by decide) rfl rfl ?_
    refine i_goto (t := 39) r_270_121 (n_270_121 _) rfl ?_
    exact wp_pr (l' := [(0, rf 252), (1, iv x1), (2, iv x2), (3, iv x3), (4, iv x4), (5, .long u5), (8, iv x8), (9, iv x9), (10, iv (x10 + 1))]) rfl h
  · replace h := h.2 c6
    refine i_aload_n (a := 252) r_270_101 (n_270_101 _) rfl ?_
    refine i_getR (a := 252) (b := 274) r_270_102 (n_270_102 _) rfl rfl rfl (by omega) lf_252 (by omega) ?_
    refine i_iload (x := x11) r_270_105 (n_270_105 _) rfl ?_
    refine i_iload (x := x12) r_270_107 (n_270_107 _) rfl ?_
    refine i_iadd r_270_109 (n_270_109 _) ?_
    refine i_iconst r_270_110 (n_270_110 _) ?_
    obtain ⟨g7, h⟩ := h
    refine i_iastore (a := 274) (j := x11 + x12) (x := 1) r_270_111 (n_270_111 _) lf_274 ⟨by omega, by omega⟩ (by omega) (by omega) ⟨by omega, by omega⟩ ?_
    refine i_iinc (x := x12) (l' := [(0, rf 252), (1, iv x1), (2, iv x2), (3, iv x3), (4, iv x4), (5, .long u5), (8, iv x8), (9, iv x9), (10, iv x10), (11, iv x11), (12, iv (x12 + 1))]) r_270_112 (n_270_112 _) (by decide) rfl rfl ?_
    refine i_goto (t := 81) r_270_115 (n_270_115 _) rfl ?_
    exact wp_pr (l' := [(0, rf 252), (1, iv x1), (2, iv x2), (3, iv x3), (4, iv x4), (5, .long u5), (8, iv x8), (9, iv x9), (10, iv x10), (11, iv x11), (12, iv (x12 + 1))]) rfl h
theorem r_271_0 : xfetch 271 0 = some (.iconst 0, 1) := by decide +kernel
theorem n_271_0 : ∀ l, xpr 271 0 l = l := xpr_no (by decide +kernel)
theorem r_271_1 : xfetch 271 1 = some (.istore_n 2, 1) := by decide +kernel
theorem n_271_1 : ∀ l, xpr 271 1 l = l := xpr_no (by decide +kernel)
theorem r_271_2 : xfetch 271 2 = some (.iconst 0, 1) := by decide +kernel
theorem n_271_2 : ∀ l, xpr 271 2 l = l := xpr_no (by decide +kernel)
theorem r_271_3 : xfetch 271 3 = some (.istore_n 3, 1) := by decide +kernel
theorem n_271_3 : ∀ l, xpr 271 3 l = l := xpr_no (by decide +kernel)
theorem r_271_4 : xfetch 271 4 = some (.iload_n 3, 1) := by decide +kernel
theorem r_271_5 : xfetch 271 5 = some (.sipush 8192, 3) := by decide +kernel
theorem n_271_5 : ∀ l, xpr 271 5 l = l := xpr_no (by decide +kernel)
theorem r_271_8 : xfetch 271 8 = some (.if_icmp .ge 47, 3) := by decide +kernel
theorem n_271_8 : ∀ l, xpr 271 8 l = l := xpr_no (by decide +kernel)
theorem r_271_11 : xfetch 271 11 = some (.iconst 0, 1) := by decide +kernel
theorem n_271_11 : ∀ l, xpr 271 11 l = l := xpr_no (by decide +kernel)
theorem r_271_12 : xfetch 271 12 = some (.istore 4, 2) := by decide +kernel
theorem n_271_12 : ∀ l, xpr 271 12 l = l := xpr_no (by decide +kernel)
theorem r_271_14 : xfetch 271 14 = some (.iconst 0, 1) := by decide +kernel
theorem n_271_14 : ∀ l, xpr 271 14 l = l := xpr_no (by decide +kernel)
theorem r_271_15 : xfetch 271 15 = some (.istore 5, 2) := by decide +kernel
theorem n_271_15 : ∀ l, xpr 271 15 l = l := xpr_no (by decide +kernel)
theorem r_271_17 : xfetch 271 17 = some (.iload 5, 2) := by decide +kernel
theorem r_271_19 : xfetch 271 19 = some (.iload_n 1, 1) := by decide +kernel
theorem n_271_19 : ∀ l, xpr 271 19 l = l := xpr_no (by decide +kernel)
theorem r_271_20 : xfetch 271 20 = some (.if_icmp .ge 23, 3) := by decide +kernel
theorem n_271_20 : ∀ l, xpr 271 20 l = l := xpr_no (by decide +kernel)
theorem r_271_23 : xfetch 271 23 = some (.iload 4, 2) := by decide +kernel
theorem n_271_23 : ∀ l, xpr 271 23 l = l := xpr_no (by decide +kernel)
theorem r_271_25 : xfetch 271 25 = some (.aload_n 0, 1) := by decide +kernel
theorem n_271_25 : ∀ l, xpr 271 25 l = l := xpr_no (by decide +kernel)
theorem r_271_26 : xfetch 271 26 = some (.getfield 74, 3) := by decide +kernel
theorem n_271_26 : ∀ l, xpr 271 26 l = l := xpr_no (by decide +kernel)
theorem r_271_29 : xfetch 271 29 = some (.iload_n 3, 1) := by decide +kernel
theorem n_271_29 : ∀ l, xpr 271 29 l = l := xpr_no (by decide +kernel)
theorem r_271_30 : xfetch 271 30 = some (.iload 5, 2) := by decide +kernel
theorem n_271_30 : ∀ l, xpr 271 30 l = l := xpr_no (by decide +kernel)
theorem r_271_32 : xfetch 271 32 = some (.iadd, 1) := by decide +kernel
theorem n_271_32 : ∀ l, xpr 271 32 l = l := xpr_no (by decide +kernel)
theorem r_271_33 : xfetch 271 33 = some (.iaload, 1) := by decide +kernel
theorem n_271_33 : ∀ l, xpr 271 33 l = l := xpr_no (by decide +kernel)
theorem r_271_34 : xfetch 271 34 = some (.ior, 1) := by decide +kernel
theorem n_271_34 : ∀ l, xpr 271 34 l = l := xpr_no (by decide +kernel)
theorem r_271_35 : xfetch 271 35 = some (.istore 4, 2) := by decide +kernel
theorem n_271_35 : ∀ l, xpr 271 35 l = l := xpr_no (by decide +kernel)
theorem r_271_37 : xfetch 271 37 = some (.iinc 5 1, 3) := by decide +kernel
theorem n_271_37 : ∀ l, xpr 271 37 l = l := xpr_no (by decide +kernel)
theorem r_271_40 : xfetch 271 40 = some (.goto (-23), 3) := by decide +kernel
theorem n_271_40 : ∀ l, xpr 271 40 l = l := xpr_no (by decide +kernel)
theorem r_271_43 : xfetch 271 43 = some (.iload_n 2, 1) := by decide +kernel
theorem n_271_43 : ∀ l, xpr 271 43 l = l := xpr_no (by decide +kernel)
theorem r_271_44 : xfetch 271 44 = some (.iload 4, 2) := by decide +kernel
theorem n_271_44 : ∀ l, xpr 271 44 l = l := xpr_no (by decide +kernel)
theorem r_271_46 : xfetch 271 46 = some (.iadd, 1) := by decide +kernel
theorem n_271_46 : ∀ l, xpr 271 46 l = l := xpr_no (by decide +kernel)
theorem r_271_47 : xfetch 271 47 = some (.istore_n 2, 1) := by decide +kernel
theorem n_271_47 : ∀ l, xpr 271 47 l = l := xpr_no (by decide +kernel)
theorem r_271_48 : xfetch 271 48 = some (.iload_n 3, 1) := by decide +kernel
theorem n_271_48 : ∀ l, xpr 271 48 l = l := xpr_no (by decide +kernel)
theorem r_271_49 : xfetch 271 49 = some (.iload_n 1, 1) := by decide +kernel
theorem n_271_49 : ∀ l, xpr 271 49 l = l := xpr_no (by decide +kernel)
theorem r_271_50 : xfetch 271 50 = some (.iadd, 1) := by decide +kernel
theorem n_271_50 : ∀ l, xpr 271 50 l = l := xpr_no (by decide +kernel)
theorem r_271_51 : xfetch 271 51 = some (.istore_n 3, 1) := by decide +kernel
theorem n_271_51 : ∀ l, xpr 271 51 l = l := xpr_no (by decide +kernel)
theorem r_271_52 : xfetch 271 52 = some (.goto (-48), 3) := by decide +kernel
theorem n_271_52 : ∀ l, xpr 271 52 l = l := xpr_no (by decide +kernel)
theorem r_271_55 : xfetch 271 55 = some (.iload_n 2, 1) := by decide +kernel
theorem n_271_55 : ∀ l, xpr 271 55 l = l := xpr_no (by decide +kernel)
theorem r_271_56 : xfetch 271 56 = some (.ireturn, 1) := by decide +kernel
theorem n_271_56 : ∀ l, xpr 271 56 l = l := xpr_no (by decide +kernel)
theorem v_Model_marked_0 {S : Option (Nat × (Nat → Int32))} {s : zSt} {Q : Option Value ⊕ Nat → zSt → Prop} {x1 : Int} 
    (h : wp S 271 4 [(0, rf 252), (1, iv x1), (2, iv 0), (3, iv 0)] [] s Q) :
    wp S 271 0 [(0, rf 252), (1, iv x1)] [] s Q := by
  refine i_iconst r_271_0 (n_271_0 _) ?_
  refine i_istore_n (l' := [(0, rf 252), (1, iv x1), (2, iv 0)]) r_271_1 (n_271_1 _) (by decide) rfl ?_
  refine i_iconst r_271_2 (n_271_2 _) ?_
  refine i_istore_n (l' := [(0, rf 252), (1, iv x1), (2, iv 0), (3, iv 0)]) r_271_3 (n_271_3 _) (by decide) rfl ?_
  exact wp_pr (l' := [(0, rf 252), (1, iv x1), (2, iv 0), (3, iv 0)]) rfl h
theorem v_Model_marked_4 {S : Option (Nat × (Nat → Int32))} {s : zSt} {Q : Option Value ⊕ Nat → zSt → Prop} {x1 : Int} {x2 : Int} {x3 : Int} 
    (h : rng x3 ∧ ((8192 ≤ x3 → Q (rI x2) s) ∧ (x3 < 8192 → wp S 271 17 [(0, rf 252), (1, iv x1), (2, iv x2), (3, iv x3), (4, iv 0), (5, iv 0)] [] s Q))) :
    wp S 271 4 [(0, rf 252), (1, iv x1), (2, iv x2), (3, iv x3)] [] s Q := by
  refine i_iload_n (x := x3) r_271_4 rfl rfl ?_
  refine i_sipush r_271_5 (n_271_5 _) rfl ?_
  obtain ⟨g1, h⟩ := h
  refine i_icmp (t := 55) r_271_8 (n_271_8 _) rfl (T_ge g1 ⟨by omega, by omega⟩) (fun c2 => ?_) (fun c2 => ?_)
  · replace h := h.1 c2
    refine i_iload_n (x := x2) r_271_55 (n_271_55 _) rfl ?_
    exact i_ireturn r_271_56 (n_271_56 _) rfl h
  · replace h := h.2 c2
    refine i_iconst r_271_11 (n_271_11 _) ?_
    refine i_istore (l' := [(0, rf 252), (1, iv x1), (2, iv x2), (3, iv x3), (4, iv 0)]) r_271_12 (n_271_12 _) (by decide) rfl ?_
    refine i_iconst r_271_14 (n_271_14 _) ?_
    refine i_istore (l' := [(0, rf 252), (1, iv x1), (2, iv x2), (3, iv x3), (4, iv 0), (5, iv 0)]) r_271_15 (n_271_15 _) (by decide) rfl ?_
    exact wp_pr (l' := [(0, rf 252), (1, iv x1), (2, iv x2), (3, iv x3), (4, iv 0), (5, iv 0)]) rfl h
theorem v_Model_marked_17 {S : Option (Nat × (Nat → Int32))} {s : zSt} {Q : Option Value ⊕ Nat → zSt → Prop} {x1 : Int} {x2 : Int} {x3 : Int} {x4 : Int} {x5 : Int} 
    (h : rng x5 ∧ (rng x1 ∧ ((x1 ≤ x5 → wp S 271 4 [(0, rf 252), (1, iv x1), (2, iv (x2 + x4)), (3, iv (x3 + x1))] [] s Q) ∧ (x5 < x1 → (0 ≤ (x3 + x5) ∧ (x3 + x5) < 8192) ∧ (wp S 271 17 [(0, rf 252), (1, iv x1), (2, iv x2), (3, iv x3), (4, iv (zor x4 (zI s 274 (x3 + x5)))), (5, iv (x5 + 1))] [] s Q))))) :
    wp S 271 17 [(0, rf 252), (1, iv x1), (2, iv x2), (3, iv x3), (4, iv x4), (5, iv x5)] [] s Q := by
  refine i_iload (x := x5) r_271_17 rfl rfl ?_
  refine i_iload_n (x := x1) r_271_19 (n_271_19 _) rfl ?_
  obtain ⟨g1, h⟩ := h
  obtain ⟨g2, h⟩ := h
  refine i_icmp (t := 43) r_271_20 (n_271_20 _) rfl (T_ge g1 g2) (fun c3 => ?_) (fun c3 => ?_)
  · replace h := h.1 c3
    refine i_iload_n (x := x2) r_271_43 (n_271_43 _) rfl ?_
    refine i_iload (x := x4) r_271_44 (n_271_44 _) rfl ?_
    refine i_iadd r_271_46 (n_271_46 _) ?_
    refine i_istore_n (l' := [(0, rf 252), (1, iv x1), (2, iv (x2 + x4)), (3, iv x3), (4, iv x4), (5, iv x5)]) r_271_47 (n_271_47 _) (by decide) rfl ?_
    refine i_iload_n (x := x3) r_271_48 (n_271_48 _) rfl ?_
    refine i_iload_n (x := x1) r_271_49 (n_271_49 _) rfl ?_
    refine i_iadd r_271_50 (n_271_50 _) ?_
    refine i_istore_n (l' := [(0, rf 252), (1, iv x1), (2, iv (x2 + x4)), (3, iv (x3 + x1)), (4, iv x4), (5, iv x5)]) r_271_51 (n_271_51 _) (by decide) rfl ?_
    refine i_goto (t := 4) r_271_52 (n_271_52 _) rfl ?_
    exact wp_pr (l' := [(0, rf 252), (1, iv x1), (2, iv (x2 + x4)), (3, iv (x3 + x1))]) rfl h
  · replace h := h.2 c3
    refine i_iload (x := x4) r_271_23 (n_271_23 _) rfl ?_
    refine i_aload_n (a := 252) r_271_25 (n_271_25 _) rfl ?_
    refine i_getR (a := 252) (b := 274) r_271_26 (n_271_26 _) rfl rfl rfl (by omega) lf_252 (by omega) ?_
    refine i_iload_n (x := x3) r_271_29 (n_271_29 _) rfl ?_
    refine i_iload (x := x5) r_271_30 (n_271_30 _) rfl ?_
    refine i_iadd r_271_32 (n_271_32 _) ?_
    obtain ⟨g4, h⟩ := h
    refine i_iaload (a := 274) (j := x3 + x5) r_271_33 (n_271_33 _) lf_274 ⟨by omega, by omega⟩ (by omega) (by omega) (fun q5 => ?_)
    refine i_ior r_271_34 (n_271_34 _) ?_
    refine i_istore (l' := [(0, rf 252), (1, iv x1), (2, iv x2), (3, iv x3), (4, iv (zor x4 (zI s 274 (x3 + x5)))), (5, iv x5)]) r_271_35 (n_271_35 _) (by decide) rfl ?_
    refine i_iinc (x := x5) (l' := [(0, rf 252), (1, iv x1), (2, iv x2), (3, iv x3), (4, iv (zor x4 (zI s 274 (x3 + x5)))), (5, iv (x5 + 1))]) r_271_37 (n_271_37 _) (by decide) rfl rfl ?_
    refine i_goto (t := 17) r_271_40 (n_271_40 _) rfl ?_
    exact wp_pr (l' := [(0, rf 252), (1, iv x1), (2, iv x2), (3, iv x3), (4, iv (zor x4 (zI s 274 (x3 + x5)))), (5, iv (x5 + 1))]) rfl h
theorem r_272_0 : xfetch 272 0 = some (.aload_n 0, 1) := by decide +kernel
theorem n_272_0 : ∀ l, xpr 272 0 l = l := xpr_no (by decide +kernel)
theorem r_272_1 : xfetch 272 1 = some (.iload_n 1, 1) := by decide +kernel
theorem n_272_1 : ∀ l, xpr 272 1 l = l := xpr_no (by decide +kernel)
theorem r_272_2 : xfetch 272 2 = some (.invokevirtual 225, 3) := by decide +kernel
theorem n_272_2 : ∀ l, xpr 272 2 l = l := xpr_no (by decide +kernel)
theorem r_272_5 : xfetch 272 5 = some (.ifCond .eq 27, 3) := by decide +kernel
theorem n_272_5 : ∀ l, xpr 272 5 l = l := xpr_no (by decide +kernel)
theorem r_272_8 : xfetch 272 8 = some (.aload_n 0, 1) := by decide +kernel
theorem n_272_8 : ∀ l, xpr 272 8 l = l := xpr_no (by decide +kernel)
theorem r_272_9 : xfetch 272 9 = some (.iload_n 1, 1) := by decide +kernel
theorem n_272_9 : ∀ l, xpr 272 9 l = l := xpr_no (by decide +kernel)
theorem r_272_10 : xfetch 272 10 = some (.iload 4, 2) := by decide +kernel
theorem n_272_10 : ∀ l, xpr 272 10 l = l := xpr_no (by decide +kernel)
theorem r_272_12 : xfetch 272 12 = some (.invokevirtual 257, 3) := by decide +kernel
theorem n_272_12 : ∀ l, xpr 272 12 l = l := xpr_no (by decide +kernel)
theorem r_272_15 : xfetch 272 15 = some (.ifCond .eq 17, 3) := by decide +kernel
theorem n_272_15 : ∀ l, xpr 272 15 l = l := xpr_no (by decide +kernel)
theorem r_272_18 : xfetch 272 18 = some (.aload_n 0, 1) := by decide +kernel
theorem n_272_18 : ∀ l, xpr 272 18 l = l := xpr_no (by decide +kernel)
theorem r_272_19 : xfetch 272 19 = some (.iload_n 1, 1) := by decide +kernel
theorem n_272_19 : ∀ l, xpr 272 19 l = l := xpr_no (by decide +kernel)
theorem r_272_20 : xfetch 272 20 = some (.iload 5, 2) := by decide +kernel
theorem n_272_20 : ∀ l, xpr 272 20 l = l := xpr_no (by decide +kernel)
theorem r_272_22 : xfetch 272 22 = some (.invokevirtual 257, 3) := by decide +kernel
theorem n_272_22 : ∀ l, xpr 272 22 l = l := xpr_no (by decide +kernel)
theorem r_272_25 : xfetch 272 25 = some (.ifCond .eq 7, 3) := by decide +kernel
theorem n_272_25 : ∀ l, xpr 272 25 l = l := xpr_no (by decide +kernel)
theorem r_272_28 : xfetch 272 28 = some (.iconst 1, 1) := by decide +kernel
theorem n_272_28 : ∀ l, xpr 272 28 l = l := xpr_no (by decide +kernel)
theorem r_272_29 : xfetch 272 29 = some (.goto 4, 3) := by decide +kernel
theorem n_272_29 : ∀ l, xpr 272 29 l = l := xpr_no (by decide +kernel)
theorem r_272_32 : xfetch 272 32 = some (.iconst 0, 1) := by decide +kernel
theorem n_272_32 : ∀ l, xpr 272 32 l = l := xpr_no (by decide +kernel)
theorem r_272_33 : xfetch 272 33 = some (.istore 6, 2) := by decide +kernel
theorem r_272_35 : xfetch 272 35 = some (.aload_n 0, 1) := by decide +kernel
theorem n_272_35 : ∀ l, xpr 272 35 l = l := xpr_no (by decide +kernel)
theorem r_272_36 : xfetch 272 36 = some (.iload 6, 2) := by decide +kernel
theorem n_272_36 : ∀ l, xpr 272 36 l = l := xpr_no (by decide +kernel)
theorem r_272_38 : xfetch 272 38 = some (.ifCond .ne 7, 3) := by decide +kernel
theorem n_272_38 : ∀ l, xpr 272 38 l = l := xpr_no (by decide +kernel)
theorem r_272_41 : xfetch 272 41 = some (.iconst 1, 1) := by decide +kernel
theorem n_272_41 : ∀ l, xpr 272 41 l = l := xpr_no (by decide +kernel)
theorem r_272_42 : xfetch 272 42 = some (.goto 15, 3) := by decide +kernel
theorem n_272_42 : ∀ l, xpr 272 42 l = l := xpr_no (by decide +kernel)
theorem r_272_45 : xfetch 272 45 = some (.iload 4, 2) := by decide +kernel
theorem n_272_45 : ∀ l, xpr 272 45 l = l := xpr_no (by decide +kernel)
theorem r_272_47 : xfetch 272 47 = some (.iload 5, 2) := by decide +kernel
theorem n_272_47 : ∀ l, xpr 272 47 l = l := xpr_no (by decide +kernel)
theorem r_272_49 : xfetch 272 49 = some (.if_icmp .le 7, 3) := by decide +kernel
theorem n_272_49 : ∀ l, xpr 272 49 l = l := xpr_no (by decide +kernel)
theorem r_272_52 : xfetch 272 52 = some (.iconst 2, 1) := by decide +kernel
theorem n_272_52 : ∀ l, xpr 272 52 l = l := xpr_no (by decide +kernel)
theorem r_272_53 : xfetch 272 53 = some (.goto 4, 3) := by decide +kernel
theorem n_272_53 : ∀ l, xpr 272 53 l = l := xpr_no (by decide +kernel)
theorem r_272_56 : xfetch 272 56 = some (.iconst 0, 1) := by decide +kernel
theorem n_272_56 : ∀ l, xpr 272 56 l = l := xpr_no (by decide +kernel)
theorem r_272_57 : xfetch 272 57 = some (.invokevirtual 84, 3) := by decide +kernel
theorem n_272_57 : ∀ l, xpr 272 57 l = l := xpr_no (by decide +kernel)
theorem r_272_60 : xfetch 272 60 = some (.ifCond .eq 5, 3) := by decide +kernel
theorem n_272_60 : ∀ l, xpr 272 60 l = l := xpr_no (by decide +kernel)
theorem r_272_63 : xfetch 272 63 = some (.iconst 0, 1) := by decide +kernel
theorem n_272_63 : ∀ l, xpr 272 63 l = l := xpr_no (by decide +kernel)
theorem r_272_64 : xfetch 272 64 = some (.ireturn, 1) := by decide +kernel
theorem n_272_64 : ∀ l, xpr 272 64 l = l := xpr_no (by decide +kernel)
theorem r_272_65 : xfetch 272 65 = some (.aload_n 0, 1) := by decide +kernel
theorem n_272_65 : ∀ l, xpr 272 65 l = l := xpr_no (by decide +kernel)
theorem r_272_66 : xfetch 272 66 = some (.invokevirtual 152, 3) := by decide +kernel
theorem n_272_66 : ∀ l, xpr 272 66 l = l := xpr_no (by decide +kernel)
theorem r_272_69 : xfetch 272 69 = some (.aload_n 0, 1) := by decide +kernel
theorem n_272_69 : ∀ l, xpr 272 69 l = l := xpr_no (by decide +kernel)
theorem r_272_70 : xfetch 272 70 = some (.aload_n 0, 1) := by decide +kernel
theorem n_272_70 : ∀ l, xpr 272 70 l = l := xpr_no (by decide +kernel)
theorem r_272_71 : xfetch 272 71 = some (.iload_n 1, 1) := by decide +kernel
theorem n_272_71 : ∀ l, xpr 272 71 l = l := xpr_no (by decide +kernel)
theorem r_272_72 : xfetch 272 72 = some (.iconst 0, 1) := by decide +kernel
theorem n_272_72 : ∀ l, xpr 272 72 l = l := xpr_no (by decide +kernel)
theorem r_272_73 : xfetch 272 73 = some (.invokevirtual 228, 3) := by decide +kernel
theorem n_272_73 : ∀ l, xpr 272 73 l = l := xpr_no (by decide +kernel)
theorem r_272_76 : xfetch 272 76 = some (.aload_n 0, 1) := by decide +kernel
theorem n_272_76 : ∀ l, xpr 272 76 l = l := xpr_no (by decide +kernel)
theorem r_272_77 : xfetch 272 77 = some (.iload_n 1, 1) := by decide +kernel
theorem n_272_77 : ∀ l, xpr 272 77 l = l := xpr_no (by decide +kernel)
theorem r_272_78 : xfetch 272 78 = some (.iconst 1, 1) := by decide +kernel
theorem n_272_78 : ∀ l, xpr 272 78 l = l := xpr_no (by decide +kernel)
theorem r_272_79 : xfetch 272 79 = some (.invokevirtual 228, 3) := by decide +kernel
theorem n_272_79 : ∀ l, xpr 272 79 l = l := xpr_no (by decide +kernel)
theorem r_272_82 : xfetch 272 82 = some (.aload_n 0, 1) := by decide +kernel
theorem n_272_82 : ∀ l, xpr 272 82 l = l := xpr_no (by decide +kernel)
theorem r_272_83 : xfetch 272 83 = some (.iload_n 1, 1) := by decide +kernel
theorem n_272_83 : ∀ l, xpr 272 83 l = l := xpr_no (by decide +kernel)
theorem r_272_84 : xfetch 272 84 = some (.iconst 2, 1) := by decide +kernel
theorem n_272_84 : ∀ l, xpr 272 84 l = l := xpr_no (by decide +kernel)
theorem r_272_85 : xfetch 272 85 = some (.invokevirtual 228, 3) := by decide +kernel
theorem n_272_85 : ∀ l, xpr 272 85 l = l := xpr_no (by decide +kernel)
theorem r_272_88 : xfetch 272 88 = some (.aload_n 0, 1) := by decide +kernel
theorem n_272_88 : ∀ l, xpr 272 88 l = l := xpr_no (by decide +kernel)
theorem r_272_89 : xfetch 272 89 = some (.iload_n 1, 1) := by decide +kernel
theorem n_272_89 : ∀ l, xpr 272 89 l = l := xpr_no (by decide +kernel)
theorem r_272_90 : xfetch 272 90 = some (.iconst 4, 1) := by decide +kernel
theorem n_272_90 : ∀ l, xpr 272 90 l = l := xpr_no (by decide +kernel)
theorem r_272_91 : xfetch 272 91 = some (.invokevirtual 228, 3) := by decide +kernel
theorem n_272_91 : ∀ l, xpr 272 91 l = l := xpr_no (by decide +kernel)
theorem r_272_94 : xfetch 272 94 = some (.lload_n 2, 1) := by decide +kernel
theorem n_272_94 : ∀ l, xpr 272 94 l = l := xpr_no (by decide +kernel)
theorem r_272_95 : xfetch 272 95 = some (.iload 4, 2) := by decide +kernel
theorem n_272_95 : ∀ l, xpr 272 95 l = l := xpr_no (by decide +kernel)
theorem r_272_97 : xfetch 272 97 = some (.iload 5, 2) := by decide +kernel
theorem n_272_97 : ∀ l, xpr 272 97 l = l := xpr_no (by decide +kernel)
theorem r_272_99 : xfetch 272 99 = some (.invokevirtual 293, 3) := by decide +kernel
theorem n_272_99 : ∀ l, xpr 272 99 l = l := xpr_no (by decide +kernel)
theorem r_272_102 : xfetch 272 102 = some (.istore 7, 2) := by decide +kernel
theorem n_272_102 : ∀ l, xpr 272 102 l = l := xpr_no (by decide +kernel)
theorem r_272_104 : xfetch 272 104 = some (.iconst 0, 1) := by decide +kernel
theorem n_272_104 : ∀ l, xpr 272 104 l = l := xpr_no (by decide +kernel)
theorem r_272_105 : xfetch 272 105 = some (.istore 8, 2) := by decide +kernel
theorem n_272_105 : ∀ l, xpr 272 105 l = l := xpr_no (by decide +kernel)
theorem r_272_107 : xfetch 272 107 = some (.iconst 0, 1) := by decide +kernel
theorem n_272_107 : ∀ l, xpr 272 107 l = l := xpr_no (by decide +kernel)
theorem r_272_108 : xfetch 272 108 = some (.istore 9, 2) := by decide +kernel
theorem n_272_108 : ∀ l, xpr 272 108 l = l := xpr_no (by decide +kernel)
theorem r_272_110 : xfetch 272 110 = some (.iload 9, 2) := by decide +kernel
theorem r_272_112 : xfetch 272 112 = some (.iload 7, 2) := by decide +kernel
theorem n_272_112 : ∀ l, xpr 272 112 l = l := xpr_no (by decide +kernel)
theorem r_272_114 : xfetch 272 114 = some (.if_icmp .ge 47, 3) := by decide +kernel
theorem n_272_114 : ∀ l, xpr 272 114 l = l := xpr_no (by decide +kernel)
theorem r_272_117 : xfetch 272 117 = some (.iload 8, 2) := by decide +kernel
theorem n_272_117 : ∀ l, xpr 272 117 l = l := xpr_no (by decide +kernel)
theorem r_272_119 : xfetch 272 119 = some (.aload_n 0, 1) := by decide +kernel
theorem n_272_119 : ∀ l, xpr 272 119 l = l := xpr_no (by decide +kernel)
theorem r_272_120 : xfetch 272 120 = some (.getfield 74, 3) := by decide +kernel
theorem n_272_120 : ∀ l, xpr 272 120 l = l := xpr_no (by decide +kernel)
theorem r_272_123 : xfetch 272 123 = some (.iload 9, 2) := by decide +kernel
theorem n_272_123 : ∀ l, xpr 272 123 l = l := xpr_no (by decide +kernel)
theorem r_272_125 : xfetch 272 125 = some (.iaload, 1) := by decide +kernel
theorem n_272_125 : ∀ l, xpr 272 125 l = l := xpr_no (by decide +kernel)
theorem r_272_126 : xfetch 272 126 = some (.iconst 1, 1) := by decide +kernel
theorem n_272_126 : ∀ l, xpr 272 126 l = l := xpr_no (by decide +kernel)
theorem r_272_127 : xfetch 272 127 = some (.if_icmp .ne 24, 3) := by decide +kernel
theorem n_272_127 : ∀ l, xpr 272 127 l = l := xpr_no (by decide +kernel)
theorem r_272_130 : xfetch 272 130 = some (.iload 9, 2) := by decide +kernel
theorem n_272_130 : ∀ l, xpr 272 130 l = l := xpr_no (by decide +kernel)
theorem r_272_132 : xfetch 272 132 = some (.ifCond .eq 15, 3) := by decide +kernel
theorem n_272_132 : ∀ l, xpr 272 132 l = l := xpr_no (by decide +kernel)
theorem r_272_135 : xfetch 272 135 = some (.aload_n 0, 1) := by decide +kernel
theorem n_272_135 : ∀ l, xpr 272 135 l = l := xpr_no (by decide +kernel)
theorem r_272_136 : xfetch 272 136 = some (.getfield 74, 3) := by decide +kernel
theorem n_272_136 : ∀ l, xpr 272 136 l = l := xpr_no (by decide +kernel)
theorem r_272_139 : xfetch 272 139 = some (.iload 9, 2) := by decide +kernel
theorem n_272_139 : ∀ l, xpr 272 139 l = l := xpr_no (by decide +kernel)
theorem r_272_141 : xfetch 272 141 = some (.iconst 1, 1) := by decide +kernel
theorem n_272_141 : ∀ l, xpr 272 141 l = l := xpr_no (by decide +kernel)
theorem r_272_142 : xfetch 272 142 = some (.isub, 1) := by decide +kernel
theorem n_272_142 : ∀ l, xpr 272 142 l = l := xpr_no (by decide +kernel)
theorem r_272_143 : xfetch 272 143 = some (.iaload, 1) := by decide +kernel
theorem n_272_143 : ∀ l, xpr 272 143 l = l := xpr_no (by decide +kernel)
theorem r_272_144 : xfetch 272 144 = some (.ifCond .ne 7, 3) := by decide +kernel
theorem n_272_144 : ∀ l, xpr 272 144 l = l := xpr_no (by decide +kernel)
theorem r_272_147 : xfetch 272 147 = some (.iconst 1, 1) := by decide +kernel
theorem n_272_147 : ∀ l, xpr 272 147 l = l := xpr_no (by decide +kernel)
theorem r_272_148 : xfetch 272 148 = some (.goto 4, 3) := by decide +kernel
theorem n_272_148 : ∀ l, xpr 272 148 l = l := xpr_no (by decide +kernel)
theorem r_272_151 : xfetch 272 151 = some (.iconst 0, 1) := by decide +kernel
theorem n_272_151 : ∀ l, xpr 272 151 l = l := xpr_no (by decide +kernel)
theorem r_272_152 : xfetch 272 152 = some (.iadd, 1) := by decide +kernel
theorem n_272_152 : ∀ l, xpr 272 152 l = l := xpr_no (by decide +kernel)
theorem r_272_153 : xfetch 272 153 = some (.istore 8, 2) := by decide +kernel
theorem n_272_153 : ∀ l, xpr 272 153 l = l := xpr_no (by decide +kernel)
theorem r_272_155 : xfetch 272 155 = some (.iinc 9 1, 3) := by decide +kernel
theorem n_272_155 : ∀ l, xpr 272 155 l = l := xpr_no (by decide +kernel)
theorem r_272_158 : xfetch 272 158 = some (.goto (-48), 3) := by decide +kernel
theorem n_272_158 : ∀ l, xpr 272 158 l = l := xpr_no (by decide +kernel)
theorem r_272_161 : xfetch 272 161 = some (.iload 8, 2) := by decide +kernel
theorem n_272_161 : ∀ l, xpr 272 161 l = l := xpr_no (by decide +kernel)
theorem r_272_163 : xfetch 272 163 = some (.ireturn, 1) := by decide +kernel
theorem n_272_163 : ∀ l, xpr 272 163 l = l := xpr_no (by decide +kernel)
theorem v_Model_runs_0 {S : Option (Nat × (Nat → Int32))} {s : zSt} {Q : Option Value ⊕ Nat → zSt → Prop} {x1 : Int} {u2 : Int64} {x4 : Int} {x5 : Int} 
    (h : rng x1 ∧ ((¬ (0 ≤ x1 ∧ x1 ≤ 2 ∧ zI s 253 (157 + 6 * x1) ≠ -1) → wp S 272 33 [(0, rf 252), (1, iv x1), (2, .long u2), (4, iv x4), (5, iv x5)] [iv 0] s Q) ∧ (0 ≤ x1 ∧ x1 ≤ 2 ∧ zI s 253 (157 + 6 * x1) ≠ -1 → (0 ≤ ((157 + (6 * x1)) + 1) ∧ ((157 + (6 * x1)) + 1) < 1199) ∧ (rng x4 ∧ (rng ((zI s 253 ((157 + (6 * x1)) + 1)) - 1) ∧ ((¬ (0 ≤ x4 ∧ x4 ≤ ((zI s 253 ((157 + (6 * x1)) + 1)) - 1)) → wp S 272 33 [(0, rf 252), (1, iv x1), (2, .long u2), (4, iv x4), (5, iv x5)] [iv 0] s Q) ∧ (0 ≤ x4 ∧ x4 ≤ ((zI s 253 ((157 + (6 * x1)) + 1)) - 1) → rng x5 ∧ ((¬ (0 ≤ x5 ∧ x5 ≤ ((zI s 253 ((157 + (6 * x1)) + 1)) - 1)) → wp S 272 33 [(0, rf 252), (1, iv x1), (2, .long u2), (4, iv x4), (5, iv x5)] [iv 0] s Q) ∧ (0 ≤ x5 ∧ x5 ≤ ((zI s 253 ((157 + (6 * x1)) + 1)) - 1) → wp S 272 33 [(0, rf 252), (1, iv x1), (2, .long u2), (4, iv x4), (5, iv x5)] [iv 1] s Q))))))))) :
    wp S 272 0 [(0, rf 252), (1, iv x1), (2, .long u2), (4, iv x4), (5, iv x5)] [] s Q := by
  refine i_aload_n (a := 252) r_272_0 (n_272_0 _) rfl ?_
  refine i_iload_n (x := x1) r_272_1 (n_272_1 _) rfl ?_
  obtain ⟨g1, h⟩ := h
  refine wp_virt (b := 252) (rest := []) (Ls := [(0, rf 252), (1, iv x1)]) r_272_2 (n_272_2 _) rfl ⟨rfl, rfl, by decide, by decide⟩ rfl rfl lf_252 ⟨rfl, Nat.le_of_ble_eq_true rfl, Nat.le_of_ble_eq_true rfl⟩ rfl (K_Model_isTable g1) ?_
  rintro _ _ ⟨rfl, rfl⟩
  refine .inl ⟨some (iv (bi (0 ≤ x1 ∧ x1 ≤ 2 ∧ zI s 253 (157 + 6 * x1) ≠ -1))), rfl, ?_⟩
  show wp S 272 5 [(0, rf 252), (1, iv x1), (2, .long u2), (4, iv x4), (5, iv x5)] [iv (bi (0 ≤ x1 ∧ x1 ≤ 2 ∧ zI s 253 (157 + 6 * x1) ≠ -1))] s Q
  refine i_if (t := 32) r_272_5 (n_272_5 _) rfl (TB_eq) (fun c3 => ?_) (fun c3 => ?_)
  · replace h := h.1 c3
    refine i_iconst r_272_32 (n_272_32 _) ?_
    exact wp_pr (l' := [(0, rf 252), (1, iv x1), (2, .long u2), (4, iv x4), (5, iv x5)]) rfl h
  · replace h := h.2 c3
    refine i_aload_n (a := 252) r_272_8 (n_272_8 _) rfl ?_
    refine i_iload_n (x := x1) r_272_9 (n_272_9 _) rfl ?_
    refine i_iload (x := x4) r_272_10 (n_272_10 _) rfl ?_
    obtain ⟨g4, h⟩ := h
    obtain ⟨g5, h⟩ := h
    obtain ⟨g6, h⟩ := h
    refine wp_virt (b := 252) (rest := []) (Ls := [(0, rf 252), (1, iv x1), (2, iv x4)]) r_272_12 (n_272_12 _) rfl ⟨rfl, rfl, by decide, by decide⟩ rfl rfl lf_252 ⟨rfl, Nat.le_of_ble_eq_true rfl, Nat.le_of_ble_eq_true rfl⟩ rfl (K_Model_isRow g4 g5 g6) ?_
    rintro _ _ ⟨rfl, rfl⟩
    refine .inl ⟨some (iv (bi (0 ≤ x4 ∧ x4 ≤ ((zI s 253 ((157 + (6 * x1)) + 1)) - 1)))), rfl, ?_⟩
    show wp S 272 15 [(0, rf 252), (1, iv x1), (2, .long u2), (4, iv x4), (5, iv x5)] [iv (bi (0 ≤ x4 ∧ x4 ≤ ((zI s 253 ((157 + (6 * x1)) + 1)) - 1)))] s Q
    refine i_if (t := 32) r_272_15 (n_272_15 _) rfl (TB_eq) (fun c8 => ?_) (fun c8 => ?_)
    · replace h := h.1 c8
      refine i_iconst r_272_32 (n_272_32 _) ?_
      exact wp_pr (l' := [(0, rf 252), (1, iv x1), (2, .long u2), (4, iv x4), (5, iv x5)]) rfl h
    · replace h := h.2 c8
      refine i_aload_n (a := 252) r_272_18 (n_272_18 _) rfl ?_
      refine i_iload_n (x := x1) r_272_19 (n_272_19 _) rfl ?_
      refine i_iload (x := x5) r_272_20 (n_272_20 _) rfl ?_
      obtain ⟨g9, h⟩ := h
      refine wp_virt (b := 252) (rest := []) (Ls := [(0, rf 252), (1, iv x1), (2, iv x5)]) r_272_22 (n_272_22 _) rfl ⟨rfl, rfl, by decide, by decide⟩ rfl rfl lf_252 ⟨rfl, Nat.le_of_ble_eq_true rfl, Nat.le_of_ble_eq_true rfl⟩ rfl (K_Model_isRow g4 g9 g6) ?_
      rintro _ _ ⟨rfl, rfl⟩
      refine .inl ⟨some (iv (bi (0 ≤ x5 ∧ x5 ≤ ((zI s 253 ((157 + (6 * x1)) + 1)) - 1)))), rfl, ?_⟩
      show wp S 272 25 [(0, rf 252), (1, iv x1), (2, .long u2), (4, iv x4), (5, iv x5)] [iv (bi (0 ≤ x5 ∧ x5 ≤ ((zI s 253 ((157 + (6 * x1)) + 1)) - 1)))] s Q
      refine i_if (t := 32) r_272_25 (n_272_25 _) rfl (TB_eq) (fun c11 => ?_) (fun c11 => ?_)
      · replace h := h.1 c11
        refine i_iconst r_272_32 (n_272_32 _) ?_
        exact wp_pr (l' := [(0, rf 252), (1, iv x1), (2, .long u2), (4, iv x4), (5, iv x5)]) rfl h
      · replace h := h.2 c11
        refine i_iconst r_272_28 (n_272_28 _) ?_
        refine i_goto (t := 33) r_272_29 (n_272_29 _) rfl ?_
        exact wp_pr (l' := [(0, rf 252), (1, iv x1), (2, .long u2), (4, iv x4), (5, iv x5)]) rfl h
theorem v_Model_runs_33 {S : Option (Nat × (Nat → Int32))} {s : zSt} {Q : Option Value ⊕ Nat → zSt → Prop} {x1 : Int} {u2 : Int64} {x4 : Int} {x5 : Int} {x90 : Int} 
    (h : rng x90 ∧ ((x90 ≠ 0 → rng x4 ∧ (rng x5 ∧ ((x4 ≤ x5 → wp S 193 0 [(0, rf 252)] [] (zwI s 252 3 0) (fun o7 s7 => zkU ((0 ≤ ((157 + (6 * x1)) + 0) ∧ ((157 + (6 * x1)) + 0) < 1199) ∧ ((0 ≤ ((157 + (6 * x1)) + 1) ∧ ((157 + (6 * x1)) + 1) < 1199) ∧ ((0 ≤ ((157 + (6 * x1)) + 2) ∧ ((157 + (6 * x1)) + 2) < 1199) ∧ ((0 ≤ ((157 + (6 * x1)) + 4) ∧ ((157 + (6 * x1)) + 4) < 1199) ∧ (wp S 270 0 [(0, rf 252), (1, iv (zI s7 253 ((157 + (6 * x1)) + 0))), (2, iv (zI s7 253 ((157 + (6 * x1)) + 1))), (3, iv (zI s7 253 ((157 + (6 * x1)) + 2))), (4, iv (zI s7 253 ((157 + (6 * x1)) + 4))), (5, .long u2), (7, iv x4), (8, iv x5)] [] s7 (fun o21 s21 => zkI (fun y21 => wp S 272 110 [(0, rf 252), (7, iv y21), (8, iv 0), (9, iv 0)] [] s21 Q) (fun e21 => False) o21)))))) (fun e7 => False) o7)) ∧ (x5 < x4 → Q (rI 0) (zwI s 252 3 2))))) ∧ (x90 = 0 → Q (rI 0) (zwI s 252 3 1)))) :
    wp S 272 33 [(0, rf 252), (1, iv x1), (2, .long u2), (4, iv x4), (5, iv x5)] [iv x90] s Q := by
  refine i_istore (l' := [(0, rf 252), (1, iv x1), (2, .long u2), (4, iv x4), (5, iv x5), (6, iv x90)]) r_272_33 rfl (by decide) rfl ?_
  refine i_aload_n (a := 252) r_272_35 (n_272_35 _) rfl ?_
  refine i_iload (x := x90) r_272_36 (n_272_36 _) rfl ?_
  obtain ⟨g1, h⟩ := h
  refine i_if (t := 45) r_272_38 (n_272_38 _) rfl (T_ne g1 ⟨by omega, by omega⟩) (fun c2 => ?_) (fun c2 => ?_)
  · replace h := h.1 c2
    refine i_iload (x := x4) r_272_45 (n_272_45 _) rfl ?_
    refine i_iload (x := x5) r_272_47 (n_272_47 _) rfl ?_
    obtain ⟨g3, h⟩ := h
    obtain ⟨g4, h⟩ := h
    refine i_icmp (t := 56) r_272_49 (n_272_49 _) rfl (T_le g3 g4) (fun c5 => ?_) (fun c5 => ?_)
    · replace h := h.1 c5
      refine i_iconst r_272_56 (n_272_56 _) ?_
      refine wp_virt (b := 252) (rest := []) (Ls := [(0, rf 252), (1, iv 0)]) r_272_57 (n_272_57 _) rfl ⟨rfl, rfl, by decide, by decide⟩ rfl rfl lf_252 ⟨rfl, Nat.le_of_ble_eq_true rfl, Nat.le_of_ble_eq_true rfl⟩ rfl K_Model_refused0 ?_
      rintro _ _ ⟨rfl, rfl⟩
      refine .inl ⟨some (iv 0), rfl, ?_⟩
      show wp S 272 60 [(0, rf 252), (1, iv x1), (2, .long u2), (4, iv x4), (5, iv x5), (6, iv x90)] [iv 0] (zwI s 252 3 0) Q
      refine i_if (t := 65) r_272_60 (n_272_60 _) rfl (T_eq ⟨by omega, by omega⟩ ⟨by omega, by omega⟩) (fun _ => ?_) (fun z => absurd z (by omega))
      refine i_aload_n (a := 252) r_272_65 (n_272_65 _) rfl ?_
      refine wp_virt (b := 252) (rest := []) (Ls := [(0, rf 252)]) r_272_66 (n_272_66 _) rfl ⟨rfl, rfl, by decide, by decide⟩ rfl rfl lf_252 ⟨rfl, Nat.le_of_ble_eq_true rfl, Nat.le_of_ble_eq_true rfl⟩ rfl h ?_
      intro o7 s7 h
      rcases h with ⟨rfl, h⟩ | ⟨e7, rfl, h⟩
      · refine .inl ⟨none, rfl, ?_⟩
        refine i_aload_n (a := 252) r_272_69 (n_272_69 _) rfl ?_
        refine i_aload_n (a := 252) r_272_70 (n_272_70 _) rfl ?_
        refine i_iload_n (x := x1) r_272_71 (n_272_71 _) rfl ?_
        refine i_iconst r_272_72 (n_272_72 _) ?_
        obtain ⟨g9, h⟩ := h
        refine wp_virt (b := 252) (rest := [rf 252]) (Ls := [(0, rf 252), (1, iv x1), (2, iv 0)]) r_272_73 (n_272_73 _) rfl ⟨rfl, rfl, by decide, by decide⟩ rfl rfl lf_252 ⟨rfl, Nat.le_of_ble_eq_true rfl, Nat.le_of_ble_eq_true rfl⟩ rfl (K_Model_of g9) ?_
        rintro _ _ ⟨rfl, rfl⟩
        refine .inl ⟨some (iv (zI s7 253 ((157 + (6 * x1)) + 0))), rfl, ?_⟩
        show wp S 272 76 [(0, rf 252), (1, iv x1), (2, .long u2), (4, iv x4), (5, iv x5), (6, iv x90)] [iv (zI s7 253 ((157 + (6 * x1)) + 0)), rf 252] s7 Q
        refine wp_rd (a := 253) (j := ((157 + (6 * x1)) + 0)) (fun q11 => ?_)
        refine i_aload_n (a := 252) r_272_76 (n_272_76 _) rfl ?_
        refine i_iload_n (x := x1) r_272_77 (n_272_77 _) rfl ?_
        refine i_iconst r_272_78 (n_272_78 _) ?_
        obtain ⟨g12, h⟩ := h
        refine wp_virt (b := 252) (rest := [iv (zI s7 253 ((157 + (6 * x1)) + 0)), rf 252]) (Ls := [(0, rf 252), (1, iv x1), (2, iv 1)]) r_272_79 (n_272_79 _) rfl ⟨rfl, rfl, by decide, by decide⟩ rfl rfl lf_252 ⟨rfl, Nat.le_of_ble_eq_true rfl, Nat.le_of_ble_eq_true rfl⟩ rfl (K_Model_of g12) ?_
        rintro _ _ ⟨rfl, rfl⟩
        refine .inl ⟨some (iv (zI s7 253 ((157 + (6 * x1)) + 1))), rfl, ?_⟩
        show wp S 272 82 [(0, rf 252), (1, iv x1), (2, .long u2), (4, iv x4), (5, iv x5), (6, iv x90)] [iv (zI s7 253 ((157 + (6 * x1)) + 1)), iv (zI s7 253 ((157 + (6 * x1)) + 0)), rf 252] s7 Q
        refine wp_rd (a := 253) (j := ((157 + (6 * x1)) + 1)) (fun q14 => ?_)
        refine i_aload_n (a := 252) r_272_82 (n_272_82 _) rfl ?_
        refine i_iload_n (x := x1) r_272_83 (n_272_83 _) rfl ?_
        refine i_iconst r_272_84 (n_272_84 _) ?_
        obtain ⟨g15, h⟩ := h
        refine wp_virt (b := 252) (rest := [iv (zI s7 253 ((157 + (6 * x1)) + 1)), iv (zI s7 253 ((157 + (6 * x1)) + 0)), rf 252]) (Ls := [(0, rf 252), (1, iv x1), (2, iv 2)]) r_272_85 (n_272_85 _) rfl ⟨rfl, rfl, by decide, by decide⟩ rfl rfl lf_252 ⟨rfl, Nat.le_of_ble_eq_true rfl, Nat.le_of_ble_eq_true rfl⟩ rfl (K_Model_of g15) ?_
        rintro _ _ ⟨rfl, rfl⟩
        refine .inl ⟨some (iv (zI s7 253 ((157 + (6 * x1)) + 2))), rfl, ?_⟩
        show wp S 272 88 [(0, rf 252), (1, iv x1), (2, .long u2), (4, iv x4), (5, iv x5), (6, iv x90)] [iv (zI s7 253 ((157 + (6 * x1)) + 2)), iv (zI s7 253 ((157 + (6 * x1)) + 1)), iv (zI s7 253 ((157 + (6 * x1)) + 0)), rf 252] s7 Q
        refine wp_rd (a := 253) (j := ((157 + (6 * x1)) + 2)) (fun q17 => ?_)
        refine i_aload_n (a := 252) r_272_88 (n_272_88 _) rfl ?_
        refine i_iload_n (x := x1) r_272_89 (n_272_89 _) rfl ?_
        refine i_iconst r_272_90 (n_272_90 _) ?_
        obtain ⟨g18, h⟩ := h
        refine wp_virt (b := 252) (rest := [iv (zI s7 253 ((157 + (6 * x1)) + 2)), iv (zI s7 253 ((157 + (6 * x1)) + 1)), iv (zI s7 253 ((157 + (6 * x1)) + 0)), rf 252]) (Ls := [(0, rf 252), (1, iv x1), (2, iv 4)]) r_272_91 (n_272_91 _) rfl ⟨rfl, rfl, by decide, by decide⟩ rfl rfl lf_252 ⟨rfl, Nat.le_of_ble_eq_true rfl, Nat.le_of_ble_eq_true rfl⟩ rfl (K_Model_of g18) ?_
        rintro _ _ ⟨rfl, rfl⟩
        refine .inl ⟨some (iv (zI s7 253 ((157 + (6 * x1)) + 4))), rfl, ?_⟩
        show wp S 272 94 [(0, rf 252), (1, iv x1), (2, .long u2), (4, iv x4), (5, iv x5), (6, iv x90)] [iv (zI s7 253 ((157 + (6 * x1)) + 4)), iv (zI s7 253 ((157 + (6 * x1)) + 2)), iv (zI s7 253 ((157 + (6 * x1)) + 1)), iv (zI s7 253 ((157 + (6 * x1)) + 0)), rf 252] s7 Q
        refine wp_rd (a := 253) (j := ((157 + (6 * x1)) + 4)) (fun q20 => ?_)
        refine i_lload_n (u := u2) r_272_94 (n_272_94 _) rfl ?_
        refine i_iload (x := x4) r_272_95 (n_272_95 _) rfl ?_
        refine i_iload (x := x5) r_272_97 (n_272_97 _) rfl ?_
        refine wp_virt (b := 252) (rest := []) (Ls := [(0, rf 252), (1, iv (zI s7 253 ((157 + (6 * x1)) + 0))), (2, iv (zI s7 253 ((157 + (6 * x1)) + 1))), (3, iv (zI s7 253 ((157 + (6 * x1)) + 2))), (4, iv (zI s7 253 ((157 + (6 * x1)) + 4))), (5, .long u2), (7, iv x4), (8, iv x5)]) r_272_99 (n_272_99 _) rfl ⟨rfl, rfl, by decide, by decide⟩ rfl rfl lf_252 ⟨rfl, Nat.le_of_ble_eq_true rfl, Nat.le_of_ble_eq_true rfl⟩ rfl h ?_
        intro o21 s21 h
        rcases h with ⟨y21, q22, rfl, h⟩ | ⟨e21, rfl, h⟩
        · refine .inl ⟨some (iv y21), rfl, ?_⟩
          show wp S 272 102 [(0, rf 252), (1, iv x1), (2, .long u2), (4, iv x4), (5, iv x5), (6, iv x90)] [iv y21] s21 Q
          refine i_istore (l' := [(0, rf 252), (1, iv x1), (2, .long u2), (4, iv x4), (5, iv x5), (6, iv x90), (7, iv y21)]) r_272_102 (n_272_102 _) (by decide) rfl ?_
          refine i_iconst r_272_104 (n_272_104 _) ?_
          refine i_istore (l' := [(0, rf 252), (1, iv x1), (2, .long u2), (4, iv x4), (5, iv x5), (6, iv x90), (7, iv y21), (8, iv 0)]) r_272_105 (n_272_105 _) (by decide) rfl ?_
          refine i_iconst r_272_107 (n_272_107 _) ?_
          refine i_istore (l' := [(0, rf 252), (1, iv x1), (2, .long u2), (4, iv x4), (5, iv x5), (6, iv x90), (7, iv y21), (8, iv 0), (9, iv 0)]) r_272_108 (n_272_108 _) (by decide) rfl ?_
          exact wp_pr (l' := [(0, rf 252), (7, iv y21), (8, iv 0), (9, iv 0)]) rfl h
        · skip
          exact h.elim
      · skip
        exact h.elim
    · replace h := h.2 c5
      refine i_iconst r_272_52 (n_272_52 _) ?_
      refine i_goto (t := 57) r_272_53 (n_272_53 _) rfl ?_
      refine wp_virt (b := 252) (rest := []) (Ls := [(0, rf 252), (1, iv 2)]) r_272_57 (n_272_57 _) rfl ⟨rfl, rfl, by decide, by decide⟩ rfl rfl lf_252 ⟨rfl, Nat.le_of_ble_eq_true rfl, Nat.le_of_ble_eq_true rfl⟩ rfl (K_Model_refused1 ⟨by omega, by omega⟩ (by omega)) ?_
      rintro _ _ ⟨rfl, rfl⟩
      refine .inl ⟨some (iv 1), rfl, ?_⟩
      show wp S 272 60 [(0, rf 252), (1, iv x1), (2, .long u2), (4, iv x4), (5, iv x5), (6, iv x90)] [iv 1] (zwI s 252 3 2) Q
      refine i_if (t := 65) r_272_60 (n_272_60 _) rfl (T_eq ⟨by omega, by omega⟩ ⟨by omega, by omega⟩) (fun z => absurd z (by omega)) (fun _ => ?_)
      refine i_iconst r_272_63 (n_272_63 _) ?_
      exact i_ireturn r_272_64 (n_272_64 _) rfl h
  · replace h := h.2 c2
    refine i_iconst r_272_41 (n_272_41 _) ?_
    refine i_goto (t := 57) r_272_42 (n_272_42 _) rfl ?_
    refine wp_virt (b := 252) (rest := []) (Ls := [(0, rf 252), (1, iv 1)]) r_272_57 (n_272_57 _) rfl ⟨rfl, rfl, by decide, by decide⟩ rfl rfl lf_252 ⟨rfl, Nat.le_of_ble_eq_true rfl, Nat.le_of_ble_eq_true rfl⟩ rfl (K_Model_refused1 ⟨by omega, by omega⟩ (by omega)) ?_
    rintro _ _ ⟨rfl, rfl⟩
    refine .inl ⟨some (iv 1), rfl, ?_⟩
    show wp S 272 60 [(0, rf 252), (1, iv x1), (2, .long u2), (4, iv x4), (5, iv x5), (6, iv x90)] [iv 1] (zwI s 252 3 1) Q
    refine i_if (t := 65) r_272_60 (n_272_60 _) rfl (T_eq ⟨by omega, by omega⟩ ⟨by omega, by omega⟩) (fun z => absurd z (by omega)) (fun _ => ?_)
    refine i_iconst r_272_63 (n_272_63 _) ?_
    exact i_ireturn r_272_64 (n_272_64 _) rfl h
theorem v_Model_runs_110 {S : Option (Nat × (Nat → Int32))} {s : zSt} {Q : Option Value ⊕ Nat → zSt → Prop} {x7 : Int} {x8 : Int} {x9 : Int} 
    (h : rng x9 ∧ (rng x7 ∧ ((x7 ≤ x9 → Q (rI x8) s) ∧ (x9 < x7 → (0 ≤ x9 ∧ x9 < 8192) ∧ (((zI s 274 x9) ≠ 1 → wp S 272 110 [(0, rf 252), (7, iv x7), (8, iv (x8 + 0)), (9, iv (x9 + 1))] [] s Q) ∧ ((zI s 274 x9) = 1 → (x9 = 0 → wp S 272 110 [(0, rf 252), (7, iv x7), (8, iv (x8 + 1)), (9, iv (x9 + 1))] [] s Q) ∧ (x9 ≠ 0 → (0 ≤ (x9 - 1) ∧ (x9 - 1) < 8192) ∧ (((zI s 274 (x9 - 1)) ≠ 0 → wp S 272 110 [(0, rf 252), (7, iv x7), (8, iv (x8 + 0)), (9, iv (x9 + 1))] [] s Q) ∧ ((zI s 274 (x9 - 1)) = 0 → wp S 272 110 [(0, rf 252), (7, iv x7), (8, iv (x8 + 1)), (9, iv (x9 + 1))] [] s Q))))))))) :
    wp S 272 110 [(0, rf 252), (7, iv x7), (8, iv x8), (9, iv x9)] [] s Q := by
  refine i_iload (x := x9) r_272_110 rfl rfl ?_
  refine i_iload (x := x7) r_272_112 (n_272_112 _) rfl ?_
  obtain ⟨g1, h⟩ := h
  obtain ⟨g2, h⟩ := h
  refine i_icmp (t := 161) r_272_114 (n_272_114 _) rfl (T_ge g1 g2) (fun c3 => ?_) (fun c3 => ?_)
  · replace h := h.1 c3
    refine i_iload (x := x8) r_272_161 (n_272_161 _) rfl ?_
    exact i_ireturn r_272_163 (n_272_163 _) rfl h
  · replace h := h.2 c3
    refine i_iload (x := x8) r_272_117 (n_272_117 _) rfl ?_
    refine i_aload_n (a := 252) r_272_119 (n_272_119 _) rfl ?_
    refine i_getR (a := 252) (b := 274) r_272_120 (n_272_120 _) rfl rfl rfl (by omega) lf_252 (by omega) ?_
    refine i_iload (x := x9) r_272_123 (n_272_123 _) rfl ?_
    obtain ⟨g4, h⟩ := h
    refine i_iaload (a := 274) (j := x9) r_272_125 (n_272_125 _) lf_274 ⟨by omega, by omega⟩ (by omega) (by omega) (fun q5 => ?_)
    refine i_iconst r_272_126 (n_272_126 _) ?_
    refine i_icmp (t := 151) r_272_127 (n_272_127 _) rfl (T_ne q5 ⟨by omega, by omega⟩) (fun c6 => ?_) (fun c6 => ?_)
    · replace h := h.1 c6
      refine i_iconst r_272_151 (n_272_151 _) ?_
      refine i_iadd r_272_152 (n_272_152 _) ?_
      refine i_istore (l' := [(0, rf 252), (7, iv x7), (8, iv (x8 + 0)), (9, iv x9)]) r_272_153 (n_272_153 _) (by decide) rfl ?_
      refine i_iinc (x := x9) (l' := [(0, rf 252), (7, iv x7), (8, iv (x8 + 0)), (9, iv (x9 + 1))]) r_272_155 (n_272_155 _) (by decide) rfl rfl ?_
      refine i_goto (t := 110) r_272_158 (n_272_158 _) rfl ?_
      exact wp_pr (l' := [(0, rf 252), (7, iv x7), (8, iv (x8 + 0)), (9, iv (x9 + 1))]) rfl h
    · replace h := h.2 c6
      refine i_iload (x := x9) r_272_130 (n_272_130 _) rfl ?_
      refine i_if (t := 147) r_272_132 (n_272_132 _) rfl (T_eq g1 ⟨by omega, by omega⟩) (fun c7 => ?_) (fun c7 => ?_)
      · replace h := h.1 c7
        refine i_iconst r_272_147 (n_272_147 _) ?_
        refine i_goto (t := 152) r_272_148 (n_272_148 _) rfl ?_
        refine i_iadd r_272_152 (n_272_152 _) ?_
        refine i_istore (l' := [(0, rf 252), (7, iv x7), (8, iv (x8 + 1)), (9, iv x9)]) r_272_153 (n_272_153 _) (by decide) rfl ?_
        refine i_iinc (x := x9) (l' := [(0, rf 252), (7, iv x7), (8, iv (x8 + 1)), (9, iv (x9 + 1))]) r_272_155 (n_272_155 _) (by decide) rfl rfl ?_
        refine i_goto (t := 110) r_272_158 (n_272_158 _) rfl ?_
        exact wp_pr (l' := [(0, rf 252), (7, iv x7), (8, iv (x8 + 1)), (9, iv (x9 + 1))]) rfl h
      · replace h := h.2 c7
        refine i_aload_n (a := 252) r_272_135 (n_272_135 _) rfl ?_
        refine i_getR (a := 252) (b := 274) r_272_136 (n_272_136 _) rfl rfl rfl (by omega) lf_252 (by omega) ?_
        refine i_iload (x := x9) r_272_139 (n_272_139 _) rfl ?_
        refine i_iconst r_272_141 (n_272_141 _) ?_
        refine i_isub r_272_142 (n_272_142 _) ?_
        obtain ⟨g8, h⟩ := h
        refine i_iaload (a := 274) (j := x9 - 1) r_272_143 (n_272_143 _) lf_274 ⟨by omega, by omega⟩ (by omega) (by omega) (fun q9 => ?_)
        refine i_if (t := 151) r_272_144 (n_272_144 _) rfl (T_ne q9 ⟨by omega, by omega⟩) (fun c10 => ?_) (fun c10 => ?_)
        · replace h := h.1 c10
          refine i_iconst r_272_151 (n_272_151 _) ?_
          refine i_iadd r_272_152 (n_272_152 _) ?_
          refine i_istore (l' := [(0, rf 252), (7, iv x7), (8, iv (x8 + 0)), (9, iv x9)]) r_272_153 (n_272_153 _) (by decide) rfl ?_
          refine i_iinc (x := x9) (l' := [(0, rf 252), (7, iv x7), (8, iv (x8 + 0)), (9, iv (x9 + 1))]) r_272_155 (n_272_155 _) (by decide) rfl rfl ?_
          refine i_goto (t := 110) r_272_158 (n_272_158 _) rfl ?_
          exact wp_pr (l' := [(0, rf 252), (7, iv x7), (8, iv (x8 + 0)), (9, iv (x9 + 1))]) rfl h
        · replace h := h.2 c10
          refine i_iconst r_272_147 (n_272_147 _) ?_
          refine i_goto (t := 152) r_272_148 (n_272_148 _) rfl ?_
          refine i_iadd r_272_152 (n_272_152 _) ?_
          refine i_istore (l' := [(0, rf 252), (7, iv x7), (8, iv (x8 + 1)), (9, iv x9)]) r_272_153 (n_272_153 _) (by decide) rfl ?_
          refine i_iinc (x := x9) (l' := [(0, rf 252), (7, iv x7), (8, iv (x8 + 1)), (9, iv (x9 + 1))]) r_272_155 (n_272_155 _) (by decide) rfl rfl ?_
          refine i_goto (t := 110) r_272_158 (n_272_158 _) rfl ?_
          exact wp_pr (l' := [(0, rf 252), (7, iv x7), (8, iv (x8 + 1)), (9, iv (x9 + 1))]) rfl h
theorem r_273_0 : xfetch 273 0 = some (.aload_n 0, 1) := by decide +kernel
theorem n_273_0 : ∀ l, xpr 273 0 l = l := xpr_no (by decide +kernel)
theorem r_273_1 : xfetch 273 1 = some (.aload_n 0, 1) := by decide +kernel
theorem n_273_1 : ∀ l, xpr 273 1 l = l := xpr_no (by decide +kernel)
theorem r_273_2 : xfetch 273 2 = some (.iload_n 1, 1) := by decide +kernel
theorem n_273_2 : ∀ l, xpr 273 2 l = l := xpr_no (by decide +kernel)
theorem r_273_3 : xfetch 273 3 = some (.invokevirtual 225, 3) := by decide +kernel
theorem n_273_3 : ∀ l, xpr 273 3 l = l := xpr_no (by decide +kernel)
theorem r_273_6 : xfetch 273 6 = some (.ifCond .ne 7, 3) := by decide +kernel
theorem n_273_6 : ∀ l, xpr 273 6 l = l := xpr_no (by decide +kernel)
theorem r_273_9 : xfetch 273 9 = some (.iconst 1, 1) := by decide +kernel
theorem n_273_9 : ∀ l, xpr 273 9 l = l := xpr_no (by decide +kernel)
theorem r_273_10 : xfetch 273 10 = some (.goto 16, 3) := by decide +kernel
theorem n_273_10 : ∀ l, xpr 273 10 l = l := xpr_no (by decide +kernel)
theorem r_273_13 : xfetch 273 13 = some (.iload 4, 2) := by decide +kernel
theorem n_273_13 : ∀ l, xpr 273 13 l = l := xpr_no (by decide +kernel)
theorem r_273_15 : xfetch 273 15 = some (.invokestatic 290, 3) := by decide +kernel
theorem n_273_15 : ∀ l, xpr 273 15 l = l := xpr_no (by decide +kernel)
theorem r_273_18 : xfetch 273 18 = some (.ifCond .ne 7, 3) := by decide +kernel
theorem n_273_18 : ∀ l, xpr 273 18 l = l := xpr_no (by decide +kernel)
theorem r_273_21 : xfetch 273 21 = some (.iconst 2, 1) := by decide +kernel
theorem n_273_21 : ∀ l, xpr 273 21 l = l := xpr_no (by decide +kernel)
theorem r_273_22 : xfetch 273 22 = some (.goto 4, 3) := by decide +kernel
theorem n_273_22 : ∀ l, xpr 273 22 l = l := xpr_no (by decide +kernel)
theorem r_273_25 : xfetch 273 25 = some (.iconst 0, 1) := by decide +kernel
theorem n_273_25 : ∀ l, xpr 273 25 l = l := xpr_no (by decide +kernel)
theorem r_273_26 : xfetch 273 26 = some (.invokevirtual 84, 3) := by decide +kernel
theorem n_273_26 : ∀ l, xpr 273 26 l = l := xpr_no (by decide +kernel)
theorem r_273_29 : xfetch 273 29 = some (.ifCond .eq 5, 3) := by decide +kernel
theorem n_273_29 : ∀ l, xpr 273 29 l = l := xpr_no (by decide +kernel)
theorem r_273_32 : xfetch 273 32 = some (.iconst 0, 1) := by decide +kernel
theorem n_273_32 : ∀ l, xpr 273 32 l = l := xpr_no (by decide +kernel)
theorem r_273_33 : xfetch 273 33 = some (.ireturn, 1) := by decide +kernel
theorem n_273_33 : ∀ l, xpr 273 33 l = l := xpr_no (by decide +kernel)
theorem r_273_34 : xfetch 273 34 = some (.aload_n 0, 1) := by decide +kernel
theorem n_273_34 : ∀ l, xpr 273 34 l = l := xpr_no (by decide +kernel)
theorem r_273_35 : xfetch 273 35 = some (.invokevirtual 152, 3) := by decide +kernel
theorem n_273_35 : ∀ l, xpr 273 35 l = l := xpr_no (by decide +kernel)
theorem r_273_38 : xfetch 273 38 = some (.iconst (-1), 1) := by decide +kernel
theorem n_273_38 : ∀ l, xpr 273 38 l = l := xpr_no (by decide +kernel)
theorem r_273_39 : xfetch 273 39 = some (.istore 5, 2) := by decide +kernel
theorem n_273_39 : ∀ l, xpr 273 39 l = l := xpr_no (by decide +kernel)
theorem r_273_41 : xfetch 273 41 = some (.iconst (-1), 1) := by decide +kernel
theorem n_273_41 : ∀ l, xpr 273 41 l = l := xpr_no (by decide +kernel)
theorem r_273_42 : xfetch 273 42 = some (.istore 6, 2) := by decide +kernel
theorem n_273_42 : ∀ l, xpr 273 42 l = l := xpr_no (by decide +kernel)
theorem r_273_44 : xfetch 273 44 = some (.iconst 0, 1) := by decide +kernel
theorem n_273_44 : ∀ l, xpr 273 44 l = l := xpr_no (by decide +kernel)
theorem r_273_45 : xfetch 273 45 = some (.istore 7, 2) := by decide +kernel
theorem n_273_45 : ∀ l, xpr 273 45 l = l := xpr_no (by decide +kernel)
theorem r_273_47 : xfetch 273 47 = some (.iload 7, 2) := by decide +kernel
theorem r_273_49 : xfetch 273 49 = some (.bipush 8, 2) := by decide +kernel
theorem n_273_49 : ∀ l, xpr 273 49 l = l := xpr_no (by decide +kernel)
theorem r_273_51 : xfetch 273 51 = some (.if_icmp .gt 68, 3) := by decide +kernel
theorem n_273_51 : ∀ l, xpr 273 51 l = l := xpr_no (by decide +kernel)
theorem r_273_54 : xfetch 273 54 = some (.aload_n 0, 1) := by decide +kernel
theorem n_273_54 : ∀ l, xpr 273 54 l = l := xpr_no (by decide +kernel)
theorem r_273_55 : xfetch 273 55 = some (.aload_n 0, 1) := by decide +kernel
theorem n_273_55 : ∀ l, xpr 273 55 l = l := xpr_no (by decide +kernel)
theorem r_273_56 : xfetch 273 56 = some (.iload_n 1, 1) := by decide +kernel
theorem n_273_56 : ∀ l, xpr 273 56 l = l := xpr_no (by decide +kernel)
theorem r_273_57 : xfetch 273 57 = some (.iconst 0, 1) := by decide +kernel
theorem n_273_57 : ∀ l, xpr 273 57 l = l := xpr_no (by decide +kernel)
theorem r_273_58 : xfetch 273 58 = some (.invokevirtual 228, 3) := by decide +kernel
theorem n_273_58 : ∀ l, xpr 273 58 l = l := xpr_no (by decide +kernel)
theorem r_273_61 : xfetch 273 61 = some (.aload_n 0, 1) := by decide +kernel
theorem n_273_61 : ∀ l, xpr 273 61 l = l := xpr_no (by decide +kernel)
theorem r_273_62 : xfetch 273 62 = some (.iload_n 1, 1) := by decide +kernel
theorem n_273_62 : ∀ l, xpr 273 62 l = l := xpr_no (by decide +kernel)
theorem r_273_63 : xfetch 273 63 = some (.iconst 1, 1) := by decide +kernel
theorem n_273_63 : ∀ l, xpr 273 63 l = l := xpr_no (by decide +kernel)
theorem r_273_64 : xfetch 273 64 = some (.invokevirtual 228, 3) := by decide +kernel
theorem n_273_64 : ∀ l, xpr 273 64 l = l := xpr_no (by decide +kernel)
theorem r_273_67 : xfetch 273 67 = some (.iload 7, 2) := by decide +kernel
theorem n_273_67 : ∀ l, xpr 273 67 l = l := xpr_no (by decide +kernel)
theorem r_273_69 : xfetch 273 69 = some (.iconst 0, 1) := by decide +kernel
theorem n_273_69 : ∀ l, xpr 273 69 l = l := xpr_no (by decide +kernel)
theorem r_273_70 : xfetch 273 70 = some (.lload_n 2, 1) := by decide +kernel
theorem n_273_70 : ∀ l, xpr 273 70 l = l := xpr_no (by decide +kernel)
theorem r_273_71 : xfetch 273 71 = some (.iconst 0, 1) := by decide +kernel
theorem n_273_71 : ∀ l, xpr 273 71 l = l := xpr_no (by decide +kernel)
theorem r_273_72 : xfetch 273 72 = some (.aload_n 0, 1) := by decide +kernel
theorem n_273_72 : ∀ l, xpr 273 72 l = l := xpr_no (by decide +kernel)
theorem r_273_73 : xfetch 273 73 = some (.iload_n 1, 1) := by decide +kernel
theorem n_273_73 : ∀ l, xpr 273 73 l = l := xpr_no (by decide +kernel)
theorem r_273_74 : xfetch 273 74 = some (.iconst 1, 1) := by decide +kernel
theorem n_273_74 : ∀ l, xpr 273 74 l = l := xpr_no (by decide +kernel)
theorem r_273_75 : xfetch 273 75 = some (.invokevirtual 228, 3) := by decide +kernel
theorem n_273_75 : ∀ l, xpr 273 75 l = l := xpr_no (by decide +kernel)
theorem r_273_78 : xfetch 273 78 = some (.iconst 1, 1) := by decide +kernel
theorem n_273_78 : ∀ l, xpr 273 78 l = l := xpr_no (by decide +kernel)
theorem r_273_79 : xfetch 273 79 = some (.isub, 1) := by decide +kernel
theorem n_273_79 : ∀ l, xpr 273 79 l = l := xpr_no (by decide +kernel)
theorem r_273_80 : xfetch 273 80 = some (.invokevirtual 293, 3) := by decide +kernel
theorem n_273_80 : ∀ l, xpr 273 80 l = l := xpr_no (by decide +kernel)
theorem r_273_83 : xfetch 273 83 = some (.pop, 1) := by decide +kernel
theorem n_273_83 : ∀ l, xpr 273 83 l = l := xpr_no (by decide +kernel)
theorem r_273_84 : xfetch 273 84 = some (.aload_n 0, 1) := by decide +kernel
theorem n_273_84 : ∀ l, xpr 273 84 l = l := xpr_no (by decide +kernel)
theorem r_273_85 : xfetch 273 85 = some (.iload 4, 2) := by decide +kernel
theorem n_273_85 : ∀ l, xpr 273 85 l = l := xpr_no (by decide +kernel)
theorem r_273_87 : xfetch 273 87 = some (.invokevirtual 297, 3) := by decide +kernel
theorem n_273_87 : ∀ l, xpr 273 87 l = l := xpr_no (by decide +kernel)
theorem r_273_90 : xfetch 273 90 = some (.istore 8, 2) := by decide +kernel
theorem n_273_90 : ∀ l, xpr 273 90 l = l := xpr_no (by decide +kernel)
theorem r_273_92 : xfetch 273 92 = some (.iload 6, 2) := by decide +kernel
theorem n_273_92 : ∀ l, xpr 273 92 l = l := xpr_no (by decide +kernel)
theorem r_273_94 : xfetch 273 94 = some (.iconst (-1), 1) := by decide +kernel
theorem n_273_94 : ∀ l, xpr 273 94 l = l := xpr_no (by decide +kernel)
theorem r_273_95 : xfetch 273 95 = some (.if_icmp .eq 10, 3) := by decide +kernel
theorem n_273_95 : ∀ l, xpr 273 95 l = l := xpr_no (by decide +kernel)
theorem r_273_98 : xfetch 273 98 = some (.iload 8, 2) := by decide +kernel
theorem n_273_98 : ∀ l, xpr 273 98 l = l := xpr_no (by decide +kernel)
theorem r_273_100 : xfetch 273 100 = some (.iload 5, 2) := by decide +kernel
theorem n_273_100 : ∀ l, xpr 273 100 l = l := xpr_no (by decide +kernel)
theorem r_273_102 : xfetch 273 102 = some (.if_icmp .ge 11, 3) := by decide +kernel
theorem n_273_102 : ∀ l, xpr 273 102 l = l := xpr_no (by decide +kernel)
theorem r_273_105 : xfetch 273 105 = some (.iload 8, 2) := by decide +kernel
theorem n_273_105 : ∀ l, xpr 273 105 l = l := xpr_no (by decide +kernel)
theorem r_273_107 : xfetch 273 107 = some (.istore 5, 2) := by decide +kernel
theorem n_273_107 : ∀ l, xpr 273 107 l = l := xpr_no (by decide +kernel)
theorem r_273_109 : xfetch 273 109 = some (.iload 7, 2) := by decide +kernel
theorem n_273_109 : ∀ l, xpr 273 109 l = l := xpr_no (by decide +kernel)
theorem r_273_111 : xfetch 273 111 = some (.istore 6, 2) := by decide +kernel
theorem n_273_111 : ∀ l, xpr 273 111 l = l := xpr_no (by decide +kernel)
theorem r_273_113 : xfetch 273 113 = some (.iinc 7 1, 3) := by decide +kernel
theorem n_273_113 : ∀ l, xpr 273 113 l = l := xpr_no (by decide +kernel)
theorem r_273_116 : xfetch 273 116 = some (.goto (-69), 3) := by decide +kernel
theorem n_273_116 : ∀ l, xpr 273 116 l = l := xpr_no (by decide +kernel)
theorem r_273_119 : xfetch 273 119 = some (.iload 6, 2) := by decide +kernel
theorem n_273_119 : ∀ l, xpr 273 119 l = l := xpr_no (by decide +kernel)
theorem r_273_121 : xfetch 273 121 = some (.ireturn, 1) := by decide +kernel
theorem n_273_121 : ∀ l, xpr 273 121 l = l := xpr_no (by decide +kernel)
theorem v_Model_bestLayout_0 {S : Option (Nat × (Nat → Int32))} {s : zSt} {Q : Option Value ⊕ Nat → zSt → Prop} {x1 : Int} {u2 : Int64} {x4 : Int} 
    (h : rng x1 ∧ ((0 ≤ x1 ∧ x1 ≤ 2 ∧ zI s 253 (157 + 6 * x1) ≠ -1 → rng x4 ∧ ((x4 = 16 ∨ x4 = 32 ∨ x4 = 64 → wp S 193 0 [(0, rf 252)] [] (zwI s 252 3 0) (fun o8 s8 => zkU (wp S 273 47 [(0, rf 252), (1, iv x1), (2, .long u2), (4, iv x4), (5, iv (-1)), (6, iv (-1)), (7, iv 0)] [] s8 Q) (fun e8 => False) o8)) ∧ (¬ (x4 = 16 ∨ x4 = 32 ∨ x4 = 64) → Q (rI 0) (zwI s 252 3 2)))) ∧ (¬ (0 ≤ x1 ∧ x1 ≤ 2 ∧ zI s 253 (157 + 6 * x1) ≠ -1) → Q (rI 0) (zwI s 252 3 1)))) :
    wp S 273 0 [(0, rf 252), (1, iv x1), (2, .long u2), (4, iv x4)] [] s Q := by
  refine i_aload_n (a := 252) r_273_0 (n_273_0 _) rfl ?_
  refine i_aload_n (a := 252) r_273_1 (n_273_1 _) rfl ?_
  refine i_iload_n (x := x1) r_273_2 (n_273_2 _) rfl ?_
  obtain ⟨g1, h⟩ := h
  refine wp_virt (b := 252) (rest := [rf 252]) (Ls := [(0, rf 252), (1, iv x1)]) r_273_3 (n_273_3 _) rfl ⟨rfl, rfl, by decide, by decide⟩ rfl rfl lf_252 ⟨rfl, Nat.le_of_ble_eq_true rfl, Nat.le_of_ble_eq_true rfl⟩ rfl (K_Model_isTable g1) ?_
  rintro _ _ ⟨rfl, rfl⟩
  refine .inl ⟨some (iv (bi (0 ≤ x1 ∧ x1 ≤ 2 ∧ zI s 253 (157 + 6 * x1) ≠ -1))), rfl, ?_⟩
  show wp S 273 6 [(0, rf 252), (1, iv x1), (2, .long u2), (4, iv x4)] [iv (bi (0 ≤ x1 ∧ x1 ≤ 2 ∧ zI s 253 (157 + 6 * x1) ≠ -1)), rf 252] s Q
  refine i_if (t := 13) r_273_6 (n_273_6 _) rfl (TB_ne) (fun c3 => ?_) (fun c3 => ?_)
  · replace h := h.1 c3
    refine i_iload (x := x4) r_273_13 (n_273_13 _) rfl ?_
    obtain ⟨g4, h⟩ := h
    refine wp_stat (rest := [rf 252]) (Ls := [(0, iv x4)]) r_273_15 (n_273_15 _) rfl ⟨rfl, by decide, by decide, by decide⟩ rfl rfl ⟨rfl, Nat.le_of_ble_eq_true rfl, Nat.le_of_ble_eq_true rfl⟩ rfl (K_Model_isLine g4) ?_
    rintro _ _ ⟨rfl, rfl⟩
    refine .inl ⟨some (iv (bi (x4 = 16 ∨ x4 = 32 ∨ x4 = 64))), rfl, ?_⟩
    show wp S 273 18 [(0, rf 252), (1, iv x1), (2, .long u2), (4, iv x4)] [iv (bi (x4 = 16 ∨ x4 = 32 ∨ x4 = 64)), rf 252] s Q
    refine i_if (t := 25) r_273_18 (n_273_18 _) rfl (TB_ne) (fun c6 => ?_) (fun c6 => ?_)
    · replace h := h.1 c6
      refine i_iconst r_273_25 (n_273_25 _) ?_
      refine wp_virt (b := 252) (rest := []) (Ls := [(0, rf 252), (1, iv 0)]) r_273_26 (n_273_26 _) rfl ⟨rfl, rfl, by decide, by decide⟩ rfl rfl lf_252 ⟨rfl, Nat.le_of_ble_eq_true rfl, Nat.le_of_ble_eq_true rfl⟩ rfl K_Model_refused0 ?_
      rintro _ _ ⟨rfl, rfl⟩
      refine .inl ⟨some (iv 0), rfl, ?_⟩
      show wp S 273 29 [(0, rf 252), (1, iv x1), (2, .long u2), (4, iv x4)] [iv 0] (zwI s 252 3 0) Q
      refine i_if (t := 34) r_273_29 (n_273_29 _) rfl (T_eq ⟨by omega, by omega⟩ ⟨by omega, by omega⟩) (fun _ => ?_) (fun z => absurd z (by omega))
      refine i_aload_n (a := 252) r_273_34 (n_273_34 _) rfl ?_
      refine wp_virt (b := 252) (rest := []) (Ls := [(0, rf 252)]) r_273_35 (n_273_35 _) rfl ⟨rfl, rfl, by decide, by decide⟩ rfl rfl lf_252 ⟨rfl, Nat.le_of_ble_eq_true rfl, Nat.le_of_ble_eq_true rfl⟩ rfl h ?_
      intro o8 s8 h
      rcases h with ⟨rfl, h⟩ | ⟨e8, rfl, h⟩
      · refine .inl ⟨none, rfl, ?_⟩
        refine i_iconst r_273_38 (n_273_38 _) ?_
        refine i_istore (l' := [(0, rf 252), (1, iv x1), (2, .long u2), (4, iv x4), (5, iv (-1))]) r_273_39 (n_273_39 _) (by decide) rfl ?_
        refine i_iconst r_273_41 (n_273_41 _) ?_
        refine i_istore (l' := [(0, rf 252), (1, iv x1), (2, .long u2), (4, iv x4), (5, iv (-1)), (6, iv (-1))]) r_273_42 (n_273_42 _) (by decide) rfl ?_
        refine i_iconst r_273_44 (n_273_44 _) ?_
        refine i_istore (l' := [(0, rf 252), (1, iv x1), (2, .long u2), (4, iv x4), (5, iv (-1)), (6, iv (-1)), (7, iv 0)]) r_273_45 (n_273_45 _) (by decide) rfl ?_
        exact wp_pr (l' := [(0, rf 252), (1, iv x1), (2, .long u2), (4, iv x4), (5, iv (-1)), (6, iv (-1)), (7, iv 0)]) rfl h
      · skip
        exact h.elim
    · replace h := h.2 c6
      refine i_iconst r_273_21 (n_273_21 _) ?_
      refine i_goto (t := 26) r_273_22 (n_273_22 _) rfl ?_
      refine wp_virt (b := 252) (rest := []) (Ls := [(0, rf 252), (1, iv 2)]) r_273_26 (n_273_26 _) rfl ⟨rfl, rfl, by decide, by decide⟩ rfl rfl lf_252 ⟨rfl, Nat.le_of_ble_eq_true rfl, Nat.le_of_ble_eq_true rfl⟩ rfl (K_Model_refused1 ⟨by omega, by omega⟩ (by omega)) ?_
      rintro _ _ ⟨rfl, rfl⟩
      refine .inl ⟨some (iv 1), rfl, ?_⟩
      show wp S 273 29 [(0, rf 252), (1, iv x1), (2, .long u2), (4, iv x4)] [iv 1] (zwI s 252 3 2) Q
      refine i_if (t := 34) r_273_29 (n_273_29 _) rfl (T_eq ⟨by omega, by omega⟩ ⟨by omega, by omega⟩) (fun z => absurd z (by omega)) (fun _ => ?_)
      refine i_iconst r_273_32 (n_273_32 _) ?_
      exact i_ireturn r_273_33 (n_273_33 _) rfl h
  · replace h := h.2 c3
    refine i_iconst r_273_9 (n_273_9 _) ?_
    refine i_goto (t := 26) r_273_10 (n_273_10 _) rfl ?_
    refine wp_virt (b := 252) (rest := []) (Ls := [(0, rf 252), (1, iv 1)]) r_273_26 (n_273_26 _) rfl ⟨rfl, rfl, by decide, by decide⟩ rfl rfl lf_252 ⟨rfl, Nat.le_of_ble_eq_true rfl, Nat.le_of_ble_eq_true rfl⟩ rfl (K_Model_refused1 ⟨by omega, by omega⟩ (by omega)) ?_
    rintro _ _ ⟨rfl, rfl⟩
    refine .inl ⟨some (iv 1), rfl, ?_⟩
    show wp S 273 29 [(0, rf 252), (1, iv x1), (2, .long u2), (4, iv x4)] [iv 1] (zwI s 252 3 1) Q
    refine i_if (t := 34) r_273_29 (n_273_29 _) rfl (T_eq ⟨by omega, by omega⟩ ⟨by omega, by omega⟩) (fun z => absurd z (by omega)) (fun _ => ?_)
    refine i_iconst r_273_32 (n_273_32 _) ?_
    exact i_ireturn r_273_33 (n_273_33 _) rfl h
theorem v_Model_bestLayout_47 {S : Option (Nat × (Nat → Int32))} {s : zSt} {Q : Option Value ⊕ Nat → zSt → Prop} {x1 : Int} {u2 : Int64} {x4 : Int} {x5 : Int} {x6 : Int} {x7 : Int} 
    (h : rng x7 ∧ ((8 < x7 → Q (rI x6) s) ∧ (x7 ≤ 8 → (0 ≤ ((157 + (6 * x1)) + 0) ∧ ((157 + (6 * x1)) + 0) < 1199) ∧ ((0 ≤ ((157 + (6 * x1)) + 1) ∧ ((157 + (6 * x1)) + 1) < 1199) ∧ (wp S 270 0 [(0, rf 252), (1, iv (zI s 253 ((157 + (6 * x1)) + 0))), (2, iv (zI s 253 ((157 + (6 * x1)) + 1))), (3, iv x7), (4, iv 0), (5, .long u2), (7, iv 0), (8, iv ((zI s 253 ((157 + (6 * x1)) + 1)) - 1))] [] s (fun o11 s11 => zkI (fun y11 => wp S 271 0 [(0, rf 252), (1, iv x4)] [] s11 (fun o13 s13 => zkI (fun y13 => rng x6 ∧ ((x6 = (-1) → wp S 273 47 [(0, rf 252), (1, iv x1), (2, .long u2), (4, iv x4), (5, iv y13), (6, iv x7), (7, iv (x7 + 1))] [] s13 Q) ∧ (x6 ≠ (-1) → rng x5 ∧ ((x5 ≤ y13 → wp S 273 47 [(0, rf 252), (1, iv x1), (2, .long u2), (4, iv x4), (5, iv x5), (6, iv x6), (7, iv (x7 + 1))] [] s13 Q) ∧ (y13 < x5 → wp S 273 47 [(0, rf 252), (1, iv x1), (2, .long u2), (4, iv x4), (5, iv y13), (6, iv x7), (7, iv (x7 + 1))] [] s13 Q))))) (fun e13 => False) o13)) (fun e11 => False) o11)))))) :
    wp S 273 47 [(0, rf 252), (1, iv x1), (2, .long u2), (4, iv x4), (5, iv x5), (6, iv x6), (7, iv x7)] [] s Q := by
  refine i_iload (x := x7) r_273_47 rfl rfl ?_
  refine i_bipush r_273_49 (n_273_49 _) rfl ?_
  obtain ⟨g1, h⟩ := h
  refine i_icmp (t := 119) r_273_51 (n_273_51 _) rfl (T_gt g1 ⟨by omega, by omega⟩) (fun c2 => ?_) (fun c2 => ?_)
  · replace h := h.1 c2
    refine i_iload (x := x6) r_273_119 (n_273_119 _) rfl ?_
    exact i_ireturn r_273_121 (n_273_121 _) rfl h
  · replace h := h.2 c2
    refine i_aload_n (a := 252) r_273_54 (n_273_54 _) rfl ?_
    refine i_aload_n (a := 252) r_273_55 (n_273_55 _) rfl ?_
    refine i_iload_n (x := x1) r_273_56 (n_273_56 _) rfl ?_
    refine i_iconst r_273_57 (n_273_57 _) ?_
    obtain ⟨g3, h⟩ := h
    refine wp_virt (b := 252) (rest := [rf 252]) (Ls := [(0, rf 252), (1, iv x1), (2, iv 0)]) r_273_58 (n_273_58 _) rfl ⟨rfl, rfl, by decide, by decide⟩ rfl rfl lf_252 ⟨rfl, Nat.le_of_ble_eq_true rfl, Nat.le_of_ble_eq_true rfl⟩ rfl (K_Model_of g3) ?_
    rintro _ _ ⟨rfl, rfl⟩
    refine .inl ⟨some (iv (zI s 253 ((157 + (6 * x1)) + 0))), rfl, ?_⟩
    show wp S 273 61 [(0, rf 252), (1, iv x1), (2, .long u2), (4, iv x4), (5, iv x5), (6, iv x6), (7, iv x7)] [iv (zI s 253 ((157 + (6 * x1)) + 0)), rf 252] s Q
    refine wp_rd (a := 253) (j := ((157 + (6 * x1)) + 0)) (fun q5 => ?_)
    refine i_aload_n (a := 252) r_273_61 (n_273_61 _) rfl ?_
    refine i_iload_n (x := x1) r_273_62 (n_273_62 _) rfl ?_
    refine i_iconst r_273_63 (n_273_63 _) ?_
    obtain ⟨g6, h⟩ := h
    refine wp_virt (b := 252) (rest := [iv (zI s 253 ((157 + (6 * x1)) + 0)), rf 252]) (Ls := [(0, rf 252), (1, iv x1), (2, iv 1)]) r_273_64 (n_273_64 _) rfl ⟨rfl, rfl, by decide, by decide⟩ rfl rfl lf_252 ⟨rfl, Nat.le_of_ble_eq_true rfl, Nat.le_of_ble_eq_true rfl⟩ rfl (K_Model_of g6) ?_
    rintro _ _ ⟨rfl, rfl⟩
    refine .inl ⟨some (iv (zI s 253 ((157 + (6 * x1)) + 1))), rfl, ?_⟩
    show wp S 273 67 [(0, rf 252), (1, iv x1), (2, .long u2), (4, iv x4), (5, iv x5), (6, iv x6), (7, iv x7)] [iv (zI s 253 ((157 + (6 * x1)) + 1)), iv (zI s 253 ((157 + (6 * x1)) + 0)), rf 252] s Q
    refine wp_rd (a := 253) (j := ((157 + (6 * x1)) + 1)) (fun q8 => ?_)
    refine i_iload (x := x7) r_273_67 (n_273_67 _) rfl ?_
    refine i_iconst r_273_69 (n_273_69 _) ?_
    refine i_lload_n (u := u2) r_273_70 (n_273_70 _) rfl ?_
    refine i_iconst r_273_71 (n_273_71 _) ?_
    refine i_aload_n (a := 252) r_273_72 (n_273_72 _) rfl ?_
    refine i_iload_n (x := x1) r_273_73 (n_273_73 _) rfl ?_
    refine i_iconst r_273_74 (n_273_74 _) ?_
    refine wp_virt (b := 252) (rest := [iv 0, .long u2, iv 0, iv x7, iv (zI s 253 ((157 + (6 * x1)) + 1)), iv (zI s 253 ((157 + (6 * x1)) + 0)), rf 252]) (Ls := [(0, rf 252), (1, iv x1), (2, iv 1)]) r_273_75 (n_273_75 _) rfl ⟨rfl, rfl, by decide, by decide⟩ rfl rfl lf_252 ⟨rfl, Nat.le_of_ble_eq_true rfl, Nat.le_of_ble_eq_true rfl⟩ rfl (K_Model_of g6) ?_
    rintro _ _ ⟨rfl, rfl⟩
    refine .inl ⟨some (iv (zI s 253 ((157 + (6 * x1)) + 1))), rfl, ?_⟩
    show wp S 273 78 [(0, rf 252), (1, iv x1), (2, .long u2), (4, iv x4), (5, iv x5), (6, iv x6), (7, iv x7)] [iv (zI s 253 ((157 + (6 * x1)) + 1)), iv 0, .long u2, iv 0, iv x7, iv (zI s 253 ((157 + (6 * x1)) + 1)), iv (zI s 253 ((157 + (6 * x1)) + 0)), rf 252] s Q
    refine i_iconst r_273_78 (n_273_78 _) ?_
    refine i_isub r_273_79 (n_273_79 _) ?_
    refine wp_virt (b := 252) (rest := []) (Ls := [(0, rf 252), (1, iv (zI s 253 ((157 + (6 * x1)) + 0))), (2, iv (zI s 253 ((157 + (6 * x1)) + 1))), (3, iv x7), (4, iv 0), (5, .long u2), (7, iv 0), (8, iv ((zI s 253 ((157 + (6 * x1)) + 1)) - 1))]) r_273_80 (n_273_80 _) rfl ⟨rfl, rfl, by decide, by decide⟩ rfl rfl lf_252 ⟨rfl, Nat.le_of_ble_eq_true rfl, Nat.le_of_ble_eq_true rfl⟩ rfl h ?_
    intro o11 s11 h
    rcases h with ⟨y11, q12, rfl, h⟩ | ⟨e11, rfl, h⟩
    · refine .inl ⟨some (iv y11), rfl, ?_⟩
      show wp S 273 83 [(0, rf 252), (1, iv x1), (2, .long u2), (4, iv x4), (5, iv x5), (6, iv x6), (7, iv x7)] [iv y11] s11 Q
      refine i_pop r_273_83 (n_273_83 _) rfl ?_
      refine i_aload_n (a := 252) r_273_84 (n_273_84 _) rfl ?_
      refine i_iload (x := x4) r_273_85 (n_273_85 _) rfl ?_
      refine wp_virt (b := 252) (rest := []) (Ls := [(0, rf 252), (1, iv x4)]) r_273_87 (n_273_87 _) rfl ⟨rfl, rfl, by decide, by decide⟩ rfl rfl lf_252 ⟨rfl, Nat.le_of_ble_eq_true rfl, Nat.le_of_ble_eq_true rfl⟩ rfl h ?_
      intro o13 s13 h
      rcases h with ⟨y13, q14, rfl, h⟩ | ⟨e13, rfl, h⟩
      · refine .inl ⟨some (iv y13), rfl, ?_⟩
        show wp S 273 90 [(0, rf 252), (1, iv x1), (2, .long u2), (4, iv x4), (5, iv x5), (6, iv x6), (7, iv x7)] [iv y13] s13 Q
        refine i_istore (l' := [(0, rf 252), (1, iv x1), (2, .long u2), (4, iv x4), (5, iv x5), (6, iv x6), (7, iv x7), (8, iv y13)]) r_273_90 (n_273_90 _) (by decide) rfl ?_
        refine i_iload (x := x6) r_273_92 (n_273_92 _) rfl ?_
        refine i_iconst r_273_94 (n_273_94 _) ?_
        obtain ⟨g15, h⟩ := h
        refine i_icmp (t := 105) r_273_95 (n_273_95 _) rfl (T_eq g15 ⟨by omega, by omega⟩) (fun c16 => ?_) (fun c16 => ?_)
        · replace h := h.1 c16
          refine i_iload (x := y13) r_273_105 (n_273_105 _) rfl ?_
          refine i_istore (l' := [(0, rf 252), (1, iv x1), (2, .long u2), (4, iv x4), (5, iv y13), (6, iv x6), (7, iv x7), (8, iv y13)]) r_273_107 (n_273_107 _) (by decide) rfl ?_
          refine i_iload (x := x7) r_273_109 (n_273_109 _) rfl ?_
          refine i_istore (l' := [(0, rf 252), (1, iv x1), (2, .long u2), (4, iv x4), (5, iv y13), (6, iv x7), (7, iv x7), (8, iv y13)]) r_273_111 (n_273_111 _) (by decide) rfl ?_
          refine i_iinc (x := x7) (l' := [(0, rf 252), (1, iv x1), (2, .long u2), (4, iv x4), (5, iv y13), (6, iv x7), (7, iv (x7 + 1)), (8, iv y13)]) r_273_113 (n_273_113 _) (by decide) rfl rfl ?_
          refine i_goto (t := 47) r_273_116 (n_273_116 _) rfl ?_
          exact wp_pr (l' := [(0, rf 252), (1, iv x1), (2, .long u2), (4, iv x4), (5, iv y13), (6, iv x7), (7, iv (x7 + 1))]) rfl h
        · replace h := h.2 c16
          refine i_iload (x := y13) r_273_98 (n_273_98 _) rfl ?_
          refine i_iload (x := x5) r_273_100 (n_273_100 _) rfl ?_
          obtain ⟨g17, h⟩ := h
          refine i_icmp (t := 113) r_273_102 (n_273_102 _) rfl (T_ge q14 g17) (fun c18 => ?_) (fun c18 => ?_)
          · replace h := h.1 c18
            refine i_iinc (x := x7) (l' := [(0, rf 252), (1, iv x1), (2, .long u2), (4, iv x4), (5, iv x5), (6, iv x6), (7, iv (x7 + 1)), (8, iv y13)]) r_273_113 (n_273_113 _) (by decide) rfl rfl ?_
            refine i_goto (t := 47) r_273_116 (n_273_116 _) rfl ?_
            exact wp_pr (l' := [(0, rf 252), (1, iv x1), (2, .long u2), (4, iv x4), (5, iv x5), (6, iv x6), (7, iv (x7 + 1))]) rfl h
          · replace h := h.2 c18
            refine i_iload (x := y13) r_273_105 (n_273_105 _) rfl ?_
            refine i_istore (l' := [(0, rf 252), (1, iv x1), (2, .long u2), (4, iv x4), (5, iv y13), (6, iv x6), (7, iv x7), (8, iv y13)]) r_273_107 (n_273_107 _) (by decide) rfl ?_
            refine i_iload (x := x7) r_273_109 (n_273_109 _) rfl ?_
            refine i_istore (l' := [(0, rf 252), (1, iv x1), (2, .long u2), (4, iv x4), (5, iv y13), (6, iv x7), (7, iv x7), (8, iv y13)]) r_273_111 (n_273_111 _) (by decide) rfl ?_
            refine i_iinc (x := x7) (l' := [(0, rf 252), (1, iv x1), (2, .long u2), (4, iv x4), (5, iv y13), (6, iv x7), (7, iv (x7 + 1)), (8, iv y13)]) r_273_113 (n_273_113 _) (by decide) rfl rfl ?_
            refine i_goto (t := 47) r_273_116 (n_273_116 _) rfl ?_
            exact wp_pr (l' := [(0, rf 252), (1, iv x1), (2, .long u2), (4, iv x4), (5, iv y13), (6, iv x7), (7, iv (x7 + 1))]) rfl h
      · skip
        exact h.elim
    · skip
      exact h.elim
theorem r_274_0 : xfetch 274 0 = some (.aload_n 0, 1) := by decide +kernel
theorem n_274_0 : ∀ l, xpr 274 0 l = l := xpr_no (by decide +kernel)
theorem r_274_1 : xfetch 274 1 = some (.iconst 0, 1) := by decide +kernel
theorem n_274_1 : ∀ l, xpr 274 1 l = l := xpr_no (by decide +kernel)
theorem r_274_2 : xfetch 274 2 = some (.putfield 77, 3) := by decide +kernel
theorem n_274_2 : ∀ l, xpr 274 2 l = l := xpr_no (by decide +kernel)
theorem r_274_5 : xfetch 274 5 = some (.aload_n 0, 1) := by decide +kernel
theorem n_274_5 : ∀ l, xpr 274 5 l = l := xpr_no (by decide +kernel)
theorem r_274_6 : xfetch 274 6 = some (.invokevirtual 152, 3) := by decide +kernel
theorem n_274_6 : ∀ l, xpr 274 6 l = l := xpr_no (by decide +kernel)
theorem r_274_9 : xfetch 274 9 = some (.aload_n 0, 1) := by decide +kernel
theorem n_274_9 : ∀ l, xpr 274 9 l = l := xpr_no (by decide +kernel)
theorem r_274_10 : xfetch 274 10 = some (.ldc2_w 306, 3) := by decide +kernel
theorem n_274_10 : ∀ l, xpr 274 10 l = l := xpr_no (by decide +kernel)
theorem r_274_13 : xfetch 274 13 = some (.putfield 302, 3) := by decide +kernel
theorem n_274_13 : ∀ l, xpr 274 13 l = l := xpr_no (by decide +kernel)
theorem r_274_16 : xfetch 274 16 = some (.aload_n 0, 1) := by decide +kernel
theorem n_274_16 : ∀ l, xpr 274 16 l = l := xpr_no (by decide +kernel)
theorem r_274_17 : xfetch 274 17 = some (.aload_n 0, 1) := by decide +kernel
theorem n_274_17 : ∀ l, xpr 274 17 l = l := xpr_no (by decide +kernel)
theorem r_274_18 : xfetch 274 18 = some (.getfield 7, 3) := by decide +kernel
theorem n_274_18 : ∀ l, xpr 274 18 l = l := xpr_no (by decide +kernel)
theorem r_274_21 : xfetch 274 21 = some (.iconst 0, 1) := by decide +kernel
theorem n_274_21 : ∀ l, xpr 274 21 l = l := xpr_no (by decide +kernel)
theorem r_274_22 : xfetch 274 22 = some (.iaload, 1) := by decide +kernel
theorem n_274_22 : ∀ l, xpr 274 22 l = l := xpr_no (by decide +kernel)
theorem r_274_23 : xfetch 274 23 = some (.i2l, 1) := by decide +kernel
theorem n_274_23 : ∀ l, xpr 274 23 l = l := xpr_no (by decide +kernel)
theorem r_274_24 : xfetch 274 24 = some (.invokevirtual 308, 3) := by decide +kernel
theorem n_274_24 : ∀ l, xpr 274 24 l = l := xpr_no (by decide +kernel)
theorem r_274_27 : xfetch 274 27 = some (.iconst 0, 1) := by decide +kernel
theorem n_274_27 : ∀ l, xpr 274 27 l = l := xpr_no (by decide +kernel)
theorem r_274_28 : xfetch 274 28 = some (.istore_n 1, 1) := by decide +kernel
theorem n_274_28 : ∀ l, xpr 274 28 l = l := xpr_no (by decide +kernel)
theorem r_274_29 : xfetch 274 29 = some (.iload_n 1, 1) := by decide +kernel
theorem r_274_30 : xfetch 274 30 = some (.aload_n 0, 1) := by decide +kernel
theorem n_274_30 : ∀ l, xpr 274 30 l = l := xpr_no (by decide +kernel)
theorem r_274_31 : xfetch 274 31 = some (.getfield 7, 3) := by decide +kernel
theorem n_274_31 : ∀ l, xpr 274 31 l = l := xpr_no (by decide +kernel)
theorem r_274_34 : xfetch 274 34 = some (.iconst 0, 1) := by decide +kernel
theorem n_274_34 : ∀ l, xpr 274 34 l = l := xpr_no (by decide +kernel)
theorem r_274_35 : xfetch 274 35 = some (.iaload, 1) := by decide +kernel
theorem n_274_35 : ∀ l, xpr 274 35 l = l := xpr_no (by decide +kernel)
theorem r_274_36 : xfetch 274 36 = some (.if_icmp .ge 76, 3) := by decide +kernel
theorem n_274_36 : ∀ l, xpr 274 36 l = l := xpr_no (by decide +kernel)
theorem r_274_39 : xfetch 274 39 = some (.iconst 0, 1) := by decide +kernel
theorem n_274_39 : ∀ l, xpr 274 39 l = l := xpr_no (by decide +kernel)
theorem r_274_40 : xfetch 274 40 = some (.istore_n 2, 1) := by decide +kernel
theorem n_274_40 : ∀ l, xpr 274 40 l = l := xpr_no (by decide +kernel)
theorem r_274_41 : xfetch 274 41 = some (.iload_n 2, 1) := by decide +kernel
theorem r_274_42 : xfetch 274 42 = some (.bipush 6, 2) := by decide +kernel
theorem n_274_42 : ∀ l, xpr 274 42 l = l := xpr_no (by decide +kernel)
theorem r_274_44 : xfetch 274 44 = some (.if_icmp .ge 20, 3) := by decide +kernel
theorem n_274_44 : ∀ l, xpr 274 44 l = l := xpr_no (by decide +kernel)
theorem r_274_47 : xfetch 274 47 = some (.aload_n 0, 1) := by decide +kernel
theorem n_274_47 : ∀ l, xpr 274 47 l = l := xpr_no (by decide +kernel)
theorem r_274_48 : xfetch 274 48 = some (.aload_n 0, 1) := by decide +kernel
theorem n_274_48 : ∀ l, xpr 274 48 l = l := xpr_no (by decide +kernel)
theorem r_274_49 : xfetch 274 49 = some (.iload_n 1, 1) := by decide +kernel
theorem n_274_49 : ∀ l, xpr 274 49 l = l := xpr_no (by decide +kernel)
theorem r_274_50 : xfetch 274 50 = some (.iload_n 2, 1) := by decide +kernel
theorem n_274_50 : ∀ l, xpr 274 50 l = l := xpr_no (by decide +kernel)
theorem r_274_51 : xfetch 274 51 = some (.invokevirtual 165, 3) := by decide +kernel
theorem n_274_51 : ∀ l, xpr 274 51 l = l := xpr_no (by decide +kernel)
theorem r_274_54 : xfetch 274 54 = some (.i2l, 1) := by decide +kernel
theorem n_274_54 : ∀ l, xpr 274 54 l = l := xpr_no (by decide +kernel)
theorem r_274_55 : xfetch 274 55 = some (.invokevirtual 308, 3) := by decide +kernel
theorem n_274_55 : ∀ l, xpr 274 55 l = l := xpr_no (by decide +kernel)
theorem r_274_58 : xfetch 274 58 = some (.iinc 2 1, 3) := by decide +kernel
theorem n_274_58 : ∀ l, xpr 274 58 l = l := xpr_no (by decide +kernel)
theorem r_274_61 : xfetch 274 61 = some (.goto (-20), 3) := by decide +kernel
theorem n_274_61 : ∀ l, xpr 274 61 l = l := xpr_no (by decide +kernel)
theorem r_274_64 : xfetch 274 64 = some (.iconst 0, 1) := by decide +kernel
theorem n_274_64 : ∀ l, xpr 274 64 l = l := xpr_no (by decide +kernel)
theorem r_274_65 : xfetch 274 65 = some (.istore_n 2, 1) := by decide +kernel
theorem n_274_65 : ∀ l, xpr 274 65 l = l := xpr_no (by decide +kernel)
theorem r_274_66 : xfetch 274 66 = some (.iload_n 2, 1) := by decide +kernel
theorem r_274_67 : xfetch 274 67 = some (.aload_n 0, 1) := by decide +kernel
theorem n_274_67 : ∀ l, xpr 274 67 l = l := xpr_no (by decide +kernel)
theorem r_274_68 : xfetch 274 68 = some (.iload_n 1, 1) := by decide +kernel
theorem n_274_68 : ∀ l, xpr 274 68 l = l := xpr_no (by decide +kernel)
theorem r_274_69 : xfetch 274 69 = some (.invokevirtual 99, 3) := by decide +kernel
theorem n_274_69 : ∀ l, xpr 274 69 l = l := xpr_no (by decide +kernel)
theorem r_274_72 : xfetch 274 72 = some (.if_icmp .ge 34, 3) := by decide +kernel
theorem n_274_72 : ∀ l, xpr 274 72 l = l := xpr_no (by decide +kernel)
theorem r_274_75 : xfetch 274 75 = some (.iconst 0, 1) := by decide +kernel
theorem n_274_75 : ∀ l, xpr 274 75 l = l := xpr_no (by decide +kernel)
theorem r_274_76 : xfetch 274 76 = some (.istore_n 3, 1) := by decide +kernel
theorem n_274_76 : ∀ l, xpr 274 76 l = l := xpr_no (by decide +kernel)
theorem r_274_77 : xfetch 274 77 = some (.iload_n 3, 1) := by decide +kernel
theorem r_274_78 : xfetch 274 78 = some (.iconst 5, 1) := by decide +kernel
theorem n_274_78 : ∀ l, xpr 274 78 l = l := xpr_no (by decide +kernel)
theorem r_274_79 : xfetch 274 79 = some (.if_icmp .ge 21, 3) := by decide +kernel
theorem n_274_79 : ∀ l, xpr 274 79 l = l := xpr_no (by decide +kernel)
theorem r_274_82 : xfetch 274 82 = some (.aload_n 0, 1) := by decide +kernel
theorem n_274_82 : ∀ l, xpr 274 82 l = l := xpr_no (by decide +kernel)
theorem r_274_83 : xfetch 274 83 = some (.aload_n 0, 1) := by decide +kernel
theorem n_274_83 : ∀ l, xpr 274 83 l = l := xpr_no (by decide +kernel)
theorem r_274_84 : xfetch 274 84 = some (.iload_n 1, 1) := by decide +kernel
theorem n_274_84 : ∀ l, xpr 274 84 l = l := xpr_no (by decide +kernel)
theorem r_274_85 : xfetch 274 85 = some (.iload_n 2, 1) := by decide +kernel
theorem n_274_85 : ∀ l, xpr 274 85 l = l := xpr_no (by decide +kernel)
theorem r_274_86 : xfetch 274 86 = some (.iload_n 3, 1) := by decide +kernel
theorem n_274_86 : ∀ l, xpr 274 86 l = l := xpr_no (by decide +kernel)
theorem r_274_87 : xfetch 274 87 = some (.invokevirtual 168, 3) := by decide +kernel
theorem n_274_87 : ∀ l, xpr 274 87 l = l := xpr_no (by decide +kernel)
theorem r_274_90 : xfetch 274 90 = some (.i2l, 1) := by decide +kernel
theorem n_274_90 : ∀ l, xpr 274 90 l = l := xpr_no (by decide +kernel)
theorem r_274_91 : xfetch 274 91 = some (.invokevirtual 308, 3) := by decide +kernel
theorem n_274_91 : ∀ l, xpr 274 91 l = l := xpr_no (by decide +kernel)
theorem r_274_94 : xfetch 274 94 = some (.iinc 3 1, 3) := by decide +kernel
theorem n_274_94 : ∀ l, xpr 274 94 l = l := xpr_no (by decide +kernel)
theorem r_274_97 : xfetch 274 97 = some (.goto (-20), 3) := by decide +kernel
theorem n_274_97 : ∀ l, xpr 274 97 l = l := xpr_no (by decide +kernel)
theorem r_274_100 : xfetch 274 100 = some (.iinc 2 1, 3) := by decide +kernel
theorem n_274_100 : ∀ l, xpr 274 100 l = l := xpr_no (by decide +kernel)
theorem r_274_103 : xfetch 274 103 = some (.goto (-37), 3) := by decide +kernel
theorem n_274_103 : ∀ l, xpr 274 103 l = l := xpr_no (by decide +kernel)
theorem r_274_106 : xfetch 274 106 = some (.iinc 1 1, 3) := by decide +kernel
theorem n_274_106 : ∀ l, xpr 274 106 l = l := xpr_no (by decide +kernel)
theorem r_274_109 : xfetch 274 109 = some (.goto (-80), 3) := by decide +kernel
theorem n_274_109 : ∀ l, xpr 274 109 l = l := xpr_no (by decide +kernel)
theorem r_274_112 : xfetch 274 112 = some (.aload_n 0, 1) := by decide +kernel
theorem n_274_112 : ∀ l, xpr 274 112 l = l := xpr_no (by decide +kernel)
theorem r_274_113 : xfetch 274 113 = some (.aload_n 0, 1) := by decide +kernel
theorem n_274_113 : ∀ l, xpr 274 113 l = l := xpr_no (by decide +kernel)
theorem r_274_114 : xfetch 274 114 = some (.invokevirtual 247, 3) := by decide +kernel
theorem n_274_114 : ∀ l, xpr 274 114 l = l := xpr_no (by decide +kernel)
theorem r_274_117 : xfetch 274 117 = some (.i2l, 1) := by decide +kernel
theorem n_274_117 : ∀ l, xpr 274 117 l = l := xpr_no (by decide +kernel)
theorem r_274_118 : xfetch 274 118 = some (.invokevirtual 308, 3) := by decide +kernel
theorem n_274_118 : ∀ l, xpr 274 118 l = l := xpr_no (by decide +kernel)
theorem r_274_121 : xfetch 274 121 = some (.iconst 0, 1) := by decide +kernel
theorem n_274_121 : ∀ l, xpr 274 121 l = l := xpr_no (by decide +kernel)
theorem r_274_122 : xfetch 274 122 = some (.istore_n 1, 1) := by decide +kernel
theorem n_274_122 : ∀ l, xpr 274 122 l = l := xpr_no (by decide +kernel)
theorem r_274_123 : xfetch 274 123 = some (.iload_n 1, 1) := by decide +kernel
theorem r_274_124 : xfetch 274 124 = some (.iconst 3, 1) := by decide +kernel
theorem n_274_124 : ∀ l, xpr 274 124 l = l := xpr_no (by decide +kernel)
theorem r_274_125 : xfetch 274 125 = some (.if_icmp .ge 42, 3) := by decide +kernel
theorem n_274_125 : ∀ l, xpr 274 125 l = l := xpr_no (by decide +kernel)
theorem r_274_128 : xfetch 274 128 = some (.iconst 0, 1) := by decide +kernel
theorem n_274_128 : ∀ l, xpr 274 128 l = l := xpr_no (by decide +kernel)
theorem r_274_129 : xfetch 274 129 = some (.istore_n 2, 1) := by decide +kernel
theorem n_274_129 : ∀ l, xpr 274 129 l = l := xpr_no (by decide +kernel)
theorem r_274_130 : xfetch 274 130 = some (.iload_n 2, 1) := by decide +kernel
theorem r_274_131 : xfetch 274 131 = some (.bipush 6, 2) := by decide +kernel
theorem n_274_131 : ∀ l, xpr 274 131 l = l := xpr_no (by decide +kernel)
theorem r_274_133 : xfetch 274 133 = some (.if_icmp .ge 28, 3) := by decide +kernel
theorem n_274_133 : ∀ l, xpr 274 133 l = l := xpr_no (by decide +kernel)
theorem r_274_136 : xfetch 274 136 = some (.aload_n 0, 1) := by decide +kernel
theorem n_274_136 : ∀ l, xpr 274 136 l = l := xpr_no (by decide +kernel)
theorem r_274_137 : xfetch 274 137 = some (.iload_n 1, 1) := by decide +kernel
theorem n_274_137 : ∀ l, xpr 274 137 l = l := xpr_no (by decide +kernel)
theorem r_274_138 : xfetch 274 138 = some (.invokevirtual 225, 3) := by decide +kernel
theorem n_274_138 : ∀ l, xpr 274 138 l = l := xpr_no (by decide +kernel)
theorem r_274_141 : xfetch 274 141 = some (.ifCond .eq 20, 3) := by decide +kernel
theorem n_274_141 : ∀ l, xpr 274 141 l = l := xpr_no (by decide +kernel)
theorem r_274_144 : xfetch 274 144 = some (.aload_n 0, 1) := by decide +kernel
theorem n_274_144 : ∀ l, xpr 274 144 l = l := xpr_no (by decide +kernel)
theorem r_274_145 : xfetch 274 145 = some (.aload_n 0, 1) := by decide +kernel
theorem n_274_145 : ∀ l, xpr 274 145 l = l := xpr_no (by decide +kernel)
theorem r_274_146 : xfetch 274 146 = some (.iload_n 1, 1) := by decide +kernel
theorem n_274_146 : ∀ l, xpr 274 146 l = l := xpr_no (by decide +kernel)
theorem r_274_147 : xfetch 274 147 = some (.iload_n 2, 1) := by decide +kernel
theorem n_274_147 : ∀ l, xpr 274 147 l = l := xpr_no (by decide +kernel)
theorem r_274_148 : xfetch 274 148 = some (.invokevirtual 228, 3) := by decide +kernel
theorem n_274_148 : ∀ l, xpr 274 148 l = l := xpr_no (by decide +kernel)
theorem r_274_151 : xfetch 274 151 = some (.i2l, 1) := by decide +kernel
theorem n_274_151 : ∀ l, xpr 274 151 l = l := xpr_no (by decide +kernel)
theorem r_274_152 : xfetch 274 152 = some (.invokevirtual 308, 3) := by decide +kernel
theorem n_274_152 : ∀ l, xpr 274 152 l = l := xpr_no (by decide +kernel)
theorem r_274_155 : xfetch 274 155 = some (.iinc 2 1, 3) := by decide +kernel
theorem n_274_155 : ∀ l, xpr 274 155 l = l := xpr_no (by decide +kernel)
theorem r_274_158 : xfetch 274 158 = some (.goto (-28), 3) := by decide +kernel
theorem n_274_158 : ∀ l, xpr 274 158 l = l := xpr_no (by decide +kernel)
theorem r_274_161 : xfetch 274 161 = some (.iinc 1 1, 3) := by decide +kernel
theorem n_274_161 : ∀ l, xpr 274 161 l = l := xpr_no (by decide +kernel)
theorem r_274_164 : xfetch 274 164 = some (.goto (-41), 3) := by decide +kernel
theorem n_274_164 : ∀ l, xpr 274 164 l = l := xpr_no (by decide +kernel)
theorem r_274_167 : xfetch 274 167 = some (.iconst 0, 1) := by decide +kernel
theorem n_274_167 : ∀ l, xpr 274 167 l = l := xpr_no (by decide +kernel)
theorem r_274_168 : xfetch 274 168 = some (.istore_n 1, 1) := by decide +kernel
theorem n_274_168 : ∀ l, xpr 274 168 l = l := xpr_no (by decide +kernel)
theorem r_274_169 : xfetch 274 169 = some (.iload_n 1, 1) := by decide +kernel
theorem r_274_170 : xfetch 274 170 = some (.sipush 1024, 3) := by decide +kernel
theorem n_274_170 : ∀ l, xpr 274 170 l = l := xpr_no (by decide +kernel)
theorem r_274_173 : xfetch 274 173 = some (.if_icmp .ge 24, 3) := by decide +kernel
theorem n_274_173 : ∀ l, xpr 274 173 l = l := xpr_no (by decide +kernel)
theorem r_274_176 : xfetch 274 176 = some (.aload_n 0, 1) := by decide +kernel
theorem n_274_176 : ∀ l, xpr 274 176 l = l := xpr_no (by decide +kernel)
theorem r_274_177 : xfetch 274 177 = some (.aload_n 0, 1) := by decide +kernel
theorem n_274_177 : ∀ l, xpr 274 177 l = l := xpr_no (by decide +kernel)
theorem r_274_178 : xfetch 274 178 = some (.getfield 7, 3) := by decide +kernel
theorem n_274_178 : ∀ l, xpr 274 178 l = l := xpr_no (by decide +kernel)
theorem r_274_181 : xfetch 274 181 = some (.sipush 175, 3) := by decide +kernel
theorem n_274_181 : ∀ l, xpr 274 181 l = l := xpr_no (by decide +kernel)
theorem r_274_184 : xfetch 274 184 = some (.iload_n 1, 1) := by decide +kernel
theorem n_274_184 : ∀ l, xpr 274 184 l = l := xpr_no (by decide +kernel)
theorem r_274_185 : xfetch 274 185 = some (.iadd, 1) := by decide +kernel
theorem n_274_185 : ∀ l, xpr 274 185 l = l := xpr_no (by decide +kernel)
theorem r_274_186 : xfetch 274 186 = some (.iaload, 1) := by decide +kernel
theorem n_274_186 : ∀ l, xpr 274 186 l = l := xpr_no (by decide +kernel)
theorem r_274_187 : xfetch 274 187 = some (.i2l, 1) := by decide +kernel
theorem n_274_187 : ∀ l, xpr 274 187 l = l := xpr_no (by decide +kernel)
theorem r_274_188 : xfetch 274 188 = some (.invokevirtual 308, 3) := by decide +kernel
theorem n_274_188 : ∀ l, xpr 274 188 l = l := xpr_no (by decide +kernel)
theorem r_274_191 : xfetch 274 191 = some (.iinc 1 1, 3) := by decide +kernel
theorem n_274_191 : ∀ l, xpr 274 191 l = l := xpr_no (by decide +kernel)
theorem r_274_194 : xfetch 274 194 = some (.goto (-25), 3) := by decide +kernel
theorem n_274_194 : ∀ l, xpr 274 194 l = l := xpr_no (by decide +kernel)
theorem r_274_197 : xfetch 274 197 = some (.aload_n 0, 1) := by decide +kernel
theorem n_274_197 : ∀ l, xpr 274 197 l = l := xpr_no (by decide +kernel)
theorem r_274_198 : xfetch 274 198 = some (.aload_n 0, 1) := by decide +kernel
theorem n_274_198 : ∀ l, xpr 274 198 l = l := xpr_no (by decide +kernel)
theorem r_274_199 : xfetch 274 199 = some (.getfield 179, 3) := by decide +kernel
theorem n_274_199 : ∀ l, xpr 274 199 l = l := xpr_no (by decide +kernel)
theorem r_274_202 : xfetch 274 202 = some (.i2l, 1) := by decide +kernel
theorem n_274_202 : ∀ l, xpr 274 202 l = l := xpr_no (by decide +kernel)
theorem r_274_203 : xfetch 274 203 = some (.invokevirtual 308, 3) := by decide +kernel
theorem n_274_203 : ∀ l, xpr 274 203 l = l := xpr_no (by decide +kernel)
theorem r_274_206 : xfetch 274 206 = some (.aload_n 0, 1) := by decide +kernel
theorem n_274_206 : ∀ l, xpr 274 206 l = l := xpr_no (by decide +kernel)
theorem r_274_207 : xfetch 274 207 = some (.aload_n 0, 1) := by decide +kernel
theorem n_274_207 : ∀ l, xpr 274 207 l = l := xpr_no (by decide +kernel)
theorem r_274_208 : xfetch 274 208 = some (.getfield 81, 3) := by decide +kernel
theorem n_274_208 : ∀ l, xpr 274 208 l = l := xpr_no (by decide +kernel)
theorem r_274_211 : xfetch 274 211 = some (.i2l, 1) := by decide +kernel
theorem n_274_211 : ∀ l, xpr 274 211 l = l := xpr_no (by decide +kernel)
theorem r_274_212 : xfetch 274 212 = some (.invokevirtual 308, 3) := by decide +kernel
theorem n_274_212 : ∀ l, xpr 274 212 l = l := xpr_no (by decide +kernel)
theorem r_274_215 : xfetch 274 215 = some (.aload_n 0, 1) := by decide +kernel
theorem n_274_215 : ∀ l, xpr 274 215 l = l := xpr_no (by decide +kernel)
theorem r_274_216 : xfetch 274 216 = some (.getfield 302, 3) := by decide +kernel
theorem n_274_216 : ∀ l, xpr 274 216 l = l := xpr_no (by decide +kernel)
theorem r_274_219 : xfetch 274 219 = some (.lreturn, 1) := by decide +kernel
theorem n_274_219 : ∀ l, xpr 274 219 l = l := xpr_no (by decide +kernel)
theorem v_Model_digest_0 {S : Option (Nat × (Nat → Int32))} {s : zSt} {Q : Option Value ⊕ Nat → zSt → Prop}  
    (h : wp S 193 0 [(0, rf 252)] [] (zwI s 252 3 0) (fun o1 s1 => zkU (wp S 274 29 [(0, rf 252), (1, iv 0)] [] (zwL (zwL s1 252 29 1733) 252 29 ((31 * 1733) + (zi2l (zI s1 253 0)))) Q) (fun e1 => False) o1)) :
    wp S 274 0 [(0, rf 252)] [] s Q := by
  refine i_aload_n (a := 252) r_274_0 (n_274_0 _) rfl ?_
  refine i_iconst r_274_1 (n_274_1 _) ?_
  refine i_putI (a := 252) (x := 0) r_274_2 (n_274_2 _) rfl (.inl rfl) rfl lf_252 ⟨by omega, by omega⟩ ?_
  refine i_aload_n (a := 252) r_274_5 (n_274_5 _) rfl ?_
  refine wp_virt (b := 252) (rest := []) (Ls := [(0, rf 252)]) r_274_6 (n_274_6 _) rfl ⟨rfl, rfl, by decide, by decide⟩ rfl rfl lf_252 ⟨rfl, Nat.le_of_ble_eq_true rfl, Nat.le_of_ble_eq_true rfl⟩ rfl h ?_
  intro o1 s1 h
  rcases h with ⟨rfl, h⟩ | ⟨e1, rfl, h⟩
  · refine .inl ⟨none, rfl, ?_⟩
    refine i_aload_n (a := 252) r_274_9 (n_274_9 _) rfl ?_
    refine i_ldc2 r_274_10 (n_274_10 _) rfl ?_
    refine i_putL (a := 252) r_274_13 (n_274_13 _) rfl rfl rfl lf_252 ?_
    refine i_aload_n (a := 252) r_274_16 (n_274_16 _) rfl ?_
    refine i_aload_n (a := 252) r_274_17 (n_274_17 _) rfl ?_
    refine i_getR (a := 252) (b := 253) r_274_18 (n_274_18 _) rfl rfl rfl (by omega) lf_252 (by omega) ?_
    refine i_iconst r_274_21 (n_274_21 _) ?_
    have e4 : zI (zwL s1 252 29 1733) 253 0 = zI s1 253 0 := zI_wL _ _ _ _ _ _
    refine i_ialoade (a := 253) (j := 0) (x := zI s1 253 0) r_274_22 (n_274_22 _) lf_253 ⟨by omega, by omega⟩ (by omega) (by omega) e4 (fun q3 => ?_)
    refine i_i2l r_274_23 (n_274_23 _) ?_
    have e5 : zL (zwL s1 252 29 1733) 252 29 = 1733 := zL_eq
    refine wp_virt (b := 252) (rest := []) (Ls := [(0, rf 252), (1, .long (zi2l (zI s1 253 0)))]) r_274_24 (n_274_24 _) rfl ⟨rfl, rfl, by decide, by decide⟩ rfl rfl lf_252 ⟨rfl, Nat.le_of_ble_eq_true rfl, Nat.le_of_ble_eq_true rfl⟩ rfl K_Model_mix ?_
    rintro _ _ ⟨rfl, rfl⟩
    refine .inl ⟨none, rfl, ?_⟩
    (try rw [e5])
    show wp S 274 27 [(0, rf 252)] [] (zwL (zwL s1 252 29 1733) 252 29 ((31 * 1733) + (zi2l (zI s1 253 0)))) Q
    refine i_iconst r_274_27 (n_274_27 _) ?_
    refine i_istore_n (l' := [(0, rf 252), (1, iv 0)]) r_274_28 (n_274_28 _) (by decide) rfl ?_
    exact wp_pr (l' := [(0, rf 252), (1, iv 0)]) rfl h
  · skip
    exact h.elim
theorem v_Model_digest_29 {S : Option (Nat × (Nat → Int32))} {s : zSt} {Q : Option Value ⊕ Nat → zSt → Prop} {x1 : Int} 
    (h : rng x1 ∧ (((zI s 253 0) ≤ x1 → wp S 240 0 [(0, rf 252)] [] s (fun o4 s4 => zkI (fun y4 => wp S 274 123 [(0, rf 252), (1, iv 0)] [] (zwL s4 252 29 ((31 * (zL s4 252 29)) + (zi2l y4))) Q) (fun e4 => False) o4)) ∧ (x1 < (zI s 253 0) → wp S 274 41 [(0, rf 252), (1, iv x1), (2, iv 0)] [] s Q))) :
    wp S 274 29 [(0, rf 252), (1, iv x1)] [] s Q := by
  refine i_iload_n (x := x1) r_274_29 rfl rfl ?_
  refine i_aload_n (a := 252) r_274_30 (n_274_30 _) rfl ?_
  refine i_getR (a := 252) (b := 253) r_274_31 (n_274_31 _) rfl rfl rfl (by omega) lf_252 (by omega) ?_
  refine i_iconst r_274_34 (n_274_34 _) ?_
  refine i_iaload (a := 253) (j := 0) r_274_35 (n_274_35 _) lf_253 ⟨by omega, by omega⟩ (by omega) (by omega) (fun q1 => ?_)
  obtain ⟨g2, h⟩ := h
  refine i_icmp (t := 112) r_274_36 (n_274_36 _) rfl (T_ge g2 q1) (fun c3 => ?_) (fun c3 => ?_)
  · replace h := h.1 c3
    refine i_aload_n (a := 252) r_274_112 (n_274_112 _) rfl ?_
    refine i_aload_n (a := 252) r_274_113 (n_274_113 _) rfl ?_
    refine wp_virt (b := 252) (rest := [rf 252]) (Ls := [(0, rf 252)]) r_274_114 (n_274_114 _) rfl ⟨rfl, rfl, by decide, by decide⟩ rfl rfl lf_252 ⟨rfl, Nat.le_of_ble_eq_true rfl, Nat.le_of_ble_eq_true rfl⟩ rfl h ?_
    intro o4 s4 h
    rcases h with ⟨y4, q5, rfl, h⟩ | ⟨e4, rfl, h⟩
    · refine .inl ⟨some (iv y4), rfl, ?_⟩
      show wp S 274 117 [(0, rf 252), (1, iv x1)] [iv y4, rf 252] s4 Q
      refine i_i2l r_274_117 (n_274_117 _) ?_
      refine wp_virt (b := 252) (rest := []) (Ls := [(0, rf 252), (1, .long (zi2l y4))]) r_274_118 (n_274_118 _) rfl ⟨rfl, rfl, by decide, by decide⟩ rfl rfl lf_252 ⟨rfl, Nat.le_of_ble_eq_true rfl, Nat.le_of_ble_eq_true rfl⟩ rfl K_Model_mix ?_
      rintro _ _ ⟨rfl, rfl⟩
      refine .inl ⟨none, rfl, ?_⟩
      show wp S 274 121 [(0, rf 252), (1, iv x1)] [] (zwL s4 252 29 ((31 * (zL s4 252 29)) + (zi2l y4))) Q
      refine i_iconst r_274_121 (n_274_121 _) ?_
      refine i_istore_n (l' := [(0, rf 252), (1, iv 0)]) r_274_122 (n_274_122 _) (by decide) rfl ?_
      exact wp_pr (l' := [(0, rf 252), (1, iv 0)]) rfl h
    · skip
      exact h.elim
  · replace h := h.2 c3
    refine i_iconst r_274_39 (n_274_39 _) ?_
    refine i_istore_n (l' := [(0, rf 252), (1, iv x1), (2, iv 0)]) r_274_40 (n_274_40 _) (by decide) rfl ?_
    exact wp_pr (l' := [(0, rf 252), (1, iv x1), (2, iv 0)]) rfl h
theorem v_Model_digest_41 {S : Option (Nat × (Nat → Int32))} {s : zSt} {Q : Option Value ⊕ Nat → zSt → Prop} {x1 : Int} {x2 : Int} 
    (h : rng x2 ∧ ((6 ≤ x2 → wp S 274 66 [(0, rf 252), (1, iv x1), (2, iv 0)] [] s Q) ∧ (x2 < 6 → wp S 206 0 [(0, rf 252), (1, iv x1), (2, iv x2)] [] s (fun o3 s3 => zkI (fun y3 => wp S 274 41 [(0, rf 252), (1, iv x1), (2, iv (x2 + 1))] [] (zwL s3 252 29 ((31 * (zL s3 252 29)) + (zi2l y3))) Q) (fun e3 => False) o3)))) :
    wp S 274 41 [(0, rf 252), (1, iv x1), (2, iv x2)] [] s Q := by
  refine i_iload_n (x := x2) r_274_41 rfl rfl ?_
  refine i_bipush r_274_42 (n_274_42 _) rfl ?_
  obtain ⟨g1, h⟩ := h
  refine i_icmp (t := 64) r_274_44 (n_274_44 _) rfl (T_ge g1 ⟨by omega, by omega⟩) (fun c2 => ?_) (fun c2 => ?_)
  · replace h := h.1 c2
    refine i_iconst r_274_64 (n_274_64 _) ?_
    refine i_istore_n (l' := [(0, rf 252), (1, iv x1), (2, iv 0)]) r_274_65 (n_274_65 _) (by decide) rfl ?_
    exact wp_pr (l' := [(0, rf 252), (1, iv x1), (2, iv 0)]) rfl h
  · replace h := h.2 c2
    refine i_aload_n (a := 252) r_274_47 (n_274_47 _) rfl ?_
    refine i_aload_n (a := 252) r_274_48 (n_274_48 _) rfl ?_
    refine i_iload_n (x := x1) r_274_49 (n_274_49 _) rfl ?_
    refine i_iload_n (x := x2) r_274_50 (n_274_50 _) rfl ?_
    refine wp_virt (b := 252) (rest := [rf 252]) (Ls := [(0, rf 252), (1, iv x1), (2, iv x2)]) r_274_51 (n_274_51 _) rfl ⟨rfl, rfl, by decide, by decide⟩ rfl rfl lf_252 ⟨rfl, Nat.le_of_ble_eq_true rfl, Nat.le_of_ble_eq_true rfl⟩ rfl h ?_
    intro o3 s3 h
    rcases h with ⟨y3, q4, rfl, h⟩ | ⟨e3, rfl, h⟩
    · refine .inl ⟨some (iv y3), rfl, ?_⟩
      show wp S 274 54 [(0, rf 252), (1, iv x1), (2, iv x2)] [iv y3, rf 252] s3 Q
      refine i_i2l r_274_54 (n_274_54 _) ?_
      refine wp_virt (b := 252) (rest := []) (Ls := [(0, rf 252), (1, .long (zi2l y3))]) r_274_55 (n_274_55 _) rfl ⟨rfl, rfl, by decide, by decide⟩ rfl rfl lf_252 ⟨rfl, Nat.le_of_ble_eq_true rfl, Nat.le_of_ble_eq_true rfl⟩ rfl K_Model_mix ?_
      rintro _ _ ⟨rfl, rfl⟩
      refine .inl ⟨none, rfl, ?_⟩
      show wp S 274 58 [(0, rf 252), (1, iv x1), (2, iv x2)] [] (zwL s3 252 29 ((31 * (zL s3 252 29)) + (zi2l y3))) Q
      refine i_iinc (x := x2) (l' := [(0, rf 252), (1, iv x1), (2, iv (x2 + 1))]) r_274_58 (n_274_58 _) (by decide) rfl rfl ?_
      refine i_goto (t := 41) r_274_61 (n_274_61 _) rfl ?_
      exact wp_pr (l' := [(0, rf 252), (1, iv x1), (2, iv (x2 + 1))]) rfl h
    · skip
      exact h.elim
theorem v_Model_digest_66 {S : Option (Nat × (Nat → Int32))} {s : zSt} {Q : Option Value ⊕ Nat → zSt → Prop} {x1 : Int} {x2 : Int} 
    (h : (0 ≤ ((1 + (26 * x1)) + 1) ∧ ((1 + (26 * x1)) + 1) < 1199) ∧ (rng x2 ∧ (((zI s 253 ((1 + (26 * x1)) + 1)) ≤ x2 → wp S 274 29 [(0, rf 252), (1, iv (x1 + 1))] [] s Q) ∧ (x2 < (zI s 253 ((1 + (26 * x1)) + 1)) → wp S 274 77 [(0, rf 252), (1, iv x1), (2, iv x2), (3, iv 0)] [] s Q)))) :
    wp S 274 66 [(0, rf 252), (1, iv x1), (2, iv x2)] [] s Q := by
  refine i_iload_n (x := x2) r_274_66 rfl rfl ?_
  refine i_aload_n (a := 252) r_274_67 (n_274_67 _) rfl ?_
  refine i_iload_n (x := x1) r_274_68 (n_274_68 _) rfl ?_
  obtain ⟨g1, h⟩ := h
  refine wp_virt (b := 252) (rest := [iv x2]) (Ls := [(0, rf 252), (1, iv x1)]) r_274_69 (n_274_69 _) rfl ⟨rfl, rfl, by decide, by decide⟩ rfl rfl lf_252 ⟨rfl, Nat.le_of_ble_eq_true rfl, Nat.le_of_ble_eq_true rfl⟩ rfl (K_Model_fieldsOf g1) ?_
  rintro _ _ ⟨rfl, rfl⟩
  refine .inl ⟨some (iv (zI s 253 ((1 + (26 * x1)) + 1))), rfl, ?_⟩
  show wp S 274 72 [(0, rf 252), (1, iv x1), (2, iv x2)] [iv (zI s 253 ((1 + (26 * x1)) + 1)), iv x2] s Q
  refine wp_rd (a := 253) (j := ((1 + (26 * x1)) + 1)) (fun q3 => ?_)
  obtain ⟨g4, h⟩ := h
  refine i_icmp (t := 106) r_274_72 (n_274_72 _) rfl (T_ge g4 q3) (fun c5 => ?_) (fun c5 => ?_)
  · replace h := h.1 c5
    refine i_iinc (x := x1) (l' := [(0, rf 252), (1, iv (x1 + 1)), (2, iv x2)]) r_274_106 (n_274_106 _) (by decide) rfl rfl ?_
    refine i_goto (t := 29) r_274_109 (n_274_109 _) rfl ?_
    exact wp_pr (l' := [(0, rf 252), (1, iv (x1 + 1))]) rfl h
  · replace h := h.2 c5
    refine i_iconst r_274_75 (n_274_75 _) ?_
    refine i_istore_n (l' := [(0, rf 252), (1, iv x1), (2, iv x2), (3, iv 0)]) r_274_76 (n_274_76 _) (by decide) rfl ?_
    exact wp_pr (l' := [(0, rf 252), (1, iv x1), (2, iv x2), (3, iv 0)]) rfl h
theorem v_Model_digest_77 {S : Option (Nat × (Nat → Int32))} {s : zSt} {Q : Option Value ⊕ Nat → zSt → Prop} {x1 : Int} {x2 : Int} {x3 : Int} 
    (h : rng x3 ∧ ((5 ≤ x3 → wp S 274 66 [(0, rf 252), (1, iv x1), (2, iv (x2 + 1))] [] s Q) ∧ (x3 < 5 → wp S 209 0 [(0, rf 252), (1, iv x1), (2, iv x2), (3, iv x3)] [] s (fun o3 s3 => zkI (fun y3 => wp S 274 77 [(0, rf 252), (1, iv x1), (2, iv x2), (3, iv (x3 + 1))] [] (zwL s3 252 29 ((31 * (zL s3 252 29)) + (zi2l y3))) Q) (fun e3 => False) o3)))) :
    wp S 274 77 [(0, rf 252), (1, iv x1), (2, iv x2), (3, iv x3)] [] s Q := by
  refine i_iload_n (x := x3) r_274_77 rfl rfl ?_
  refine i_iconst r_274_78 (n_274_78 _) ?_
  obtain ⟨g1, h⟩ := h
  refine i_icmp (t := 100) r_274_79 (n_274_79 _) rfl (T_ge g1 ⟨by omega, by omega⟩) (fun c2 => ?_) (fun c2 => ?_)
  · replace h := h.1 c2
    refine i_iinc (x := x2) (l' := [(0, rf 252), (1, iv x1), (2, iv (x2 + 1)), (3, iv x3)]) r_274_100 (n_274_100 _) (by decide) rfl rfl ?_
    refine i_goto (t := 66) r_274_103 (n_274_103 _) rfl ?_
    exact wp_pr (l' := [(0, rf 252), (1, iv x1), (2, iv (x2 + 1))]) rfl h
  · replace h := h.2 c2
    refine i_aload_n (a := 252) r_274_82 (n_274_82 _) rfl ?_
    refine i_aload_n (a := 252) r_274_83 (n_274_83 _) rfl ?_
    refine i_iload_n (x := x1) r_274_84 (n_274_84 _) rfl ?_
    refine i_iload_n (x := x2) r_274_85 (n_274_85 _) rfl ?_
    refine i_iload_n (x := x3) r_274_86 (n_274_86 _) rfl ?_
    refine wp_virt (b := 252) (rest := [rf 252]) (Ls := [(0, rf 252), (1, iv x1), (2, iv x2), (3, iv x3)]) r_274_87 (n_274_87 _) rfl ⟨rfl, rfl, by decide, by decide⟩ rfl rfl lf_252 ⟨rfl, Nat.le_of_ble_eq_true rfl, Nat.le_of_ble_eq_true rfl⟩ rfl h ?_
    intro o3 s3 h
    rcases h with ⟨y3, q4, rfl, h⟩ | ⟨e3, rfl, h⟩
    · refine .inl ⟨some (iv y3), rfl, ?_⟩
      show wp S 274 90 [(0, rf 252), (1, iv x1), (2, iv x2), (3, iv x3)] [iv y3, rf 252] s3 Q
      refine i_i2l r_274_90 (n_274_90 _) ?_
      refine wp_virt (b := 252) (rest := []) (Ls := [(0, rf 252), (1, .long (zi2l y3))]) r_274_91 (n_274_91 _) rfl ⟨rfl, rfl, by decide, by decide⟩ rfl rfl lf_252 ⟨rfl, Nat.le_of_ble_eq_true rfl, Nat.le_of_ble_eq_true rfl⟩ rfl K_Model_mix ?_
      rintro _ _ ⟨rfl, rfl⟩
      refine .inl ⟨none, rfl, ?_⟩
      show wp S 274 94 [(0, rf 252), (1, iv x1), (2, iv x2), (3, iv x3)] [] (zwL s3 252 29 ((31 * (zL s3 252 29)) + (zi2l y3))) Q
      refine i_iinc (x := x3) (l' := [(0, rf 252), (1, iv x1), (2, iv x2), (3, iv (x3 + 1))]) r_274_94 (n_274_94 _) (by decide) rfl rfl ?_
      refine i_goto (t := 77) r_274_97 (n_274_97 _) rfl ?_
      exact wp_pr (l' := [(0, rf 252), (1, iv x1), (2, iv x2), (3, iv (x3 + 1))]) rfl h
    · skip
      exact h.elim
theorem v_Model_digest_123 {S : Option (Nat × (Nat → Int32))} {s : zSt} {Q : Option Value ⊕ Nat → zSt → Prop} {x1 : Int} 
    (h : rng x1 ∧ ((3 ≤ x1 → wp S 274 169 [(0, rf 252), (1, iv 0)] [] s Q) ∧ (x1 < 3 → wp S 274 130 [(0, rf 252), (1, iv x1), (2, iv 0)] [] s Q))) :
    wp S 274 123 [(0, rf 252), (1, iv x1)] [] s Q := by
  refine i_iload_n (x := x1) r_274_123 rfl rfl ?_
  refine i_iconst r_274_124 (n_274_124 _) ?_
  obtain ⟨g1, h⟩ := h
  refine i_icmp (t := 167) r_274_125 (n_274_125 _) rfl (T_ge g1 ⟨by omega, by omega⟩) (fun c2 => ?_) (fun c2 => ?_)
  · replace h := h.1 c2
    refine i_iconst r_274_167 (n_274_167 _) ?_
    refine i_istore_n (l' := [(0, rf 252), (1, iv 0)]) r_274_168 (n_274_168 _) (by decide) rfl ?_
    exact wp_pr (l' := [(0, rf 252), (1, iv 0)]) rfl h
  · replace h := h.2 c2
    refine i_iconst r_274_128 (n_274_128 _) ?_
    refine i_istore_n (l' := [(0, rf 252), (1, iv x1), (2, iv 0)]) r_274_129 (n_274_129 _) (by decide) rfl ?_
    exact wp_pr (l' := [(0, rf 252), (1, iv x1), (2, iv 0)]) rfl h
theorem v_Model_digest_130 {S : Option (Nat × (Nat → Int32))} {s : zSt} {Q : Option Value ⊕ Nat → zSt → Prop} {x1 : Int} {x2 : Int} 
    (h : rng x2 ∧ ((6 ≤ x2 → wp S 274 123 [(0, rf 252), (1, iv (x1 + 1))] [] s Q) ∧ (x2 < 6 → rng x1 ∧ ((¬ (0 ≤ x1 ∧ x1 ≤ 2 ∧ zI s 253 (157 + 6 * x1) ≠ -1) → wp S 274 123 [(0, rf 252), (1, iv (x1 + 1))] [] s Q) ∧ (0 ≤ x1 ∧ x1 ≤ 2 ∧ zI s 253 (157 + 6 * x1) ≠ -1 → (0 ≤ ((157 + (6 * x1)) + x2) ∧ ((157 + (6 * x1)) + x2) < 1199) ∧ (wp S 274 130 [(0, rf 252), (1, iv x1), (2, iv (x2 + 1))] [] (zwL s 252 29 ((31 * (zL s 252 29)) + (zi2l (zI s 253 ((157 + (6 * x1)) + x2))))) Q)))))) :
    wp S 274 130 [(0, rf 252), (1, iv x1), (2, iv x2)] [] s Q := by
  refine i_iload_n (x := x2) r_274_130 rfl rfl ?_
  refine i_bipush r_274_131 (n_274_131 _) rfl ?_
  obtain ⟨g1, h⟩ := h
  refine i_icmp (t := 161) r_274_133 (n_274_133 _) rfl (T_ge g1 ⟨by omega, by omega⟩) (fun c2 => ?_) (fun c2 => ?_)
  · replace h := h.1 c2
    refine i_iinc (x := x1) (l' := [(0, rf 252), (1, iv (x1 + 1)), (2, iv x2)]) r_274_161 (n_274_161 _) (by decide) rfl rfl ?_
    refine i_goto (t := 123) r_274_164 (n_274_164 _) rfl ?_
    exact wp_pr (l' := [(0, rf 252), (1, iv (x1 + 1))]) rfl h
  · replace h := h.2 c2
    refine i_aload_n (a := 252) r_274_136 (n_274_136 _) rfl ?_
    refine i_iload_n (x := x1) r_274_137 (n_274_137 _) rfl ?_
    obtain ⟨g3, h⟩ := h
    refine wp_virt (b := 252) (rest := []) (Ls := [(0, rf 252), (1, iv x1)]) r_274_138 (n_274_138 _) rfl ⟨rfl, rfl, by decide, by decide⟩ rfl rfl lf_252 ⟨rfl, Nat.le_of_ble_eq_true rfl, Nat.le_of_ble_eq_true rfl⟩ rfl (K_Model_isTable g3) ?_
    rintro _ _ ⟨rfl, rfl⟩
    refine .inl ⟨some (iv (bi (0 ≤ x1 ∧ x1 ≤ 2 ∧ zI s 253 (157 + 6 * x1) ≠ -1))), rfl, ?_⟩
    show wp S 274 141 [(0, rf 252), (1, iv x1), (2, iv x2)] [iv (bi (0 ≤ x1 ∧ x1 ≤ 2 ∧ zI s 253 (157 + 6 * x1) ≠ -1))] s Q
    refine i_if (t := 161) r_274_141 (n_274_141 _) rfl (TB_eq) (fun c5 => ?_) (fun c5 => ?_)
    · replace h := h.1 c5
      refine i_iinc (x := x1) (l' := [(0, rf 252), (1, iv (x1 + 1)), (2, iv x2)]) r_274_161 (n_274_161 _) (by decide) rfl rfl ?_
      refine i_goto (t := 123) r_274_164 (n_274_164 _) rfl ?_
      exact wp_pr (l' := [(0, rf 252), (1, iv (x1 + 1))]) rfl h
    · replace h := h.2 c5
      refine i_aload_n (a := 252) r_274_144 (n_274_144 _) rfl ?_
      refine i_aload_n (a := 252) r_274_145 (n_274_145 _) rfl ?_
      refine i_iload_n (x := x1) r_274_146 (n_274_146 _) rfl ?_
      refine i_iload_n (x := x2) r_274_147 (n_274_147 _) rfl ?_
      obtain ⟨g6, h⟩ := h
      refine wp_virt (b := 252) (rest := [rf 252]) (Ls := [(0, rf 252), (1, iv x1), (2, iv x2)]) r_274_148 (n_274_148 _) rfl ⟨rfl, rfl, by decide, by decide⟩ rfl rfl lf_252 ⟨rfl, Nat.le_of_ble_eq_true rfl, Nat.le_of_ble_eq_true rfl⟩ rfl (K_Model_of g6) ?_
      rintro _ _ ⟨rfl, rfl⟩
      refine .inl ⟨some (iv (zI s 253 ((157 + (6 * x1)) + x2))), rfl, ?_⟩
      show wp S 274 151 [(0, rf 252), (1, iv x1), (2, iv x2)] [iv (zI s 253 ((157 + (6 * x1)) + x2)), rf 252] s Q
      refine wp_rd (a := 253) (j := ((157 + (6 * x1)) + x2)) (fun q8 => ?_)
      refine i_i2l r_274_151 (n_274_151 _) ?_
      refine wp_virt (b := 252) (rest := []) (Ls := [(0, rf 252), (1, .long (zi2l (zI s 253 ((157 + (6 * x1)) + x2))))]) r_274_152 (n_274_152 _) rfl ⟨rfl, rfl, by decide, by decide⟩ rfl rfl lf_252 ⟨rfl, Nat.le_of_ble_eq_true rfl, Nat.le_of_ble_eq_true rfl⟩ rfl K_Model_mix ?_
      rintro _ _ ⟨rfl, rfl⟩
      refine .inl ⟨none, rfl, ?_⟩
      show wp S 274 155 [(0, rf 252), (1, iv x1), (2, iv x2)] [] (zwL s 252 29 ((31 * (zL s 252 29)) + (zi2l (zI s 253 ((157 + (6 * x1)) + x2))))) Q
      refine i_iinc (x := x2) (l' := [(0, rf 252), (1, iv x1), (2, iv (x2 + 1))]) r_274_155 (n_274_155 _) (by decide) rfl rfl ?_
      refine i_goto (t := 130) r_274_158 (n_274_158 _) rfl ?_
      exact wp_pr (l' := [(0, rf 252), (1, iv x1), (2, iv (x2 + 1))]) rfl h
theorem v_Model_digest_169 {S : Option (Nat × (Nat → Int32))} {s : zSt} {Q : Option Value ⊕ Nat → zSt → Prop} {x1 : Int} 
    (h : rng x1 ∧ ((1024 ≤ x1 → Q (rL ((31 * ((31 * (zL s 252 29)) + (zi2l (zI s 252 5)))) + (zi2l (zI s 252 2)))) (zwL (zwL s 252 29 ((31 * (zL s 252 29)) + (zi2l (zI s 252 5)))) 252 29 ((31 * ((31 * (zL s 252 29)) + (zi2l (zI s 252 5)))) + (zi2l (zI s 252 2))))) ∧ (x1 < 1024 → (0 ≤ (175 + x1) ∧ (175 + x1) < 1199) ∧ (wp S 274 169 [(0, rf 252), (1, iv (x1 + 1))] [] (zwL s 252 29 ((31 * (zL s 252 29)) + (zi2l (zI s 253 (175 + x1))))) Q)))) :
    wp S 274 169 [(0, rf 252), (1, iv x1)] [] s Q := by
  refine i_iload_n (x := x1) r_274_169 rfl rfl ?_
  refine i_sipush r_274_170 (n_274_170 _) rfl ?_
  obtain ⟨g1, h⟩ := h
  refine i_icmp (t := 197) r_274_173 (n_274_173 _) rfl (T_ge g1 ⟨by omega, by omega⟩) (fun c2 => ?_) (fun c2 => ?_)
  · replace h := h.1 c2
    refine i_aload_n (a := 252) r_274_197 (n_274_197 _) rfl ?_
    refine i_aload_n (a := 252) r_274_198 (n_274_198 _) rfl ?_
    refine i_getI (a := 252) r_274_199 (n_274_199 _) rfl (by decide) lf_252 (fun q3 => ?_)
    refine i_i2l r_274_202 (n_274_202 _) ?_
    refine wp_virt (b := 252) (rest := []) (Ls := [(0, rf 252), (1, .long (zi2l (zI s 252 5)))]) r_274_203 (n_274_203 _) rfl ⟨rfl, rfl, by decide, by decide⟩ rfl rfl lf_252 ⟨rfl, Nat.le_of_ble_eq_true rfl, Nat.le_of_ble_eq_true rfl⟩ rfl K_Model_mix ?_
    rintro _ _ ⟨rfl, rfl⟩
    refine .inl ⟨none, rfl, ?_⟩
    show wp S 274 206 [(0, rf 252), (1, iv x1)] [] (zwL s 252 29 ((31 * (zL s 252 29)) + (zi2l (zI s 252 5)))) Q
    refine i_aload_n (a := 252) r_274_206 (n_274_206 _) rfl ?_
    refine i_aload_n (a := 252) r_274_207 (n_274_207 _) rfl ?_
    have e6 : zI (zwL s 252 29 ((31 * (zL s 252 29)) + (zi2l (zI s 252 5)))) 252 2 = zI s 252 2 := zI_wL _ _ _ _ _ _
    refine i_getIe (a := 252) (x := zI s 252 2) r_274_208 (n_274_208 _) rfl (by decide) lf_252 e6 (fun q5 => ?_)
    refine i_i2l r_274_211 (n_274_211 _) ?_
    have e7 : zL (zwL s 252 29 ((31 * (zL s 252 29)) + (zi2l (zI s 252 5)))) 252 29 = (31 * (zL s 252 29)) + (zi2l (zI s 252 5)) := zL_eq
    refine wp_virt (b := 252) (rest := []) (Ls := [(0, rf 252), (1, .long (zi2l (zI s 252 2)))]) r_274_212 (n_274_212 _) rfl ⟨rfl, rfl, by decide, by decide⟩ rfl rfl lf_252 ⟨rfl, Nat.le_of_ble_eq_true rfl, Nat.le_of_ble_eq_true rfl⟩ rfl K_Model_mix ?_
    rintro _ _ ⟨rfl, rfl⟩
    refine .inl ⟨none, rfl, ?_⟩
    (try rw [e7])
    show wp S 274 215 [(0, rf 252), (1, iv x1)] [] (zwL (zwL s 252 29 ((31 * (zL s 252 29)) + (zi2l (zI s 252 5)))) 252 29 ((31 * ((31 * (zL s 252 29)) + (zi2l (zI s 252 5)))) + (zi2l (zI s 252 2)))) Q
    refine i_aload_n (a := 252) r_274_215 (n_274_215 _) rfl ?_
    have e9 : zL (zwL (zwL s 252 29 ((31 * (zL s 252 29)) + (zi2l (zI s 252 5)))) 252 29 ((31 * ((31 * (zL s 252 29)) + (zi2l (zI s 252 5)))) + (zi2l (zI s 252 2)))) 252 29 = (31 * ((31 * (zL s 252 29)) + (zi2l (zI s 252 5)))) + (zi2l (zI s 252 2)) := zL_eq
    refine i_getLe (a := 252) (x := (31 * ((31 * (zL s 252 29)) + (zi2l (zI s 252 5)))) + (zi2l (zI s 252 2))) r_274_216 (n_274_216 _) rfl rfl lf_252 e9 ?_
    exact i_lreturn r_274_219 (n_274_219 _) rfl h
  · replace h := h.2 c2
    refine i_aload_n (a := 252) r_274_176 (n_274_176 _) rfl ?_
    refine i_aload_n (a := 252) r_274_177 (n_274_177 _) rfl ?_
    refine i_getR (a := 252) (b := 253) r_274_178 (n_274_178 _) rfl rfl rfl (by omega) lf_252 (by omega) ?_
    refine i_sipush r_274_181 (n_274_181 _) rfl ?_
    refine i_iload_n (x := x1) r_274_184 (n_274_184 _) rfl ?_
    refine i_iadd r_274_185 (n_274_185 _) ?_
    obtain ⟨g10, h⟩ := h
    refine i_iaload (a := 253) (j := 175 + x1) r_274_186 (n_274_186 _) lf_253 ⟨by omega, by omega⟩ (by omega) (by omega) (fun q11 => ?_)
    refine i_i2l r_274_187 (n_274_187 _) ?_
    refine wp_virt (b := 252) (rest := []) (Ls := [(0, rf 252), (1, .long (zi2l (zI s 253 (175 + x1))))]) r_274_188 (n_274_188 _) rfl ⟨rfl, rfl, by decide, by decide⟩ rfl rfl lf_252 ⟨rfl, Nat.le_of_ble_eq_true rfl, Nat.le_of_ble_eq_true rfl⟩ rfl K_Model_mix ?_
    rintro _ _ ⟨rfl, rfl⟩
    refine .inl ⟨none, rfl, ?_⟩
    show wp S 274 191 [(0, rf 252), (1, iv x1)] [] (zwL s 252 29 ((31 * (zL s 252 29)) + (zi2l (zI s 253 (175 + x1))))) Q
    refine i_iinc (x := x1) (l' := [(0, rf 252), (1, iv (x1 + 1))]) r_274_191 (n_274_191 _) (by decide) rfl rfl ?_
    refine i_goto (t := 169) r_274_194 (n_274_194 _) rfl ?_
    exact wp_pr (l' := [(0, rf 252), (1, iv (x1 + 1))]) rfl h

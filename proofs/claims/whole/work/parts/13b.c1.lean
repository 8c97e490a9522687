theorem r_68_0 : xfetch 68 0 = some (.iload_n 2, 1) := by decide +kernel
theorem n_68_0 : ∀ l, xpr 68 0 l = l := xpr_no (by decide +kernel)
theorem r_68_1 : xfetch 68 1 = some (.ifCond .ge 5, 3) := by decide +kernel
theorem n_68_1 : ∀ l, xpr 68 1 l = l := xpr_no (by decide +kernel)
theorem r_68_4 : xfetch 68 4 = some (.iconst (-1), 1) := by decide +kernel
theorem n_68_4 : ∀ l, xpr 68 4 l = l := xpr_no (by decide +kernel)
theorem r_68_5 : xfetch 68 5 = some (.ireturn, 1) := by decide +kernel
theorem n_68_5 : ∀ l, xpr 68 5 l = l := xpr_no (by decide +kernel)
theorem r_68_6 : xfetch 68 6 = some (.lload_n 0, 1) := by decide +kernel
theorem n_68_6 : ∀ l, xpr 68 6 l = l := xpr_no (by decide +kernel)
theorem r_68_7 : xfetch 68 7 = some (.lstore_n 3, 1) := by decide +kernel
theorem n_68_7 : ∀ l, xpr 68 7 l = l := xpr_no (by decide +kernel)
theorem r_68_8 : xfetch 68 8 = some (.iload_n 2, 1) := by decide +kernel
theorem n_68_8 : ∀ l, xpr 68 8 l = l := xpr_no (by decide +kernel)
theorem r_68_9 : xfetch 68 9 = some (.istore 5, 2) := by decide +kernel
theorem n_68_9 : ∀ l, xpr 68 9 l = l := xpr_no (by decide +kernel)
theorem r_68_11 : xfetch 68 11 = some (.iconst 0, 1) := by decide +kernel
theorem n_68_11 : ∀ l, xpr 68 11 l = l := xpr_no (by decide +kernel)
theorem r_68_12 : xfetch 68 12 = some (.istore 6, 2) := by decide +kernel
theorem n_68_12 : ∀ l, xpr 68 12 l = l := xpr_no (by decide +kernel)
theorem r_68_14 : xfetch 68 14 = some (.iload 6, 2) := by decide +kernel
theorem r_68_16 : xfetch 68 16 = some (.bipush 6, 2) := by decide +kernel
theorem n_68_16 : ∀ l, xpr 68 16 l = l := xpr_no (by decide +kernel)
theorem r_68_18 : xfetch 68 18 = some (.if_icmp .ge 77, 3) := by decide +kernel
theorem n_68_18 : ∀ l, xpr 68 18 l = l := xpr_no (by decide +kernel)
theorem r_68_21 : xfetch 68 21 = some (.lload_n 3, 1) := by decide +kernel
theorem n_68_21 : ∀ l, xpr 68 21 l = l := xpr_no (by decide +kernel)
theorem r_68_22 : xfetch 68 22 = some (.lconst 0, 1) := by decide +kernel
theorem n_68_22 : ∀ l, xpr 68 22 l = l := xpr_no (by decide +kernel)
theorem r_68_23 : xfetch 68 23 = some (.lcmp, 1) := by decide +kernel
theorem n_68_23 : ∀ l, xpr 68 23 l = l := xpr_no (by decide +kernel)
theorem r_68_24 : xfetch 68 24 = some (.ifCond .eq 71, 3) := by decide +kernel
theorem n_68_24 : ∀ l, xpr 68 24 l = l := xpr_no (by decide +kernel)
theorem r_68_27 : xfetch 68 27 = some (.lload_n 3, 1) := by decide +kernel
theorem n_68_27 : ∀ l, xpr 68 27 l = l := xpr_no (by decide +kernel)
theorem r_68_28 : xfetch 68 28 = some (.ldc2_w 464, 3) := by decide +kernel
theorem n_68_28 : ∀ l, xpr 68 28 l = l := xpr_no (by decide +kernel)
theorem r_68_31 : xfetch 68 31 = some (.land, 1) := by decide +kernel
theorem n_68_31 : ∀ l, xpr 68 31 l = l := xpr_no (by decide +kernel)
theorem r_68_32 : xfetch 68 32 = some (.l2i, 1) := by decide +kernel
theorem n_68_32 : ∀ l, xpr 68 32 l = l := xpr_no (by decide +kernel)
theorem r_68_33 : xfetch 68 33 = some (.istore 7, 2) := by decide +kernel
theorem n_68_33 : ∀ l, xpr 68 33 l = l := xpr_no (by decide +kernel)
theorem r_68_35 : xfetch 68 35 = some (.lload_n 3, 1) := by decide +kernel
theorem n_68_35 : ∀ l, xpr 68 35 l = l := xpr_no (by decide +kernel)
theorem r_68_36 : xfetch 68 36 = some (.bipush 8, 2) := by decide +kernel
theorem n_68_36 : ∀ l, xpr 68 36 l = l := xpr_no (by decide +kernel)
theorem r_68_38 : xfetch 68 38 = some (.lshr, 1) := by decide +kernel
theorem n_68_38 : ∀ l, xpr 68 38 l = l := xpr_no (by decide +kernel)
theorem r_68_39 : xfetch 68 39 = some (.lstore_n 3, 1) := by decide +kernel
theorem n_68_39 : ∀ l, xpr 68 39 l = l := xpr_no (by decide +kernel)
theorem r_68_40 : xfetch 68 40 = some (.iload 7, 2) := by decide +kernel
theorem n_68_40 : ∀ l, xpr 68 40 l = l := xpr_no (by decide +kernel)
theorem r_68_42 : xfetch 68 42 = some (.bipush 8, 2) := by decide +kernel
theorem n_68_42 : ∀ l, xpr 68 42 l = l := xpr_no (by decide +kernel)
theorem r_68_44 : xfetch 68 44 = some (.irem, 1) := by decide +kernel
theorem n_68_44 : ∀ l, xpr 68 44 l = l := xpr_no (by decide +kernel)
theorem r_68_45 : xfetch 68 45 = some (.ifCond .ne 7, 3) := by decide +kernel
theorem n_68_45 : ∀ l, xpr 68 45 l = l := xpr_no (by decide +kernel)
theorem r_68_48 : xfetch 68 48 = some (.iconst 1, 1) := by decide +kernel
theorem n_68_48 : ∀ l, xpr 68 48 l = l := xpr_no (by decide +kernel)
theorem r_68_49 : xfetch 68 49 = some (.goto 4, 3) := by decide +kernel
theorem n_68_49 : ∀ l, xpr 68 49 l = l := xpr_no (by decide +kernel)
theorem r_68_52 : xfetch 68 52 = some (.iconst 4, 1) := by decide +kernel
theorem n_68_52 : ∀ l, xpr 68 52 l = l := xpr_no (by decide +kernel)
theorem r_68_53 : xfetch 68 53 = some (.lload_n 3, 1) := by decide +kernel
theorem n_68_53 : ∀ l, xpr 68 53 l = l := xpr_no (by decide +kernel)
theorem r_68_54 : xfetch 68 54 = some (.lconst 0, 1) := by decide +kernel
theorem n_68_54 : ∀ l, xpr 68 54 l = l := xpr_no (by decide +kernel)
theorem r_68_55 : xfetch 68 55 = some (.lcmp, 1) := by decide +kernel
theorem n_68_55 : ∀ l, xpr 68 55 l = l := xpr_no (by decide +kernel)
theorem r_68_56 : xfetch 68 56 = some (.ifCond .ne 7, 3) := by decide +kernel
theorem n_68_56 : ∀ l, xpr 68 56 l = l := xpr_no (by decide +kernel)
theorem r_68_59 : xfetch 68 59 = some (.iconst 0, 1) := by decide +kernel
theorem n_68_59 : ∀ l, xpr 68 59 l = l := xpr_no (by decide +kernel)
theorem r_68_60 : xfetch 68 60 = some (.goto 4, 3) := by decide +kernel
theorem n_68_60 : ∀ l, xpr 68 60 l = l := xpr_no (by decide +kernel)
theorem r_68_63 : xfetch 68 63 = some (.iconst 1, 1) := by decide +kernel
theorem n_68_63 : ∀ l, xpr 68 63 l = l := xpr_no (by decide +kernel)
theorem r_68_64 : xfetch 68 64 = some (.iadd, 1) := by decide +kernel
theorem n_68_64 : ∀ l, xpr 68 64 l = l := xpr_no (by decide +kernel)
theorem r_68_65 : xfetch 68 65 = some (.istore 8, 2) := by decide +kernel
theorem n_68_65 : ∀ l, xpr 68 65 l = l := xpr_no (by decide +kernel)
theorem r_68_67 : xfetch 68 67 = some (.iload 5, 2) := by decide +kernel
theorem n_68_67 : ∀ l, xpr 68 67 l = l := xpr_no (by decide +kernel)
theorem r_68_69 : xfetch 68 69 = some (.iload 8, 2) := by decide +kernel
theorem n_68_69 : ∀ l, xpr 68 69 l = l := xpr_no (by decide +kernel)
theorem r_68_71 : xfetch 68 71 = some (.if_icmp .ge 11, 3) := by decide +kernel
theorem n_68_71 : ∀ l, xpr 68 71 l = l := xpr_no (by decide +kernel)
theorem r_68_74 : xfetch 68 74 = some (.iload 7, 2) := by decide +kernel
theorem n_68_74 : ∀ l, xpr 68 74 l = l := xpr_no (by decide +kernel)
theorem r_68_76 : xfetch 68 76 = some (.iload 5, 2) := by decide +kernel
theorem n_68_76 : ∀ l, xpr 68 76 l = l := xpr_no (by decide +kernel)
theorem r_68_78 : xfetch 68 78 = some (.invokestatic 466, 3) := by decide +kernel
theorem n_68_78 : ∀ l, xpr 68 78 l = l := xpr_no (by decide +kernel)
theorem r_68_81 : xfetch 68 81 = some (.ireturn, 1) := by decide +kernel
theorem n_68_81 : ∀ l, xpr 68 81 l = l := xpr_no (by decide +kernel)
theorem r_68_82 : xfetch 68 82 = some (.iload 5, 2) := by decide +kernel
theorem n_68_82 : ∀ l, xpr 68 82 l = l := xpr_no (by decide +kernel)
theorem r_68_84 : xfetch 68 84 = some (.iload 8, 2) := by decide +kernel
theorem n_68_84 : ∀ l, xpr 68 84 l = l := xpr_no (by decide +kernel)
theorem r_68_86 : xfetch 68 86 = some (.isub, 1) := by decide +kernel
theorem n_68_86 : ∀ l, xpr 68 86 l = l := xpr_no (by decide +kernel)
theorem r_68_87 : xfetch 68 87 = some (.istore 5, 2) := by decide +kernel
theorem n_68_87 : ∀ l, xpr 68 87 l = l := xpr_no (by decide +kernel)
theorem r_68_89 : xfetch 68 89 = some (.iinc 6 1, 3) := by decide +kernel
theorem n_68_89 : ∀ l, xpr 68 89 l = l := xpr_no (by decide +kernel)
theorem r_68_92 : xfetch 68 92 = some (.goto (-78), 3) := by decide +kernel
theorem n_68_92 : ∀ l, xpr 68 92 l = l := xpr_no (by decide +kernel)
theorem r_68_95 : xfetch 68 95 = some (.iconst (-1), 1) := by decide +kernel
theorem n_68_95 : ∀ l, xpr 68 95 l = l := xpr_no (by decide +kernel)
theorem r_68_96 : xfetch 68 96 = some (.ireturn, 1) := by decide +kernel
theorem n_68_96 : ∀ l, xpr 68 96 l = l := xpr_no (by decide +kernel)
theorem v_RL_signOfPath_0 {S : Option (Nat × (Nat → Int32))} {s : zSt} {Q : Option Value ⊕ Nat → zSt → Prop} {u0 : Int64} {x2 : Int} 
    (h : rng x2 ∧ ((0 ≤ x2 → wp S 68 14 [(3, .long u0), (5, iv x2), (6, iv 0)] [] s Q) ∧ (x2 < 0 → Q (rI (-1)) s))) :
    wp S 68 0 [(0, .long u0), (2, iv x2)] [] s Q := by
  refine i_iload_n (x := x2) r_68_0 (n_68_0 _) rfl ?_
  obtain ⟨g1, h⟩ := h
  refine i_if (t := 6) r_68_1 (n_68_1 _) rfl (T_ge g1 ⟨by omega, by omega⟩) (fun c2 => ?_) (fun c2 => ?_)
  · replace h := h.1 c2
    refine i_lload_n (u := u0) r_68_6 (n_68_6 _) rfl ?_
    refine i_lstore_n (l' := [(0, .long u0), (2, iv x2), (3, .long u0)]) r_68_7 (n_68_7 _) (by decide) rfl ?_
    refine i_iload_n (x := x2) r_68_8 (n_68_8 _) rfl ?_
    refine i_istore (l' := [(0, .long u0), (2, iv x2), (3, .long u0), (5, iv x2)]) r_68_9 (n_68_9 _) (by decide) rfl ?_
    refine i_iconst r_68_11 (n_68_11 _) ?_
    refine i_istore (l' := [(0, .long u0), (2, iv x2), (3, .long u0), (5, iv x2), (6, iv 0)]) r_68_12 (n_68_12 _) (by decide) rfl ?_
    exact wp_pr (l' := [(3, .long u0), (5, iv x2), (6, iv 0)]) rfl h
  · replace h := h.2 c2
    refine i_iconst r_68_4 (n_68_4 _) ?_
    exact i_ireturn r_68_5 (n_68_5 _) rfl h
theorem v_RL_signOfPath_14 {S : Option (Nat × (Nat → Int32))} {s : zSt} {Q : Option Value ⊕ Nat → zSt → Prop} {u3 : Int64} {x5 : Int} {x6 : Int} 
    (h : rng x6 ∧ ((6 ≤ x6 → Q (rI (-1)) s) ∧ (x6 < 6 → ((zcmp u3 0) = 0 → Q (rI (-1)) s) ∧ ((zcmp u3 0) ≠ 0 → 0 ≤ (zl2i (u3 &&& 255)) ∧ (rng ((zl2i (u3 &&& 255)) % 8) ∧ ((((zl2i (u3 &&& 255)) % 8) ≠ 0 → ((zcmp (zshrL u3 8) 0) ≠ 0 → rng x5 ∧ (rng (4 + 1) ∧ (((4 + 1) ≤ x5 → wp S 68 14 [(3, .long (zshrL u3 8)), (5, iv (x5 - (4 + 1))), (6, iv (x6 + 1))] [] s Q) ∧ (x5 < (4 + 1) → wp S 69 0 [(0, iv (zl2i (u3 &&& 255))), (1, iv x5)] [] s (fun o11 s11 => zkI (fun y11 => Q (rI y11) s11) (fun e11 => False) o11))))) ∧ ((zcmp (zshrL u3 8) 0) = 0 → rng x5 ∧ (rng (4 + 0) ∧ (((4 + 0) ≤ x5 → wp S 68 14 [(3, .long (zshrL u3 8)), (5, iv (x5 - (4 + 0))), (6, iv (x6 + 1))] [] s Q) ∧ (x5 < (4 + 0) → wp S 69 0 [(0, iv (zl2i (u3 &&& 255))), (1, iv x5)] [] s (fun o16 s16 => zkI (fun y16 => Q (rI y16) s16) (fun e16 => False) o16)))))) ∧ (((zl2i (u3 &&& 255)) % 8) = 0 → ((zcmp (zshrL u3 8) 0) ≠ 0 → rng x5 ∧ (rng (1 + 1) ∧ (((1 + 1) ≤ x5 → wp S 68 14 [(3, .long (zshrL u3 8)), (5, iv (x5 - (1 + 1))), (6, iv (x6 + 1))] [] s Q) ∧ (x5 < (1 + 1) → wp S 69 0 [(0, iv (zl2i (u3 &&& 255))), (1, iv x5)] [] s (fun o22 s22 => zkI (fun y22 => Q (rI y22) s22) (fun e22 => False) o22))))) ∧ ((zcmp (zshrL u3 8) 0) = 0 → rng x5 ∧ (rng (1 + 0) ∧ (((1 + 0) ≤ x5 → wp S 68 14 [(3, .long (zshrL u3 8)), (5, iv (x5 - (1 + 0))), (6, iv (x6 + 1))] [] s Q) ∧ (x5 < (1 + 0) → wp S 69 0 [(0, iv (zl2i (u3 &&& 255))), (1, iv x5)] [] s (fun o27 s27 => zkI (fun y27 => Q (rI y27) s27) (fun e27 => False) o27)))))))))))) :
    wp S 68 14 [(3, .long u3), (5, iv x5), (6, iv x6)] [] s Q := by
  refine i_iload (x := x6) r_68_14 rfl rfl ?_
  refine i_bipush r_68_16 (n_68_16 _) rfl ?_
  obtain ⟨g1, h⟩ := h
  refine i_icmp (t := 95) r_68_18 (n_68_18 _) rfl (T_ge g1 ⟨by omega, by omega⟩) (fun c2 => ?_) (fun c2 => ?_)
  · replace h := h.1 c2
    refine i_iconst r_68_95 (n_68_95 _) ?_
    exact i_ireturn r_68_96 (n_68_96 _) rfl h
  · replace h := h.2 c2
    refine i_lload_n (u := u3) r_68_21 (n_68_21 _) rfl ?_
    refine i_lconst r_68_22 (n_68_22 _) ?_
    refine i_lcmp r_68_23 (n_68_23 _) ?_
    refine i_if (t := 95) r_68_24 (n_68_24 _) rfl (T_eq (zcmp_rng _ _) ⟨by omega, by omega⟩) (fun c3 => ?_) (fun c3 => ?_)
    · replace h := h.1 c3
      refine i_iconst r_68_95 (n_68_95 _) ?_
      exact i_ireturn r_68_96 (n_68_96 _) rfl h
    · replace h := h.2 c3
      refine i_lload_n (u := u3) r_68_27 (n_68_27 _) rfl ?_
      refine i_ldc2 r_68_28 (n_68_28 _) rfl ?_
      refine i_land r_68_31 (n_68_31 _) ?_
      refine i_l2i r_68_32 (n_68_32 _) ?_
      refine i_istore (l' := [(3, .long u3), (5, iv x5), (6, iv x6), (7, iv (zl2i (u3 &&& 255)))]) r_68_33 (n_68_33 _) (by decide) rfl ?_
      refine i_lload_n (u := u3) r_68_35 (n_68_35 _) rfl ?_
      refine i_bipush r_68_36 (n_68_36 _) rfl ?_
      refine i_lshr r_68_38 (n_68_38 _) ?_
      refine i_lstore_n (l' := [(3, .long (zshrL u3 8)), (5, iv x5), (6, iv x6), (7, iv (zl2i (u3 &&& 255)))]) r_68_39 (n_68_39 _) (by decide) rfl ?_
      refine i_iload (x := zl2i (u3 &&& 255)) r_68_40 (n_68_40 _) rfl ?_
      refine i_bipush r_68_42 (n_68_42 _) rfl ?_
      obtain ⟨g4, h⟩ := h
      refine i_irem r_68_44 (n_68_44 _) (rng_to _) ⟨by omega, by omega⟩ (by omega) (by omega) ?_
      obtain ⟨g5, h⟩ := h
      refine i_if (t := 52) r_68_45 (n_68_45 _) rfl (T_ne g5 ⟨by omega, by omega⟩) (fun c6 => ?_) (fun c6 => ?_)
      · replace h := h.1 c6
        refine i_iconst r_68_52 (n_68_52 _) ?_
        refine i_lload_n (u := zshrL u3 8) r_68_53 (n_68_53 _) rfl ?_
        refine i_lconst r_68_54 (n_68_54 _) ?_
        refine i_lcmp r_68_55 (n_68_55 _) ?_
        refine i_if (t := 63) r_68_56 (n_68_56 _) rfl (T_ne (zcmp_rng _ _) ⟨by omega, by omega⟩) (fun c7 => ?_) (fun c7 => ?_)
        · replace h := h.1 c7
          refine i_iconst r_68_63 (n_68_63 _) ?_
          refine i_iadd r_68_64 (n_68_64 _) ?_
          refine i_istore (l' := [(3, .long (zshrL u3 8)), (5, iv x5), (6, iv x6), (7, iv (zl2i (u3 &&& 255))), (8, iv (4 + 1))]) r_68_65 (n_68_65 _) (by decide) rfl ?_
          refine i_iload (x := x5) r_68_67 (n_68_67 _) rfl ?_
          refine i_iload (x := 4 + 1) r_68_69 (n_68_69 _) rfl ?_
          obtain ⟨g8, h⟩ := h
          obtain ⟨g9, h⟩ := h
          refine i_icmp (t := 82) r_68_71 (n_68_71 _) rfl (T_ge g8 g9) (fun c10 => ?_) (fun c10 => ?_)
          · replace h := h.1 c10
            refine i_iload (x := x5) r_68_82 (n_68_82 _) rfl ?_
            refine i_iload (x := 4 + 1) r_68_84 (n_68_84 _) rfl ?_
            refine i_isub r_68_86 (n_68_86 _) ?_
            refine i_istore (l' := [(3, .long (zshrL u3 8)), (5, iv (x5 - (4 + 1))), (6, iv x6), (7, iv (zl2i (u3 &&& 255))), (8, iv (4 + 1))]) r_68_87 (n_68_87 _) (by decide) rfl ?_
            refine i_iinc (x := x6) (l' := [(3, .long (zshrL u3 8)), (5, iv (x5 - (4 + 1))), (6, iv (x6 + 1)), (7, iv (zl2i (u3 &&& 255))), (8, iv (4 + 1))]) r_68_89 (n_68_89 _) (by decide) rfl rfl ?_
            refine i_goto (t := 14) r_68_92 (n_68_92 _) rfl ?_
            exact wp_pr (l' := [(3, .long (zshrL u3 8)), (5, iv (x5 - (4 + 1))), (6, iv (x6 + 1))]) rfl h
          · replace h := h.2 c10
            refine i_iload (x := zl2i (u3 &&& 255)) r_68_74 (n_68_74 _) rfl ?_
            refine i_iload (x := x5) r_68_76 (n_68_76 _) rfl ?_
            refine wp_stat (rest := []) (Ls := [(0, iv (zl2i (u3 &&& 255))), (1, iv x5)]) r_68_78 (n_68_78 _) rfl ⟨rfl, by decide, by decide, by decide⟩ rfl rfl ⟨rfl, Nat.le_of_ble_eq_true rfl, Nat.le_of_ble_eq_true rfl⟩ rfl h ?_
            intro o11 s11 h
            rcases h with ⟨y11, q12, rfl, h⟩ | ⟨e11, rfl, h⟩
            · refine .inl ⟨some (iv y11), rfl, ?_⟩
              show wp S 68 81 [(3, .long (zshrL u3 8)), (5, iv x5), (6, iv x6), (7, iv (zl2i (u3 &&& 255))), (8, iv (4 + 1))] [iv y11] s11 Q
              exact i_ireturn r_68_81 (n_68_81 _) rfl h
            · skip
              exact h.elim
        · replace h := h.2 c7
          refine i_iconst r_68_59 (n_68_59 _) ?_
          refine i_goto (t := 64) r_68_60 (n_68_60 _) rfl ?_
          refine i_iadd r_68_64 (n_68_64 _) ?_
          refine i_istore (l' := [(3, .long (zshrL u3 8)), (5, iv x5), (6, iv x6), (7, iv (zl2i (u3 &&& 255))), (8, iv (4 + 0))]) r_68_65 (n_68_65 _) (by decide) rfl ?_
          refine i_iload (x := x5) r_68_67 (n_68_67 _) rfl ?_
          refine i_iload (x := 4 + 0) r_68_69 (n_68_69 _) rfl ?_
          obtain ⟨g13, h⟩ := h
          obtain ⟨g14, h⟩ := h
          refine i_icmp (t := 82) r_68_71 (n_68_71 _) rfl (T_ge g13 g14) (fun c15 => ?_) (fun c15 => ?_)
          · replace h := h.1 c15
            refine i_iload (x := x5) r_68_82 (n_68_82 _) rfl ?_
            refine i_iload (x := 4 + 0) r_68_84 (n_68_84 _) rfl ?_
            refine i_isub r_68_86 (n_68_86 _) ?_
            refine i_istore (l' := [(3, .long (zshrL u3 8)), (5, iv (x5 - (4 + 0))), (6, iv x6), (7, iv (zl2i (u3 &&& 255))), (8, iv (4 + 0))]) r_68_87 (n_68_87 _) (by decide) rfl ?_
            refine i_iinc (x := x6) (l' := [(3, .long (zshrL u3 8)), (5, iv (x5 - (4 + 0))), (6, iv (x6 + 1)), (7, iv (zl2i (u3 &&& 255))), (8, iv (4 + 0))]) r_68_89 (n_68_89 _) (by decide) rfl rfl ?_
            refine i_goto (t := 14) r_68_92 (n_68_92 _) rfl ?_
            exact wp_pr (l' := [(3, .long (zshrL u3 8)), (5, iv (x5 - (4 + 0))), (6, iv (x6 + 1))]) rfl h
          · replace h := h.2 c15
            refine i_iload (x := zl2i (u3 &&& 255)) r_68_74 (n_68_74 _) rfl ?_
            refine i_iload (x := x5) r_68_76 (n_68_76 _) rfl ?_
            refine wp_stat (rest := []) (Ls := [(0, iv (zl2i (u3 &&& 255))), (1, iv x5)]) r_68_78 (n_68_78 _) rfl ⟨rfl, by decide, by decide, by decide⟩ rfl rfl ⟨rfl, Nat.le_of_ble_eq_true rfl, Nat.le_of_ble_eq_true rfl⟩ rfl h ?_
            intro o16 s16 h
            rcases h with ⟨y16, q17, rfl, h⟩ | ⟨e16, rfl, h⟩
            · refine .inl ⟨some (iv y16), rfl, ?_⟩
              show wp S 68 81 [(3, .long (zshrL u3 8)), (5, iv x5), (6, iv x6), (7, iv (zl2i (u3 &&& 255))), (8, iv (4 + 0))] [iv y16] s16 Q
              exact i_ireturn r_68_81 (n_68_81 _) rfl h
            · skip
              exact h.elim
      · replace h := h.2 c6
        refine i_iconst r_68_48 (n_68_48 _) ?_
        refine i_goto (t := 53) r_68_49 (n_68_49 _) rfl ?_
        refine i_lload_n (u := zshrL u3 8) r_68_53 (n_68_53 _) rfl ?_
        refine i_lconst r_68_54 (n_68_54 _) ?_
        refine i_lcmp r_68_55 (n_68_55 _) ?_
        refine i_if (t := 63) r_68_56 (n_68_56 _) rfl (T_ne (zcmp_rng _ _) ⟨by omega, by omega⟩) (fun c18 => ?_) (fun c18 => ?_)
        · replace h := h.1 c18
          refine i_iconst r_68_63 (n_68_63 _) ?_
          refine i_iadd r_68_64 (n_68_64 _) ?_
          refine i_istore (l' := [(3, .long (zshrL u3 8)), (5, iv x5), (6, iv x6), (7, iv (zl2i (u3 &&& 255))), (8, iv (1 + 1))]) r_68_65 (n_68_65 _) (by decide) rfl ?_
          refine i_iload (x := x5) r_68_67 (n_68_67 _) rfl ?_
          refine i_iload (x := 1 + 1) r_68_69 (n_68_69 _) rfl ?_
          obtain ⟨g19, h⟩ := h
          obtain ⟨g20, h⟩ := h
          refine i_icmp (t := 82) r_68_71 (n_68_71 _) rfl (T_ge g19 g20) (fun c21 => ?_) (fun c21 => ?_)
          · replace h := h.1 c21
            refine i_iload (x := x5) r_68_82 (n_68_82 _) rfl ?_
            refine i_iload (x := 1 + 1) r_68_84 (n_68_84 _) rfl ?_
            refine i_isub r_68_86 (n_68_86 _) ?_
            refine i_istore (l' := [(3, .long (zshrL u3 8)), (5, iv (x5 - (1 + 1))), (6, iv x6), (7, iv (zl2i (u3 &&& 255))), (8, iv (1 + 1))]) r_68_87 (n_68_87 _) (by decide) rfl ?_
            refine i_iinc (x := x6) (l' := [(3, .long (zshrL u3 8)), (5, iv (x5 - (1 + 1))), (6, iv (x6 + 1)), (7, iv (zl2i (u3 &&& 255))), (8, iv (1 + 1))]) r_68_89 (n_68_89 _) (by decide) rfl rfl ?_
            refine i_goto (t := 14) r_68_92 (n_68_92 _) rfl ?_
            exact wp_pr (l' := [(3, .long (zshrL u3 8)), (5, iv (x5 - (1 + 1))), (6, iv (x6 + 1))]) rfl h
          · replace h := h.2 c21
            refine i_iload (x := zl2i (u3 &&& 255)) r_68_74 (n_68_74 _) rfl ?_
            refine i_iload (x := x5) r_68_76 (n_68_76 _) rfl ?_
            refine wp_stat (rest := []) (Ls := [(0, iv (zl2i (u3 &&& 255))), (1, iv x5)]) r_68_78 (n_68_78 _) rfl ⟨rfl, by decide, by decide, by decide⟩ rfl rfl ⟨rfl, Nat.le_of_ble_eq_true rfl, Nat.le_of_ble_eq_true rfl⟩ rfl h ?_
            intro o22 s22 h
            rcases h with ⟨y22, q23, rfl, h⟩ | ⟨e22, rfl, h⟩
            · refine .inl ⟨some (iv y22), rfl, ?_⟩
              show wp S 68 81 [(3, .long (zshrL u3 8)), (5, iv x5), (6, iv x6), (7, iv (zl2i (u3 &&& 255))), (8, iv (1 + 1))] [iv y22] s22 Q
              exact i_ireturn r_68_81 (n_68_81 _) rfl h
            · skip
              exact h.elim
        · replace h := h.2 c18
          refine i_iconst r_68_59 (n_68_59 _) ?_
          refine i_goto (t := 64) r_68_60 (n_68_60 _) rfl ?_
          refine i_iadd r_68_64 (n_68_64 _) ?_
          refine i_istore (l' := [(3, .long (zshrL u3 8)), (5, iv x5), (6, iv x6), (7, iv (zl2i (u3 &&& 255))), (8, iv (1 + 0))]) r_68_65 (n_68_65 _) (by decide) rfl ?_
          refine i_iload (x := x5) r_68_67 (n_68_67 _) rfl ?_
          refine i_iload (x := 1 + 0) r_68_69 (n_68_69 _) rfl ?_
          obtain ⟨g24, h⟩ := h
          obtain ⟨g25, h⟩ := h
          refine i_icmp (t := 82) r_68_71 (n_68_71 _) rfl (T_ge g24 g25) (fun c26 => ?_) (fun c26 => ?_)
          · replace h := h.1 c26
            refine i_iload (x := x5) r_68_82 (n_68_82 _) rfl ?_
            refine i_iload (x := 1 + 0) r_68_84 (n_68_84 _) rfl ?_
            refine i_isub r_68_86 (n_68_86 _) ?_
            refine i_istore (l' := [(3, .long (zshrL u3 8)), (5, iv (x5 - (1 + 0))), (6, iv x6), (7, iv (zl2i (u3 &&& 255))), (8, iv (1 + 0))]) r_68_87 (n_68_87 _) (by decide) rfl ?_
            refine i_iinc (x := x6) (l' := [(3, .long (zshrL u3 8)), (5, iv (x5 - (1 + 0))), (6, iv (x6 + 1)), (7, iv (zl2i (u3 &&& 255))), (8, iv (1 + 0))]) r_68_89 (n_68_89 _) (by decide) rfl rfl ?_
            refine i_goto (t := 14) r_68_92 (n_68_92 _) rfl ?_
            exact wp_pr (l' := [(3, .long (zshrL u3 8)), (5, iv (x5 - (1 + 0))), (6, iv (x6 + 1))]) rfl h
          · replace h := h.2 c26
            refine i_iload (x := zl2i (u3 &&& 255)) r_68_74 (n_68_74 _) rfl ?_
            refine i_iload (x := x5) r_68_76 (n_68_76 _) rfl ?_
            refine wp_stat (rest := []) (Ls := [(0, iv (zl2i (u3 &&& 255))), (1, iv x5)]) r_68_78 (n_68_78 _) rfl ⟨rfl, by decide, by decide, by decide⟩ rfl rfl ⟨rfl, Nat.le_of_ble_eq_true rfl, Nat.le_of_ble_eq_true rfl⟩ rfl h ?_
            intro o27 s27 h
            rcases h with ⟨y27, q28, rfl, h⟩ | ⟨e27, rfl, h⟩
            · refine .inl ⟨some (iv y27), rfl, ?_⟩
              show wp S 68 81 [(3, .long (zshrL u3 8)), (5, iv x5), (6, iv x6), (7, iv (zl2i (u3 &&& 255))), (8, iv (1 + 0))] [iv y27] s27 Q
              exact i_ireturn r_68_81 (n_68_81 _) rfl h
            · skip
              exact h.elim
theorem r_69_0 : xfetch 69 0 = some (.iload_n 1, 1) := by decide +kernel
theorem n_69_0 : ∀ l, xpr 69 0 l = l := xpr_no (by decide +kernel)
theorem r_69_1 : xfetch 69 1 = some (.ifCond .ne 11, 3) := by decide +kernel
theorem n_69_1 : ∀ l, xpr 69 1 l = l := xpr_no (by decide +kernel)
theorem r_69_4 : xfetch 69 4 = some (.bipush 96, 2) := by decide +kernel
theorem n_69_4 : ∀ l, xpr 69 4 l = l := xpr_no (by decide +kernel)
theorem r_69_6 : xfetch 69 6 = some (.iload_n 0, 1) := by decide +kernel
theorem n_69_6 : ∀ l, xpr 69 6 l = l := xpr_no (by decide +kernel)
theorem r_69_7 : xfetch 69 7 = some (.bipush 8, 2) := by decide +kernel
theorem n_69_7 : ∀ l, xpr 69 7 l = l := xpr_no (by decide +kernel)
theorem r_69_9 : xfetch 69 9 = some (.idiv, 1) := by decide +kernel
theorem n_69_9 : ∀ l, xpr 69 9 l = l := xpr_no (by decide +kernel)
theorem r_69_10 : xfetch 69 10 = some (.iadd, 1) := by decide +kernel
theorem n_69_10 : ∀ l, xpr 69 10 l = l := xpr_no (by decide +kernel)
theorem r_69_11 : xfetch 69 11 = some (.ireturn, 1) := by decide +kernel
theorem n_69_11 : ∀ l, xpr 69 11 l = l := xpr_no (by decide +kernel)
theorem r_69_12 : xfetch 69 12 = some (.iload_n 0, 1) := by decide +kernel
theorem n_69_12 : ∀ l, xpr 69 12 l = l := xpr_no (by decide +kernel)
theorem r_69_13 : xfetch 69 13 = some (.bipush 8, 2) := by decide +kernel
theorem n_69_13 : ∀ l, xpr 69 13 l = l := xpr_no (by decide +kernel)
theorem r_69_15 : xfetch 69 15 = some (.irem, 1) := by decide +kernel
theorem n_69_15 : ∀ l, xpr 69 15 l = l := xpr_no (by decide +kernel)
theorem r_69_16 : xfetch 69 16 = some (.ifCond .ne 6, 3) := by decide +kernel
theorem n_69_16 : ∀ l, xpr 69 16 l = l := xpr_no (by decide +kernel)
theorem r_69_19 : xfetch 69 19 = some (.bipush 46, 2) := by decide +kernel
theorem n_69_19 : ∀ l, xpr 69 19 l = l := xpr_no (by decide +kernel)
theorem r_69_21 : xfetch 69 21 = some (.ireturn, 1) := by decide +kernel
theorem n_69_21 : ∀ l, xpr 69 21 l = l := xpr_no (by decide +kernel)
theorem r_69_22 : xfetch 69 22 = some (.iload_n 1, 1) := by decide +kernel
theorem n_69_22 : ∀ l, xpr 69 22 l = l := xpr_no (by decide +kernel)
theorem r_69_23 : xfetch 69 23 = some (.tableswitch 39 1 3 #[25, 28, 36], 25) := by decide +kernel
theorem n_69_23 : ∀ l, xpr 69 23 l = l := xpr_no (by decide +kernel)
theorem r_69_48 : xfetch 69 48 = some (.bipush 91, 2) := by decide +kernel
theorem n_69_48 : ∀ l, xpr 69 48 l = l := xpr_no (by decide +kernel)
theorem r_69_50 : xfetch 69 50 = some (.ireturn, 1) := by decide +kernel
theorem n_69_50 : ∀ l, xpr 69 50 l = l := xpr_no (by decide +kernel)
theorem r_69_51 : xfetch 69 51 = some (.bipush 47, 2) := by decide +kernel
theorem n_69_51 : ∀ l, xpr 69 51 l = l := xpr_no (by decide +kernel)
theorem r_69_53 : xfetch 69 53 = some (.iload_n 0, 1) := by decide +kernel
theorem n_69_53 : ∀ l, xpr 69 53 l = l := xpr_no (by decide +kernel)
theorem r_69_54 : xfetch 69 54 = some (.bipush 8, 2) := by decide +kernel
theorem n_69_54 : ∀ l, xpr 69 54 l = l := xpr_no (by decide +kernel)
theorem r_69_56 : xfetch 69 56 = some (.irem, 1) := by decide +kernel
theorem n_69_56 : ∀ l, xpr 69 56 l = l := xpr_no (by decide +kernel)
theorem r_69_57 : xfetch 69 57 = some (.iadd, 1) := by decide +kernel
theorem n_69_57 : ∀ l, xpr 69 57 l = l := xpr_no (by decide +kernel)
theorem r_69_58 : xfetch 69 58 = some (.ireturn, 1) := by decide +kernel
theorem n_69_58 : ∀ l, xpr 69 58 l = l := xpr_no (by decide +kernel)
theorem r_69_59 : xfetch 69 59 = some (.bipush 93, 2) := by decide +kernel
theorem n_69_59 : ∀ l, xpr 69 59 l = l := xpr_no (by decide +kernel)
theorem r_69_61 : xfetch 69 61 = some (.ireturn, 1) := by decide +kernel
theorem n_69_61 : ∀ l, xpr 69 61 l = l := xpr_no (by decide +kernel)
theorem r_69_62 : xfetch 69 62 = some (.bipush 46, 2) := by decide +kernel
theorem n_69_62 : ∀ l, xpr 69 62 l = l := xpr_no (by decide +kernel)
theorem r_69_64 : xfetch 69 64 = some (.ireturn, 1) := by decide +kernel
theorem n_69_64 : ∀ l, xpr 69 64 l = l := xpr_no (by decide +kernel)
theorem v_RL_signOfLevel_0 {S : Option (Nat × (Nat → Int32))} {s : zSt} {Q : Option Value ⊕ Nat → zSt → Prop} {x0 : Int} {x1 : Int} 
    (h : rng x1 ∧ ((x1 ≠ 0 → rng x0 ∧ (0 ≤ x0 ∧ (rng (x0 % 8) ∧ (((x0 % 8) ≠ 0 → (x1 = 1 → Q (rI 91) s) ∧ ((x1 = 2 → Q (rI (47 + (x0 % 8))) s) ∧ ((x1 = 3 → Q (rI 93) s) ∧ (((x1 < 1 ∨ 3 < x1) → Q (rI 46) s))))) ∧ ((x0 % 8) = 0 → Q (rI 46) s))))) ∧ (x1 = 0 → rng x0 ∧ (0 ≤ x0 ∧ (Q (rI (96 + (x0 / 8))) s))))) :
    wp S 69 0 [(0, iv x0), (1, iv x1)] [] s Q := by
  refine i_iload_n (x := x1) r_69_0 (n_69_0 _) rfl ?_
  obtain ⟨g1, h⟩ := h
  refine i_if (t := 12) r_69_1 (n_69_1 _) rfl (T_ne g1 ⟨by omega, by omega⟩) (fun c2 => ?_) (fun c2 => ?_)
  · replace h := h.1 c2
    refine i_iload_n (x := x0) r_69_12 (n_69_12 _) rfl ?_
    refine i_bipush r_69_13 (n_69_13 _) rfl ?_
    obtain ⟨g3, h⟩ := h
    obtain ⟨g4, h⟩ := h
    refine i_irem r_69_15 (n_69_15 _) g3 ⟨by omega, by omega⟩ (by omega) (by omega) ?_
    obtain ⟨g5, h⟩ := h
    refine i_if (t := 22) r_69_16 (n_69_16 _) rfl (T_ne g5 ⟨by omega, by omega⟩) (fun c6 => ?_) (fun c6 => ?_)
    · replace h := h.1 c6
      refine i_iload_n (x := x1) r_69_22 (n_69_22 _) rfl ?_
      rcases (by omega : x1 = 1 ∨ x1 = 2 ∨ x1 = 3 ∨ (x1 < 1 ∨ 3 < x1)) with c7 | c7 | c7 | c7
      · replace h := h.1 c7
        refine i_sw_hit (kk := 0) (t := 48) r_69_23 (n_69_23 _) (by omega) g1 (by omega) rfl rfl ?_
        refine i_bipush r_69_48 (n_69_48 _) rfl ?_
        exact i_ireturn r_69_50 (n_69_50 _) rfl h
      · replace h := h.2.1 c7
        refine i_sw_hit (kk := 1) (t := 51) r_69_23 (n_69_23 _) (by omega) g1 (by omega) rfl rfl ?_
        refine i_bipush r_69_51 (n_69_51 _) rfl ?_
        refine i_iload_n (x := x0) r_69_53 (n_69_53 _) rfl ?_
        refine i_bipush r_69_54 (n_69_54 _) rfl ?_
        refine i_irem r_69_56 (n_69_56 _) g3 ⟨by omega, by omega⟩ (by omega) (by omega) ?_
        refine i_iadd r_69_57 (n_69_57 _) ?_
        exact i_ireturn r_69_58 (n_69_58 _) rfl h
      · replace h := h.2.2.1 c7
        refine i_sw_hit (kk := 2) (t := 59) r_69_23 (n_69_23 _) (by omega) g1 (by omega) rfl rfl ?_
        refine i_bipush r_69_59 (n_69_59 _) rfl ?_
        exact i_ireturn r_69_61 (n_69_61 _) rfl h
      · replace h := h.2.2.2 c7
        refine i_sw_out (t := 62) r_69_23 (n_69_23 _) c7 g1 rfl ?_
        refine i_bipush r_69_62 (n_69_62 _) rfl ?_
        exact i_ireturn r_69_64 (n_69_64 _) rfl h
    · replace h := h.2 c6
      refine i_bipush r_69_19 (n_69_19 _) rfl ?_
      exact i_ireturn r_69_21 (n_69_21 _) rfl h
  · replace h := h.2 c2
    refine i_bipush r_69_4 (n_69_4 _) rfl ?_
    refine i_iload_n (x := x0) r_69_6 (n_69_6 _) rfl ?_
    refine i_bipush r_69_7 (n_69_7 _) rfl ?_
    obtain ⟨g8, h⟩ := h
    obtain ⟨g9, h⟩ := h
    refine i_idiv r_69_9 (n_69_9 _) g8 ⟨by omega, by omega⟩ (by omega) (by omega) ?_
    refine i_iadd r_69_10 (n_69_10 _) ?_
    exact i_ireturn r_69_11 (n_69_11 _) rfl h
theorem r_71_0 : xfetch 71 0 = some (.aload_n 0, 1) := by decide +kernel
theorem n_71_0 : ∀ l, xpr 71 0 l = l := xpr_no (by decide +kernel)
theorem r_71_1 : xfetch 71 1 = some (.iload_n 1, 1) := by decide +kernel
theorem n_71_1 : ∀ l, xpr 71 1 l = l := xpr_no (by decide +kernel)
theorem r_71_2 : xfetch 71 2 = some (.invokevirtual 95, 3) := by decide +kernel
theorem n_71_2 : ∀ l, xpr 71 2 l = l := xpr_no (by decide +kernel)
theorem r_71_5 : xfetch 71 5 = some (.aload_n 0, 1) := by decide +kernel
theorem n_71_5 : ∀ l, xpr 71 5 l = l := xpr_no (by decide +kernel)
theorem r_71_6 : xfetch 71 6 = some (.getfield 18, 3) := by decide +kernel
theorem n_71_6 : ∀ l, xpr 71 6 l = l := xpr_no (by decide +kernel)
theorem r_71_9 : xfetch 71 9 = some (.iload_n 1, 1) := by decide +kernel
theorem n_71_9 : ∀ l, xpr 71 9 l = l := xpr_no (by decide +kernel)
theorem r_71_10 : xfetch 71 10 = some (.aaload, 1) := by decide +kernel
theorem n_71_10 : ∀ l, xpr 71 10 l = l := xpr_no (by decide +kernel)
theorem r_71_11 : xfetch 71 11 = some (.getfield 120, 3) := by decide +kernel
theorem n_71_11 : ∀ l, xpr 71 11 l = l := xpr_no (by decide +kernel)
theorem r_71_14 : xfetch 71 14 = some (.astore_n 2, 1) := by decide +kernel
theorem n_71_14 : ∀ l, xpr 71 14 l = l := xpr_no (by decide +kernel)
theorem r_71_15 : xfetch 71 15 = some (.iconst 0, 1) := by decide +kernel
theorem n_71_15 : ∀ l, xpr 71 15 l = l := xpr_no (by decide +kernel)
theorem r_71_16 : xfetch 71 16 = some (.istore_n 3, 1) := by decide +kernel
theorem n_71_16 : ∀ l, xpr 71 16 l = l := xpr_no (by decide +kernel)
theorem r_71_17 : xfetch 71 17 = some (.iload_n 3, 1) := by decide +kernel
theorem r_71_18 : xfetch 71 18 = some (.aload_n 2, 1) := by decide +kernel
theorem n_71_18 : ∀ l, xpr 71 18 l = l := xpr_no (by decide +kernel)
theorem r_71_19 : xfetch 71 19 = some (.getfield 124, 3) := by decide +kernel
theorem n_71_19 : ∀ l, xpr 71 19 l = l := xpr_no (by decide +kernel)
theorem r_71_22 : xfetch 71 22 = some (.if_icmp .ge 24, 3) := by decide +kernel
theorem n_71_22 : ∀ l, xpr 71 22 l = l := xpr_no (by decide +kernel)
theorem r_71_25 : xfetch 71 25 = some (.aload_n 0, 1) := by decide +kernel
theorem n_71_25 : ∀ l, xpr 71 25 l = l := xpr_no (by decide +kernel)
theorem r_71_26 : xfetch 71 26 = some (.aload_n 2, 1) := by decide +kernel
theorem n_71_26 : ∀ l, xpr 71 26 l = l := xpr_no (by decide +kernel)
theorem r_71_27 : xfetch 71 27 = some (.getfield 181, 3) := by decide +kernel
theorem n_71_27 : ∀ l, xpr 71 27 l = l := xpr_no (by decide +kernel)
theorem r_71_30 : xfetch 71 30 = some (.iload_n 3, 1) := by decide +kernel
theorem n_71_30 : ∀ l, xpr 71 30 l = l := xpr_no (by decide +kernel)
theorem r_71_31 : xfetch 71 31 = some (.laload, 1) := by decide +kernel
theorem n_71_31 : ∀ l, xpr 71 31 l = l := xpr_no (by decide +kernel)
theorem r_71_32 : xfetch 71 32 = some (.invokevirtual 188, 3) := by decide +kernel
theorem n_71_32 : ∀ l, xpr 71 32 l = l := xpr_no (by decide +kernel)
theorem r_71_35 : xfetch 71 35 = some (.ifCond .eq 5, 3) := by decide +kernel
theorem n_71_35 : ∀ l, xpr 71 35 l = l := xpr_no (by decide +kernel)
theorem r_71_38 : xfetch 71 38 = some (.iload_n 3, 1) := by decide +kernel
theorem n_71_38 : ∀ l, xpr 71 38 l = l := xpr_no (by decide +kernel)
theorem r_71_39 : xfetch 71 39 = some (.ireturn, 1) := by decide +kernel
theorem n_71_39 : ∀ l, xpr 71 39 l = l := xpr_no (by decide +kernel)
theorem r_71_40 : xfetch 71 40 = some (.iinc 3 1, 3) := by decide +kernel
theorem n_71_40 : ∀ l, xpr 71 40 l = l := xpr_no (by decide +kernel)
theorem r_71_43 : xfetch 71 43 = some (.goto (-26), 3) := by decide +kernel
theorem n_71_43 : ∀ l, xpr 71 43 l = l := xpr_no (by decide +kernel)
theorem r_71_46 : xfetch 71 46 = some (.iconst (-1), 1) := by decide +kernel
theorem n_71_46 : ∀ l, xpr 71 46 l = l := xpr_no (by decide +kernel)
theorem r_71_47 : xfetch 71 47 = some (.ireturn, 1) := by decide +kernel
theorem n_71_47 : ∀ l, xpr 71 47 l = l := xpr_no (by decide +kernel)
theorem v_RL_findLeaf_0 {S : Option (Nat × (Nat → Int32))} {s : zSt} {Q : Option Value ⊕ Nat → zSt → Prop} {x1 : Int} 
    (h : wp S 54 0 [(0, rf 2), (1, iv x1)] [] s (fun o1 s1 => zkU ((0 ≤ x1 ∧ x1 < 6) ∧ (wp S 71 17 [(0, rf 2), (2, rf (67 + 11 * x1)), (3, iv 0)] [] s1 Q)) (fun e1 => Q (rT e1) s1) o1)) :
    wp S 71 0 [(0, rf 2), (1, iv x1)] [] s Q := by
  refine i_aload_n (a := 2) r_71_0 (n_71_0 _) rfl ?_
  refine i_iload_n (x := x1) r_71_1 (n_71_1 _) rfl ?_
  refine wp_virt (b := 2) (rest := []) (Ls := [(0, rf 2), (1, iv x1)]) r_71_2 (n_71_2 _) rfl ⟨rfl, rfl, by decide, by decide⟩ rfl rfl lf_2 ⟨rfl, Nat.le_of_ble_eq_true rfl, Nat.le_of_ble_eq_true rfl⟩ rfl h ?_
  intro o1 s1 h
  rcases h with ⟨rfl, h⟩ | ⟨e1, rfl, h⟩
  · refine .inl ⟨none, rfl, ?_⟩
    refine i_aload_n (a := 2) r_71_5 (n_71_5 _) rfl ?_
    refine i_getR (a := 2) (b := 34) r_71_6 (n_71_6 _) rfl rfl rfl (by omega) lf_2 (by omega) ?_
    refine i_iload_n (x := x1) r_71_9 (n_71_9 _) rfl ?_
    obtain ⟨g3, h⟩ := h
    refine i_aaload (c := 4) (a := 34) (j := x1) (b := 62 + 11 * x1) r_71_10 (n_71_10 _) lf_34 ⟨by omega, by omega⟩ (by omega) (by omega) rfl (by omega) ?_
    have t4 := e_4 (j := x1) lf_34 (by omega) (by omega)
    rw [show 34 + 28 + 11 * x1 = 62 + 11 * x1 by omega] at t4
    refine i_getR (a := 62 + 11 * x1) (b := 67 + 11 * x1) r_71_11 (n_71_11 _) rfl rfl rfl (by omega) t4 (by omega) ?_
    have t5 := (t_4_4 t4)
    rw [show (62 + 11 * x1) + 5 = 67 + 11 * x1 by omega] at t5
    refine i_astore_n (l' := [(0, rf 2), (1, iv x1), (2, rf (67 + 11 * x1))]) r_71_14 (n_71_14 _) (by decide) rfl ?_
    refine i_iconst r_71_15 (n_71_15 _) ?_
    refine i_istore_n (l' := [(0, rf 2), (1, iv x1), (2, rf (67 + 11 * x1)), (3, iv 0)]) r_71_16 (n_71_16 _) (by decide) rfl ?_
    exact wp_pr (l' := [(0, rf 2), (2, rf (67 + 11 * x1)), (3, iv 0)]) rfl h
  · skip
    exact .inr ⟨e1, rfl, .inl ⟨rfl, h⟩⟩
theorem v_RL_findLeaf_17 {S : Option (Nat × (Nat → Int32))} {s : zSt} {Q : Option Value ⊕ Nat → zSt → Prop} {a2 : Int} {x3 : Int} (ha2 : isO a2 2)
    (h : rng x3 ∧ (((zI s a2 0) ≤ x3 → Q (rI (-1)) s) ∧ (x3 < (zI s a2 0) → (0 ≤ x3 ∧ x3 < 40) ∧ (wp S 72 0 [(0, rf 2), (1, .long (zL s (a2 + 5) x3))] [] s (fun o6 s6 => zkI (fun y6 => (y6 = 0 → wp S 71 17 [(0, rf 2), (2, rf a2), (3, iv (x3 + 1))] [] s6 Q) ∧ (y6 ≠ 0 → Q (rI x3) s6)) (fun e6 => False) o6))))) :
    wp S 71 17 [(0, rf 2), (2, rf a2), (3, iv x3)] [] s Q := by
  refine i_iload_n (x := x3) r_71_17 rfl rfl ?_
  refine i_aload_n (a := a2) r_71_18 (n_71_18 _) rfl ?_
  refine i_getI (a := a2) r_71_19 (n_71_19 _) rfl (by decide) ha2 (fun q1 => ?_)
  obtain ⟨g2, h⟩ := h
  refine i_icmp (t := 46) r_71_22 (n_71_22 _) rfl (T_ge g2 q1) (fun c3 => ?_) (fun c3 => ?_)
  · replace h := h.1 c3
    refine i_iconst r_71_46 (n_71_46 _) ?_
    exact i_ireturn r_71_47 (n_71_47 _) rfl h
  · replace h := h.2 c3
    refine i_aload_n (a := 2) r_71_25 (n_71_25 _) rfl ?_
    refine i_aload_n (a := a2) r_71_26 (n_71_26 _) rfl ?_
    refine i_getR (a := a2) (b := a2 + 5) r_71_27 (n_71_27 _) rfl rfl rfl (by omega) ha2 (by omega) ?_
    have t4 := (t_2_5 ha2)
    refine i_iload_n (x := x3) r_71_30 (n_71_30 _) rfl ?_
    obtain ⟨g5, h⟩ := h
    refine i_laload (a := a2 + 5) (j := x3) r_71_31 (n_71_31 _) t4 ⟨by omega, by omega⟩ (by omega) (by omega) ?_
    refine wp_virt (b := 2) (rest := []) (Ls := [(0, rf 2), (1, .long (zL s (a2 + 5) x3))]) r_71_32 (n_71_32 _) rfl ⟨rfl, rfl, by decide, by decide⟩ rfl rfl lf_2 ⟨rfl, Nat.le_of_ble_eq_true rfl, Nat.le_of_ble_eq_true rfl⟩ rfl h ?_
    intro o6 s6 h
    rcases h with ⟨y6, q7, rfl, h⟩ | ⟨e6, rfl, h⟩
    · refine .inl ⟨some (iv y6), rfl, ?_⟩
      show wp S 71 35 [(0, rf 2), (2, rf a2), (3, iv x3)] [iv y6] s6 Q
      refine i_if (t := 40) r_71_35 (n_71_35 _) rfl (T_eq q7 ⟨by omega, by omega⟩) (fun c8 => ?_) (fun c8 => ?_)
      · replace h := h.1 c8
        refine i_iinc (x := x3) (l' := [(0, rf 2), (2, rf a2), (3, iv (x3 + 1))]) r_71_40 (n_71_40 _) (by decide) rfl rfl ?_
        refine i_goto (t := 17) r_71_43 (n_71_43 _) rfl ?_
        exact wp_pr (l' := [(0, rf 2), (2, rf a2), (3, iv (x3 + 1))]) rfl h
      · replace h := h.2 c8
        refine i_iload_n (x := x3) r_71_38 (n_71_38 _) rfl ?_
        exact i_ireturn r_71_39 (n_71_39 _) rfl h
    · skip
      exact h.elim
theorem r_72_0 : xfetch 72 0 = some (.iconst 0, 1) := by decide +kernel
theorem n_72_0 : ∀ l, xpr 72 0 l = l := xpr_no (by decide +kernel)
theorem r_72_1 : xfetch 72 1 = some (.istore_n 3, 1) := by decide +kernel
theorem n_72_1 : ∀ l, xpr 72 1 l = l := xpr_no (by decide +kernel)
theorem r_72_2 : xfetch 72 2 = some (.iload_n 3, 1) := by decide +kernel
theorem r_72_3 : xfetch 72 3 = some (.aload_n 0, 1) := by decide +kernel
theorem n_72_3 : ∀ l, xpr 72 3 l = l := xpr_no (by decide +kernel)
theorem r_72_4 : xfetch 72 4 = some (.getfield 29, 3) := by decide +kernel
theorem n_72_4 : ∀ l, xpr 72 4 l = l := xpr_no (by decide +kernel)
theorem r_72_7 : xfetch 72 7 = some (.getfield 205, 3) := by decide +kernel
theorem n_72_7 : ∀ l, xpr 72 7 l = l := xpr_no (by decide +kernel)
theorem r_72_10 : xfetch 72 10 = some (.if_icmp .gt 27, 3) := by decide +kernel
theorem n_72_10 : ∀ l, xpr 72 10 l = l := xpr_no (by decide +kernel)
theorem r_72_13 : xfetch 72 13 = some (.lload_n 1, 1) := by decide +kernel
theorem n_72_13 : ∀ l, xpr 72 13 l = l := xpr_no (by decide +kernel)
theorem r_72_14 : xfetch 72 14 = some (.iload_n 3, 1) := by decide +kernel
theorem n_72_14 : ∀ l, xpr 72 14 l = l := xpr_no (by decide +kernel)
theorem r_72_15 : xfetch 72 15 = some (.invokestatic 184, 3) := by decide +kernel
theorem n_72_15 : ∀ l, xpr 72 15 l = l := xpr_no (by decide +kernel)
theorem r_72_18 : xfetch 72 18 = some (.aload_n 0, 1) := by decide +kernel
theorem n_72_18 : ∀ l, xpr 72 18 l = l := xpr_no (by decide +kernel)
theorem r_72_19 : xfetch 72 19 = some (.getfield 29, 3) := by decide +kernel
theorem n_72_19 : ∀ l, xpr 72 19 l = l := xpr_no (by decide +kernel)
theorem r_72_22 : xfetch 72 22 = some (.iload_n 3, 1) := by decide +kernel
theorem n_72_22 : ∀ l, xpr 72 22 l = l := xpr_no (by decide +kernel)
theorem r_72_23 : xfetch 72 23 = some (.invokevirtual 469, 3) := by decide +kernel
theorem n_72_23 : ∀ l, xpr 72 23 l = l := xpr_no (by decide +kernel)
theorem r_72_26 : xfetch 72 26 = some (.if_icmp .eq 5, 3) := by decide +kernel
theorem n_72_26 : ∀ l, xpr 72 26 l = l := xpr_no (by decide +kernel)
theorem r_72_29 : xfetch 72 29 = some (.iconst 0, 1) := by decide +kernel
theorem n_72_29 : ∀ l, xpr 72 29 l = l := xpr_no (by decide +kernel)
theorem r_72_30 : xfetch 72 30 = some (.ireturn, 1) := by decide +kernel
theorem n_72_30 : ∀ l, xpr 72 30 l = l := xpr_no (by decide +kernel)
theorem r_72_31 : xfetch 72 31 = some (.iinc 3 1, 3) := by decide +kernel
theorem n_72_31 : ∀ l, xpr 72 31 l = l := xpr_no (by decide +kernel)
theorem r_72_34 : xfetch 72 34 = some (.goto (-32), 3) := by decide +kernel
theorem n_72_34 : ∀ l, xpr 72 34 l = l := xpr_no (by decide +kernel)
theorem r_72_37 : xfetch 72 37 = some (.iconst 1, 1) := by decide +kernel
theorem n_72_37 : ∀ l, xpr 72 37 l = l := xpr_no (by decide +kernel)
theorem r_72_38 : xfetch 72 38 = some (.ireturn, 1) := by decide +kernel
theorem n_72_38 : ∀ l, xpr 72 38 l = l := xpr_no (by decide +kernel)
theorem v_RL_isText_0 {S : Option (Nat × (Nat → Int32))} {s : zSt} {Q : Option Value ⊕ Nat → zSt → Prop} {u1 : Int64} 
    (h : wp S 72 2 [(0, rf 2), (1, .long u1), (3, iv 0)] [] s Q) :
    wp S 72 0 [(0, rf 2), (1, .long u1)] [] s Q := by
  refine i_iconst r_72_0 (n_72_0 _) ?_
  refine i_istore_n (l' := [(0, rf 2), (1, .long u1), (3, iv 0)]) r_72_1 (n_72_1 _) (by decide) rfl ?_
  exact wp_pr (l' := [(0, rf 2), (1, .long u1), (3, iv 0)]) rfl h
theorem v_RL_isText_2 {S : Option (Nat × (Nat → Int32))} {s : zSt} {Q : Option Value ⊕ Nat → zSt → Prop} {u1 : Int64} {x3 : Int} 
    (h : rng x3 ∧ (((zI s 36 0) < x3 → Q (rI 1) s) ∧ (x3 ≤ (zI s 36 0) → wp S 68 0 [(0, .long u1), (2, iv x3)] [] s (fun o4 s4 => zkI (fun y4 => wp S 73 0 [(0, rf 36), (1, iv x3)] [] s4 (fun o6 s6 => zkI (fun y6 => (y4 = y6 → wp S 72 2 [(0, rf 2), (1, .long u1), (3, iv (x3 + 1))] [] s6 Q) ∧ (y4 ≠ y6 → Q (rI 0) s6)) (fun e6 => False) o6)) (fun e4 => False) o4)))) :
    wp S 72 2 [(0, rf 2), (1, .long u1), (3, iv x3)] [] s Q := by
  refine i_iload_n (x := x3) r_72_2 rfl rfl ?_
  refine i_aload_n (a := 2) r_72_3 (n_72_3 _) rfl ?_
  refine i_getR (a := 2) (b := 36) r_72_4 (n_72_4 _) rfl rfl rfl (by omega) lf_2 (by omega) ?_
  refine i_getI (a := 36) r_72_7 (n_72_7 _) rfl (by decide) lf_36 (fun q1 => ?_)
  obtain ⟨g2, h⟩ := h
  refine i_icmp (t := 37) r_72_10 (n_72_10 _) rfl (T_gt g2 q1) (fun c3 => ?_) (fun c3 => ?_)
  · replace h := h.1 c3
    refine i_iconst r_72_37 (n_72_37 _) ?_
    exact i_zreturn r_72_38 (n_72_38 _) rfl (by decide) h
  · replace h := h.2 c3
    refine i_lload_n (u := u1) r_72_13 (n_72_13 _) rfl ?_
    refine i_iload_n (x := x3) r_72_14 (n_72_14 _) rfl ?_
    refine wp_stat (rest := []) (Ls := [(0, .long u1), (2, iv x3)]) r_72_15 (n_72_15 _) rfl ⟨rfl, by decide, by decide, by decide⟩ rfl rfl ⟨rfl, Nat.le_of_ble_eq_true rfl, Nat.le_of_ble_eq_true rfl⟩ rfl h ?_
    intro o4 s4 h
    rcases h with ⟨y4, q5, rfl, h⟩ | ⟨e4, rfl, h⟩
    · refine .inl ⟨some (iv y4), rfl, ?_⟩
      show wp S 72 18 [(0, rf 2), (1, .long u1), (3, iv x3)] [iv y4] s4 Q
      refine i_aload_n (a := 2) r_72_18 (n_72_18 _) rfl ?_
      refine i_getR (a := 2) (b := 36) r_72_19 (n_72_19 _) rfl rfl rfl (by omega) lf_2 (by omega) ?_
      refine i_iload_n (x := x3) r_72_22 (n_72_22 _) rfl ?_
      refine wp_virt (b := 36) (rest := [iv y4]) (Ls := [(0, rf 36), (1, iv x3)]) r_72_23 (n_72_23 _) rfl ⟨rfl, rfl, by decide, by decide⟩ rfl rfl lf_36 ⟨rfl, Nat.le_of_ble_eq_true rfl, Nat.le_of_ble_eq_true rfl⟩ rfl h ?_
      intro o6 s6 h
      rcases h with ⟨y6, q7, rfl, h⟩ | ⟨e6, rfl, h⟩
      · refine .inl ⟨some (iv y6), rfl, ?_⟩
        show wp S 72 26 [(0, rf 2), (1, .long u1), (3, iv x3)] [iv y6, iv y4] s6 Q
        refine i_icmp (t := 31) r_72_26 (n_72_26 _) rfl (T_eq q5 q7) (fun c8 => ?_) (fun c8 => ?_)
        · replace h := h.1 c8
          refine i_iinc (x := x3) (l' := [(0, rf 2), (1, .long u1), (3, iv (x3 + 1))]) r_72_31 (n_72_31 _) (by decide) rfl rfl ?_
          refine i_goto (t := 2) r_72_34 (n_72_34 _) rfl ?_
          exact wp_pr (l' := [(0, rf 2), (1, .long u1), (3, iv (x3 + 1))]) rfl h
        · replace h := h.2 c8
          refine i_iconst r_72_29 (n_72_29 _) ?_
          exact i_zreturn r_72_30 (n_72_30 _) rfl (by decide) h
      · skip
        exact h.elim
    · skip
      exact h.elim
theorem r_73_0 : xfetch 73 0 = some (.iload_n 1, 1) := by decide +kernel
theorem n_73_0 : ∀ l, xpr 73 0 l = l := xpr_no (by decide +kernel)
theorem r_73_1 : xfetch 73 1 = some (.ifCond .lt 20, 3) := by decide +kernel
theorem n_73_1 : ∀ l, xpr 73 1 l = l := xpr_no (by decide +kernel)
theorem r_73_4 : xfetch 73 4 = some (.iload_n 1, 1) := by decide +kernel
theorem n_73_4 : ∀ l, xpr 73 4 l = l := xpr_no (by decide +kernel)
theorem r_73_5 : xfetch 73 5 = some (.aload_n 0, 1) := by decide +kernel
theorem n_73_5 : ∀ l, xpr 73 5 l = l := xpr_no (by decide +kernel)
theorem r_73_6 : xfetch 73 6 = some (.getfield 22, 3) := by decide +kernel
theorem n_73_6 : ∀ l, xpr 73 6 l = l := xpr_no (by decide +kernel)
theorem r_73_9 : xfetch 73 9 = some (.if_icmp .ge 12, 3) := by decide +kernel
theorem n_73_9 : ∀ l, xpr 73 9 l = l := xpr_no (by decide +kernel)
theorem r_73_12 : xfetch 73 12 = some (.aload_n 0, 1) := by decide +kernel
theorem n_73_12 : ∀ l, xpr 73 12 l = l := xpr_no (by decide +kernel)
theorem r_73_13 : xfetch 73 13 = some (.getfield 18, 3) := by decide +kernel
theorem n_73_13 : ∀ l, xpr 73 13 l = l := xpr_no (by decide +kernel)
theorem r_73_16 : xfetch 73 16 = some (.iload_n 1, 1) := by decide +kernel
theorem n_73_16 : ∀ l, xpr 73 16 l = l := xpr_no (by decide +kernel)
theorem r_73_17 : xfetch 73 17 = some (.baload, 1) := by decide +kernel
theorem n_73_17 : ∀ l, xpr 73 17 l = l := xpr_no (by decide +kernel)
theorem r_73_18 : xfetch 73 18 = some (.goto 4, 3) := by decide +kernel
theorem n_73_18 : ∀ l, xpr 73 18 l = l := xpr_no (by decide +kernel)
theorem r_73_21 : xfetch 73 21 = some (.iconst (-1), 1) := by decide +kernel
theorem n_73_21 : ∀ l, xpr 73 21 l = l := xpr_no (by decide +kernel)
theorem r_73_22 : xfetch 73 22 = some (.ireturn, 1) := by decide +kernel
theorem n_73_22 : ∀ l, xpr 73 22 l = l := xpr_no (by decide +kernel)
theorem v_Text_signAt_0 {S : Option (Nat × (Nat → Int32))} {s : zSt} {Q : Option Value ⊕ Nat → zSt → Prop} {x1 : Int} 
    (h : rng x1 ∧ ((x1 < 0 → Q (rI (-1)) s) ∧ (0 ≤ x1 → ((zI s 36 0) ≤ x1 → Q (rI (-1)) s) ∧ (x1 < (zI s 36 0) → (0 ≤ x1 ∧ x1 < 80) ∧ (Q (rI (zI s 41 x1)) s))))) :
    wp S 73 0 [(0, rf 36), (1, iv x1)] [] s Q := by
  refine i_iload_n (x := x1) r_73_0 (n_73_0 _) rfl ?_
  obtain ⟨g1, h⟩ := h
  refine i_if (t := 21) r_73_1 (n_73_1 _) rfl (T_lt g1 ⟨by omega, by omega⟩) (fun c2 => ?_) (fun c2 => ?_)
  · replace h := h.1 c2
    refine i_iconst r_73_21 (n_73_21 _) ?_
    exact i_ireturn r_73_22 (n_73_22 _) rfl h
  · replace h := h.2 c2
    refine i_iload_n (x := x1) r_73_4 (n_73_4 _) rfl ?_
    refine i_aload_n (a := 36) r_73_5 (n_73_5 _) rfl ?_
    refine i_getI (a := 36) r_73_6 (n_73_6 _) rfl (by decide) lf_36 (fun q3 => ?_)
    refine i_icmp (t := 21) r_73_9 (n_73_9 _) rfl (T_ge g1 q3) (fun c4 => ?_) (fun c4 => ?_)
    · replace h := h.1 c4
      refine i_iconst r_73_21 (n_73_21 _) ?_
      exact i_ireturn r_73_22 (n_73_22 _) rfl h
    · replace h := h.2 c4
      refine i_aload_n (a := 36) r_73_12 (n_73_12 _) rfl ?_
      refine i_getR (a := 36) (b := 41) r_73_13 (n_73_13 _) rfl rfl rfl (by omega) lf_36 (by omega) ?_
      refine i_iload_n (x := x1) r_73_16 (n_73_16 _) rfl ?_
      obtain ⟨g5, h⟩ := h
      refine i_baload (a := 41) (j := x1) r_73_17 (n_73_17 _) lf_41 ⟨by omega, by omega⟩ (by omega) (by omega) (fun q6 => ?_)
      refine i_goto (t := 22) r_73_18 (n_73_18 _) rfl ?_
      exact i_ireturn r_73_22 (n_73_22 _) rfl h
theorem r_75_0 : xfetch 75 0 = some (.aload_n 0, 1) := by decide +kernel
theorem n_75_0 : ∀ l, xpr 75 0 l = l := xpr_no (by decide +kernel)
theorem r_75_1 : xfetch 75 1 = some (.iload_n 1, 1) := by decide +kernel
theorem n_75_1 : ∀ l, xpr 75 1 l = l := xpr_no (by decide +kernel)
theorem r_75_2 : xfetch 75 2 = some (.invokevirtual 95, 3) := by decide +kernel
theorem n_75_2 : ∀ l, xpr 75 2 l = l := xpr_no (by decide +kernel)
theorem r_75_5 : xfetch 75 5 = some (.aload_n 0, 1) := by decide +kernel
theorem n_75_5 : ∀ l, xpr 75 5 l = l := xpr_no (by decide +kernel)
theorem r_75_6 : xfetch 75 6 = some (.iload_n 1, 1) := by decide +kernel
theorem n_75_6 : ∀ l, xpr 75 6 l = l := xpr_no (by decide +kernel)
theorem r_75_7 : xfetch 75 7 = some (.invokevirtual 192, 3) := by decide +kernel
theorem n_75_7 : ∀ l, xpr 75 7 l = l := xpr_no (by decide +kernel)
theorem r_75_10 : xfetch 75 10 = some (.aload_n 0, 1) := by decide +kernel
theorem n_75_10 : ∀ l, xpr 75 10 l = l := xpr_no (by decide +kernel)
theorem r_75_11 : xfetch 75 11 = some (.getfield 36, 3) := by decide +kernel
theorem n_75_11 : ∀ l, xpr 75 11 l = l := xpr_no (by decide +kernel)
theorem r_75_14 : xfetch 75 14 = some (.getfield 195, 3) := by decide +kernel
theorem n_75_14 : ∀ l, xpr 75 14 l = l := xpr_no (by decide +kernel)
theorem r_75_17 : xfetch 75 17 = some (.ireturn, 1) := by decide +kernel
theorem n_75_17 : ∀ l, xpr 75 17 l = l := xpr_no (by decide +kernel)
theorem v_RL_bestSize_0 {S : Option (Nat × (Nat → Int32))} {s : zSt} {Q : Option Value ⊕ Nat → zSt → Prop} {x1 : Int} 
    (h : wp S 54 0 [(0, rf 2), (1, iv x1)] [] s (fun o1 s1 => zkU (wp S 76 0 [(0, rf 2), (1, iv x1)] [] s1 (fun o3 s3 => zkU (Q (rI (zI s3 42 0)) s3) (fun e3 => False) o3)) (fun e1 => Q (rT e1) s1) o1)) :
    wp S 75 0 [(0, rf 2), (1, iv x1)] [] s Q := by
  refine i_aload_n (a := 2) r_75_0 (n_75_0 _) rfl ?_
  refine i_iload_n (x := x1) r_75_1 (n_75_1 _) rfl ?_
  refine wp_virt (b := 2) (rest := []) (Ls := [(0, rf 2), (1, iv x1)]) r_75_2 (n_75_2 _) rfl ⟨rfl, rfl, by decide, by decide⟩ rfl rfl lf_2 ⟨rfl, Nat.le_of_ble_eq_true rfl, Nat.le_of_ble_eq_true rfl⟩ rfl h ?_
  intro o1 s1 h
  rcases h with ⟨rfl, h⟩ | ⟨e1, rfl, h⟩
  · refine .inl ⟨none, rfl, ?_⟩
    refine i_aload_n (a := 2) r_75_5 (n_75_5 _) rfl ?_
    refine i_iload_n (x := x1) r_75_6 (n_75_6 _) rfl ?_
    refine wp_virt (b := 2) (rest := []) (Ls := [(0, rf 2), (1, iv x1)]) r_75_7 (n_75_7 _) rfl ⟨rfl, rfl, by decide, by decide⟩ rfl rfl lf_2 ⟨rfl, Nat.le_of_ble_eq_true rfl, Nat.le_of_ble_eq_true rfl⟩ rfl h ?_
    intro o3 s3 h
    rcases h with ⟨rfl, h⟩ | ⟨e3, rfl, h⟩
    · refine .inl ⟨none, rfl, ?_⟩
      refine i_aload_n (a := 2) r_75_10 (n_75_10 _) rfl ?_
      refine i_getR (a := 2) (b := 42) r_75_11 (n_75_11 _) rfl rfl rfl (by omega) lf_2 (by omega) ?_
      refine i_getI (a := 42) r_75_14 (n_75_14 _) rfl (by decide) lf_42 (fun q5 => ?_)
      exact i_ireturn r_75_17 (n_75_17 _) rfl h
    · skip
      exact h.elim
  · skip
    exact .inr ⟨e1, rfl, .inl ⟨rfl, h⟩⟩
theorem r_76_0 : xfetch 76 0 = some (.aload_n 0, 1) := by decide +kernel
theorem n_76_0 : ∀ l, xpr 76 0 l = l := xpr_no (by decide +kernel)
theorem r_76_1 : xfetch 76 1 = some (.getfield 40, 3) := by decide +kernel
theorem n_76_1 : ∀ l, xpr 76 1 l = l := xpr_no (by decide +kernel)
theorem r_76_4 : xfetch 76 4 = some (.iload_n 1, 1) := by decide +kernel
theorem n_76_4 : ∀ l, xpr 76 4 l = l := xpr_no (by decide +kernel)
theorem r_76_5 : xfetch 76 5 = some (.if_icmp .eq 30, 3) := by decide +kernel
theorem n_76_5 : ∀ l, xpr 76 5 l = l := xpr_no (by decide +kernel)
theorem r_76_8 : xfetch 76 8 = some (.aload_n 0, 1) := by decide +kernel
theorem n_76_8 : ∀ l, xpr 76 8 l = l := xpr_no (by decide +kernel)
theorem r_76_9 : xfetch 76 9 = some (.getfield 36, 3) := by decide +kernel
theorem n_76_9 : ∀ l, xpr 76 9 l = l := xpr_no (by decide +kernel)
theorem r_76_12 : xfetch 76 12 = some (.aload_n 0, 1) := by decide +kernel
theorem n_76_12 : ∀ l, xpr 76 12 l = l := xpr_no (by decide +kernel)
theorem r_76_13 : xfetch 76 13 = some (.getfield 10, 3) := by decide +kernel
theorem n_76_13 : ∀ l, xpr 76 13 l = l := xpr_no (by decide +kernel)
theorem r_76_16 : xfetch 76 16 = some (.getfield 83, 3) := by decide +kernel
theorem n_76_16 : ∀ l, xpr 76 16 l = l := xpr_no (by decide +kernel)
theorem r_76_19 : xfetch 76 19 = some (.iload_n 1, 1) := by decide +kernel
theorem n_76_19 : ∀ l, xpr 76 19 l = l := xpr_no (by decide +kernel)
theorem r_76_20 : xfetch 76 20 = some (.aaload, 1) := by decide +kernel
theorem n_76_20 : ∀ l, xpr 76 20 l = l := xpr_no (by decide +kernel)
theorem r_76_21 : xfetch 76 21 = some (.aload_n 0, 1) := by decide +kernel
theorem n_76_21 : ∀ l, xpr 76 21 l = l := xpr_no (by decide +kernel)
theorem r_76_22 : xfetch 76 22 = some (.getfield 18, 3) := by decide +kernel
theorem n_76_22 : ∀ l, xpr 76 22 l = l := xpr_no (by decide +kernel)
theorem r_76_25 : xfetch 76 25 = some (.iload_n 1, 1) := by decide +kernel
theorem n_76_25 : ∀ l, xpr 76 25 l = l := xpr_no (by decide +kernel)
theorem r_76_26 : xfetch 76 26 = some (.aaload, 1) := by decide +kernel
theorem n_76_26 : ∀ l, xpr 76 26 l = l := xpr_no (by decide +kernel)
theorem r_76_27 : xfetch 76 27 = some (.invokevirtual 442, 3) := by decide +kernel
theorem n_76_27 : ∀ l, xpr 76 27 l = l := xpr_no (by decide +kernel)
theorem r_76_30 : xfetch 76 30 = some (.aload_n 0, 1) := by decide +kernel
theorem n_76_30 : ∀ l, xpr 76 30 l = l := xpr_no (by decide +kernel)
theorem r_76_31 : xfetch 76 31 = some (.iload_n 1, 1) := by decide +kernel
theorem n_76_31 : ∀ l, xpr 76 31 l = l := xpr_no (by decide +kernel)
theorem r_76_32 : xfetch 76 32 = some (.putfield 40, 3) := by decide +kernel
theorem n_76_32 : ∀ l, xpr 76 32 l = l := xpr_no (by decide +kernel)
theorem r_76_35 : xfetch 76 35 = some (.return_, 1) := by decide +kernel
theorem n_76_35 : ∀ l, xpr 76 35 l = l := xpr_no (by decide +kernel)
theorem v_RL_searchBest_0 {S : Option (Nat × (Nat → Int32))} {s : zSt} {Q : Option Value ⊕ Nat → zSt → Prop} {x1 : Int} 
    (h : rng x1 ∧ (((zI s 2 7) = x1 → Q rU s) ∧ ((zI s 2 7) ≠ x1 → (0 ≤ x1 ∧ x1 < 6) ∧ (wp S 77 0 [(0, rf 42), (1, rf (7 + 4 * x1)), (2, rf (62 + 11 * x1))] [] s (fun o7 s7 => zkU (Q rU (zwI s7 2 7 x1)) (fun e7 => False) o7))))) :
    wp S 76 0 [(0, rf 2), (1, iv x1)] [] s Q := by
  refine i_aload_n (a := 2) r_76_0 (n_76_0 _) rfl ?_
  refine i_getI (a := 2) r_76_1 (n_76_1 _) rfl (by decide) lf_2 (fun q1 => ?_)
  refine i_iload_n (x := x1) r_76_4 (n_76_4 _) rfl ?_
  obtain ⟨g2, h⟩ := h
  refine i_icmp (t := 35) r_76_5 (n_76_5 _) rfl (T_eq q1 g2) (fun c3 => ?_) (fun c3 => ?_)
  · replace h := h.1 c3
    exact i_return r_76_35 (n_76_35 _) rfl h
  · replace h := h.2 c3
    refine i_aload_n (a := 2) r_76_8 (n_76_8 _) rfl ?_
    refine i_getR (a := 2) (b := 42) r_76_9 (n_76_9 _) rfl rfl rfl (by omega) lf_2 (by omega) ?_
    refine i_aload_n (a := 2) r_76_12 (n_76_12 _) rfl ?_
    refine i_getR (a := 2) (b := 3) r_76_13 (n_76_13 _) rfl rfl rfl (by omega) lf_2 (by omega) ?_
    refine i_getR (a := 3) (b := 4) r_76_16 (n_76_16 _) rfl rfl rfl (by omega) lf_3 (by omega) ?_
    refine i_iload_n (x := x1) r_76_19 (n_76_19 _) rfl ?_
    obtain ⟨g4, h⟩ := h
    refine i_aaload (c := 1) (a := 4) (j := x1) (b := 7 + 4 * x1) r_76_20 (n_76_20 _) lf_4 ⟨by omega, by omega⟩ (by omega) (by omega) rfl (by omega) ?_
    have t5 := e_1 (j := x1) lf_4 (by omega) (by omega)
    rw [show 4 + 3 + 4 * x1 = 7 + 4 * x1 by omega] at t5
    refine i_aload_n (a := 2) r_76_21 (n_76_21 _) rfl ?_
    refine i_getR (a := 2) (b := 34) r_76_22 (n_76_22 _) rfl rfl rfl (by omega) lf_2 (by omega) ?_
    refine i_iload_n (x := x1) r_76_25 (n_76_25 _) rfl ?_
    refine i_aaload (c := 4) (a := 34) (j := x1) (b := 62 + 11 * x1) r_76_26 (n_76_26 _) lf_34 ⟨by omega, by omega⟩ (by omega) (by omega) rfl (by omega) ?_
    have t6 := e_4 (j := x1) lf_34 (by omega) (by omega)
    rw [show 34 + 28 + 11 * x1 = 62 + 11 * x1 by omega] at t6
    refine wp_virt (b := 42) (rest := []) (Ls := [(0, rf 42), (1, rf (7 + 4 * x1)), (2, rf (62 + 11 * x1))]) r_76_27 (n_76_27 _) rfl ⟨rfl, rfl, by decide, by decide⟩ rfl rfl lf_42 ⟨rfl, Nat.le_of_ble_eq_true rfl, Nat.le_of_ble_eq_true rfl⟩ rfl h ?_
    intro o7 s7 h
    rcases h with ⟨rfl, h⟩ | ⟨e7, rfl, h⟩
    · refine .inl ⟨none, rfl, ?_⟩
      refine i_aload_n (a := 2) r_76_30 (n_76_30 _) rfl ?_
      refine i_iload_n (x := x1) r_76_31 (n_76_31 _) rfl ?_
      refine i_putI (a := 2) (x := x1) r_76_32 (n_76_32 _) rfl (.inl rfl) rfl lf_2 g2 ?_
      exact i_return r_76_35 (n_76_35 _) rfl h
    · skip
      exact h.elim
theorem r_77_0 : xfetch 77 0 = some (.aload_n 0, 1) := by decide +kernel
theorem n_77_0 : ∀ l, xpr 77 0 l = l := xpr_no (by decide +kernel)
theorem r_77_1 : xfetch 77 1 = some (.aload_n 1, 1) := by decide +kernel
theorem n_77_1 : ∀ l, xpr 77 1 l = l := xpr_no (by decide +kernel)
theorem r_77_2 : xfetch 77 2 = some (.getfield 27, 3) := by decide +kernel
theorem n_77_2 : ∀ l, xpr 77 2 l = l := xpr_no (by decide +kernel)
theorem r_77_5 : xfetch 77 5 = some (.putfield 33, 3) := by decide +kernel
theorem n_77_5 : ∀ l, xpr 77 5 l = l := xpr_no (by decide +kernel)
theorem r_77_8 : xfetch 77 8 = some (.iconst 0, 1) := by decide +kernel
theorem n_77_8 : ∀ l, xpr 77 8 l = l := xpr_no (by decide +kernel)
theorem r_77_9 : xfetch 77 9 = some (.istore_n 3, 1) := by decide +kernel
theorem n_77_9 : ∀ l, xpr 77 9 l = l := xpr_no (by decide +kernel)
theorem r_77_10 : xfetch 77 10 = some (.iload_n 3, 1) := by decide +kernel
theorem r_77_11 : xfetch 77 11 = some (.aload_n 0, 1) := by decide +kernel
theorem n_77_11 : ∀ l, xpr 77 11 l = l := xpr_no (by decide +kernel)
theorem r_77_12 : xfetch 77 12 = some (.getfield 33, 3) := by decide +kernel
theorem n_77_12 : ∀ l, xpr 77 12 l = l := xpr_no (by decide +kernel)
theorem r_77_15 : xfetch 77 15 = some (.if_icmp .ge 71, 3) := by decide +kernel
theorem n_77_15 : ∀ l, xpr 77 15 l = l := xpr_no (by decide +kernel)
theorem r_77_18 : xfetch 77 18 = some (.aload_n 0, 1) := by decide +kernel
theorem n_77_18 : ∀ l, xpr 77 18 l = l := xpr_no (by decide +kernel)
theorem r_77_19 : xfetch 77 19 = some (.getfield 15, 3) := by decide +kernel
theorem n_77_19 : ∀ l, xpr 77 19 l = l := xpr_no (by decide +kernel)
theorem r_77_22 : xfetch 77 22 = some (.iload_n 3, 1) := by decide +kernel
theorem n_77_22 : ∀ l, xpr 77 22 l = l := xpr_no (by decide +kernel)
theorem r_77_23 : xfetch 77 23 = some (.aload_n 1, 1) := by decide +kernel
theorem n_77_23 : ∀ l, xpr 77 23 l = l := xpr_no (by decide +kernel)
theorem r_77_24 : xfetch 77 24 = some (.getfield 34, 3) := by decide +kernel
theorem n_77_24 : ∀ l, xpr 77 24 l = l := xpr_no (by decide +kernel)
theorem r_77_27 : xfetch 77 27 = some (.iload_n 3, 1) := by decide +kernel
theorem n_77_27 : ∀ l, xpr 77 27 l = l := xpr_no (by decide +kernel)
theorem r_77_28 : xfetch 77 28 = some (.iaload, 1) := by decide +kernel
theorem n_77_28 : ∀ l, xpr 77 28 l = l := xpr_no (by decide +kernel)
theorem r_77_29 : xfetch 77 29 = some (.aload_n 2, 1) := by decide +kernel
theorem n_77_29 : ∀ l, xpr 77 29 l = l := xpr_no (by decide +kernel)
theorem r_77_30 : xfetch 77 30 = some (.getfield 37, 3) := by decide +kernel
theorem n_77_30 : ∀ l, xpr 77 30 l = l := xpr_no (by decide +kernel)
theorem r_77_33 : xfetch 77 33 = some (.iload_n 3, 1) := by decide +kernel
theorem n_77_33 : ∀ l, xpr 77 33 l = l := xpr_no (by decide +kernel)
theorem r_77_34 : xfetch 77 34 = some (.iaload, 1) := by decide +kernel
theorem n_77_34 : ∀ l, xpr 77 34 l = l := xpr_no (by decide +kernel)
theorem r_77_35 : xfetch 77 35 = some (.imul, 1) := by decide +kernel
theorem n_77_35 : ∀ l, xpr 77 35 l = l := xpr_no (by decide +kernel)
theorem r_77_36 : xfetch 77 36 = some (.iastore, 1) := by decide +kernel
theorem n_77_36 : ∀ l, xpr 77 36 l = l := xpr_no (by decide +kernel)
theorem r_77_37 : xfetch 77 37 = some (.aload_n 0, 1) := by decide +kernel
theorem n_77_37 : ∀ l, xpr 77 37 l = l := xpr_no (by decide +kernel)
theorem r_77_38 : xfetch 77 38 = some (.getfield 18, 3) := by decide +kernel
theorem n_77_38 : ∀ l, xpr 77 38 l = l := xpr_no (by decide +kernel)
theorem r_77_41 : xfetch 77 41 = some (.iload_n 3, 1) := by decide +kernel
theorem n_77_41 : ∀ l, xpr 77 41 l = l := xpr_no (by decide +kernel)
theorem r_77_42 : xfetch 77 42 = some (.aload_n 2, 1) := by decide +kernel
theorem n_77_42 : ∀ l, xpr 77 42 l = l := xpr_no (by decide +kernel)
theorem r_77_43 : xfetch 77 43 = some (.getfield 42, 3) := by decide +kernel
theorem n_77_43 : ∀ l, xpr 77 43 l = l := xpr_no (by decide +kernel)
theorem r_77_46 : xfetch 77 46 = some (.iload_n 3, 1) := by decide +kernel
theorem n_77_46 : ∀ l, xpr 77 46 l = l := xpr_no (by decide +kernel)
theorem r_77_47 : xfetch 77 47 = some (.iaload, 1) := by decide +kernel
theorem n_77_47 : ∀ l, xpr 77 47 l = l := xpr_no (by decide +kernel)
theorem r_77_48 : xfetch 77 48 = some (.iastore, 1) := by decide +kernel
theorem n_77_48 : ∀ l, xpr 77 48 l = l := xpr_no (by decide +kernel)
theorem r_77_49 : xfetch 77 49 = some (.aload_n 0, 1) := by decide +kernel
theorem n_77_49 : ∀ l, xpr 77 49 l = l := xpr_no (by decide +kernel)
theorem r_77_50 : xfetch 77 50 = some (.getfield 21, 3) := by decide +kernel
theorem n_77_50 : ∀ l, xpr 77 50 l = l := xpr_no (by decide +kernel)
theorem r_77_53 : xfetch 77 53 = some (.iload_n 3, 1) := by decide +kernel
theorem n_77_53 : ∀ l, xpr 77 53 l = l := xpr_no (by decide +kernel)
theorem r_77_54 : xfetch 77 54 = some (.aload_n 1, 1) := by decide +kernel
theorem n_77_54 : ∀ l, xpr 77 54 l = l := xpr_no (by decide +kernel)
theorem r_77_55 : xfetch 77 55 = some (.getfield 43, 3) := by decide +kernel
theorem n_77_55 : ∀ l, xpr 77 55 l = l := xpr_no (by decide +kernel)
theorem r_77_58 : xfetch 77 58 = some (.iload_n 3, 1) := by decide +kernel
theorem n_77_58 : ∀ l, xpr 77 58 l = l := xpr_no (by decide +kernel)
theorem r_77_59 : xfetch 77 59 = some (.iaload, 1) := by decide +kernel
theorem n_77_59 : ∀ l, xpr 77 59 l = l := xpr_no (by decide +kernel)
theorem r_77_60 : xfetch 77 60 = some (.invokestatic 46, 3) := by decide +kernel
theorem n_77_60 : ∀ l, xpr 77 60 l = l := xpr_no (by decide +kernel)
theorem r_77_63 : xfetch 77 63 = some (.ifCond .eq 15, 3) := by decide +kernel
theorem n_77_63 : ∀ l, xpr 77 63 l = l := xpr_no (by decide +kernel)
theorem r_77_66 : xfetch 77 66 = some (.aload_n 1, 1) := by decide +kernel
theorem n_77_66 : ∀ l, xpr 77 66 l = l := xpr_no (by decide +kernel)
theorem r_77_67 : xfetch 77 67 = some (.getfield 43, 3) := by decide +kernel
theorem n_77_67 : ∀ l, xpr 77 67 l = l := xpr_no (by decide +kernel)
theorem r_77_70 : xfetch 77 70 = some (.iload_n 3, 1) := by decide +kernel
theorem n_77_70 : ∀ l, xpr 77 70 l = l := xpr_no (by decide +kernel)
theorem r_77_71 : xfetch 77 71 = some (.iaload, 1) := by decide +kernel
theorem n_77_71 : ∀ l, xpr 77 71 l = l := xpr_no (by decide +kernel)
theorem r_77_72 : xfetch 77 72 = some (.bipush 20, 2) := by decide +kernel
theorem n_77_72 : ∀ l, xpr 77 72 l = l := xpr_no (by decide +kernel)
theorem r_77_74 : xfetch 77 74 = some (.isub, 1) := by decide +kernel
theorem n_77_74 : ∀ l, xpr 77 74 l = l := xpr_no (by decide +kernel)
theorem r_77_75 : xfetch 77 75 = some (.goto 4, 3) := by decide +kernel
theorem n_77_75 : ∀ l, xpr 77 75 l = l := xpr_no (by decide +kernel)
theorem r_77_78 : xfetch 77 78 = some (.iconst 0, 1) := by decide +kernel
theorem n_77_78 : ∀ l, xpr 77 78 l = l := xpr_no (by decide +kernel)
theorem r_77_79 : xfetch 77 79 = some (.iastore, 1) := by decide +kernel
theorem n_77_79 : ∀ l, xpr 77 79 l = l := xpr_no (by decide +kernel)
theorem r_77_80 : xfetch 77 80 = some (.iinc 3 1, 3) := by decide +kernel
theorem n_77_80 : ∀ l, xpr 77 80 l = l := xpr_no (by decide +kernel)
theorem r_77_83 : xfetch 77 83 = some (.goto (-73), 3) := by decide +kernel
theorem n_77_83 : ∀ l, xpr 77 83 l = l := xpr_no (by decide +kernel)
theorem r_77_86 : xfetch 77 86 = some (.aload_n 0, 1) := by decide +kernel
theorem n_77_86 : ∀ l, xpr 77 86 l = l := xpr_no (by decide +kernel)
theorem r_77_87 : xfetch 77 87 = some (.invokevirtual 50, 3) := by decide +kernel
theorem n_77_87 : ∀ l, xpr 77 87 l = l := xpr_no (by decide +kernel)
theorem r_77_90 : xfetch 77 90 = some (.aload_n 0, 1) := by decide +kernel
theorem n_77_90 : ∀ l, xpr 77 90 l = l := xpr_no (by decide +kernel)
theorem r_77_91 : xfetch 77 91 = some (.aload_n 0, 1) := by decide +kernel
theorem n_77_91 : ∀ l, xpr 77 91 l = l := xpr_no (by decide +kernel)
theorem r_77_92 : xfetch 77 92 = some (.getfield 24, 3) := by decide +kernel
theorem n_77_92 : ∀ l, xpr 77 92 l = l := xpr_no (by decide +kernel)
theorem r_77_95 : xfetch 77 95 = some (.iconst 0, 1) := by decide +kernel
theorem n_77_95 : ∀ l, xpr 77 95 l = l := xpr_no (by decide +kernel)
theorem r_77_96 : xfetch 77 96 = some (.iaload, 1) := by decide +kernel
theorem n_77_96 : ∀ l, xpr 77 96 l = l := xpr_no (by decide +kernel)
theorem r_77_97 : xfetch 77 97 = some (.aload_n 2, 1) := by decide +kernel
theorem n_77_97 : ∀ l, xpr 77 97 l = l := xpr_no (by decide +kernel)
theorem r_77_98 : xfetch 77 98 = some (.getfield 53, 3) := by decide +kernel
theorem n_77_98 : ∀ l, xpr 77 98 l = l := xpr_no (by decide +kernel)
theorem r_77_101 : xfetch 77 101 = some (.invokestatic 56, 3) := by decide +kernel
theorem n_77_101 : ∀ l, xpr 77 101 l = l := xpr_no (by decide +kernel)
theorem r_77_104 : xfetch 77 104 = some (.putfield 60, 3) := by decide +kernel
theorem n_77_104 : ∀ l, xpr 77 104 l = l := xpr_no (by decide +kernel)
theorem r_77_107 : xfetch 77 107 = some (.aload_n 0, 1) := by decide +kernel
theorem n_77_107 : ∀ l, xpr 77 107 l = l := xpr_no (by decide +kernel)
theorem r_77_108 : xfetch 77 108 = some (.invokevirtual 63, 3) := by decide +kernel
theorem n_77_108 : ∀ l, xpr 77 108 l = l := xpr_no (by decide +kernel)
theorem r_77_111 : xfetch 77 111 = some (.return_, 1) := by decide +kernel
theorem n_77_111 : ∀ l, xpr 77 111 l = l := xpr_no (by decide +kernel)
theorem v_BestOrder_search_0 {S : Option (Nat × (Nat → Int32))} {s : zSt} {Q : Option Value ⊕ Nat → zSt → Prop} {a1 : Int} {a2 : Int} (ha1 : isO a1 1) (ha2 : isO a2 4)
    (h : wp S 77 10 [(0, rf 42), (1, rf a1), (2, rf a2), (3, iv 0)] [] (zwI s 42 2 (zI s a1 1)) Q) :
    wp S 77 0 [(0, rf 42), (1, rf a1), (2, rf a2)] [] s Q := by
  refine i_aload_n (a := 42) r_77_0 (n_77_0 _) rfl ?_
  refine i_aload_n (a := a1) r_77_1 (n_77_1 _) rfl ?_
  refine i_getI (a := a1) r_77_2 (n_77_2 _) rfl (by decide) ha1 (fun q1 => ?_)
  refine i_putI (a := 42) (x := zI s a1 1) r_77_5 (n_77_5 _) rfl (.inl rfl) rfl lf_42 q1 ?_
  refine i_iconst r_77_8 (n_77_8 _) ?_
  refine i_istore_n (l' := [(0, rf 42), (1, rf a1), (2, rf a2), (3, iv 0)]) r_77_9 (n_77_9 _) (by decide) rfl ?_
  exact wp_pr (l' := [(0, rf 42), (1, rf a1), (2, rf a2), (3, iv 0)]) rfl h
theorem v_BestOrder_search_10 {S : Option (Nat × (Nat → Int32))} {s : zSt} {Q : Option Value ⊕ Nat → zSt → Prop} {a1 : Int} {a2 : Int} {x3 : Int} (ha1 : isO a1 1) (ha2 : isO a2 4)
    (h : rng x3 ∧ (((zI s 42 2) ≤ x3 → wp S 78 0 [(0, rf 42)] [] s (fun o4 s4 => zkU (wp S 24 0 [(0, iv (zI s4 47 0)), (1, iv (zI s4 a2 5))] [] s4 (fun o8 s8 => zkI (fun y8 => wp S 84 0 [(0, rf 42)] [] (zwI s8 42 0 y8) (fun o10 s10 => zkU (Q rU s10) (fun e10 => False) o10)) (fun e8 => False) o8)) (fun e4 => False) o4)) ∧ (x3 < (zI s 42 2) → (0 ≤ x3 ∧ x3 < 8) ∧ (rng ((zI s (a1 + 3) x3) * (zI s (a2 + 3) x3)) ∧ (wp S 46 0 [(0, iv (zI (zwI (zwI s 44 x3 ((zI s (a1 + 3) x3) * (zI s (a2 + 3) x3))) 45 x3 (zI (zwI s 44 x3 ((zI s (a1 + 3) x3) * (zI s (a2 + 3) x3))) (a2 + 4) x3)) (a1 + 2) x3))] [] (zwI (zwI s 44 x3 ((zI s (a1 + 3) x3) * (zI s (a2 + 3) x3))) 45 x3 (zI (zwI s 44 x3 ((zI s (a1 + 3) x3) * (zI s (a2 + 3) x3))) (a2 + 4) x3)) (fun o22 s22 => zkI (fun y22 => (y22 = 0 → wp S 77 10 [(0, rf 42), (1, rf a1), (2, rf a2), (3, iv (x3 + 1))] [] (zwI s22 46 x3 0) Q) ∧ (y22 ≠ 0 → rng ((zI s22 (a1 + 2) x3) - 20) ∧ (wp S 77 10 [(0, rf 42), (1, rf a1), (2, rf a2), (3, iv (x3 + 1))] [] (zwI s22 46 x3 ((zI s22 (a1 + 2) x3) - 20)) Q))) (fun e22 => False) o22)))))) :
    wp S 77 10 [(0, rf 42), (1, rf a1), (2, rf a2), (3, iv x3)] [] s Q := by
  refine i_iload_n (x := x3) r_77_10 rfl rfl ?_
  refine i_aload_n (a := 42) r_77_11 (n_77_11 _) rfl ?_
  refine i_getI (a := 42) r_77_12 (n_77_12 _) rfl (by decide) lf_42 (fun q1 => ?_)
  obtain ⟨g2, h⟩ := h
  refine i_icmp (t := 86) r_77_15 (n_77_15 _) rfl (T_ge g2 q1) (fun c3 => ?_) (fun c3 => ?_)
  · replace h := h.1 c3
    refine i_aload_n (a := 42) r_77_86 (n_77_86 _) rfl ?_
    refine wp_virt (b := 42) (rest := []) (Ls := [(0, rf 42)]) r_77_87 (n_77_87 _) rfl ⟨rfl, rfl, by decide, by decide⟩ rfl rfl lf_42 ⟨rfl, Nat.le_of_ble_eq_true rfl, Nat.le_of_ble_eq_true rfl⟩ rfl h ?_
    intro o4 s4 h
    rcases h with ⟨rfl, h⟩ | ⟨e4, rfl, h⟩
    · refine .inl ⟨none, rfl, ?_⟩
      refine i_aload_n (a := 42) r_77_90 (n_77_90 _) rfl ?_
      refine i_aload_n (a := 42) r_77_91 (n_77_91 _) rfl ?_
      refine i_getR (a := 42) (b := 47) r_77_92 (n_77_92 _) rfl rfl rfl (by omega) lf_42 (by omega) ?_
      refine i_iconst r_77_95 (n_77_95 _) ?_
      refine i_iaload (a := 47) (j := 0) r_77_96 (n_77_96 _) lf_47 ⟨by omega, by omega⟩ (by omega) (by omega) (fun q6 => ?_)
      refine i_aload_n (a := a2) r_77_97 (n_77_97 _) rfl ?_
      refine i_getI (a := a2) r_77_98 (n_77_98 _) rfl (by decide) ha2 (fun q7 => ?_)
      refine wp_stat (rest := [rf 42]) (Ls := [(0, iv (zI s4 47 0)), (1, iv (zI s4 a2 5))]) r_77_101 (n_77_101 _) rfl ⟨rfl, by decide, by decide, by decide⟩ rfl rfl ⟨rfl, Nat.le_of_ble_eq_true rfl, Nat.le_of_ble_eq_true rfl⟩ rfl h ?_
      intro o8 s8 h
      rcases h with ⟨y8, q9, rfl, h⟩ | ⟨e8, rfl, h⟩
      · refine .inl ⟨some (iv y8), rfl, ?_⟩
        show wp S 77 104 [(0, rf 42), (1, rf a1), (2, rf a2), (3, iv x3)] [iv y8, rf 42] s8 Q
        refine i_putI (a := 42) (x := y8) r_77_104 (n_77_104 _) rfl (.inl rfl) rfl lf_42 q9 ?_
        refine i_aload_n (a := 42) r_77_107 (n_77_107 _) rfl ?_
        refine wp_virt (b := 42) (rest := []) (Ls := [(0, rf 42)]) r_77_108 (n_77_108 _) rfl ⟨rfl, rfl, by decide, by decide⟩ rfl rfl lf_42 ⟨rfl, Nat.le_of_ble_eq_true rfl, Nat.le_of_ble_eq_true rfl⟩ rfl h ?_
        intro o10 s10 h
        rcases h with ⟨rfl, h⟩ | ⟨e10, rfl, h⟩
        · refine .inl ⟨none, rfl, ?_⟩
          exact i_return r_77_111 (n_77_111 _) rfl h
        · skip
          exact h.elim
      · skip
        exact h.elim
    · skip
      exact h.elim
  · replace h := h.2 c3
    refine i_aload_n (a := 42) r_77_18 (n_77_18 _) rfl ?_
    refine i_getR (a := 42) (b := 44) r_77_19 (n_77_19 _) rfl rfl rfl (by omega) lf_42 (by omega) ?_
    refine i_iload_n (x := x3) r_77_22 (n_77_22 _) rfl ?_
    refine i_aload_n (a := a1) r_77_23 (n_77_23 _) rfl ?_
    refine i_getR (a := a1) (b := a1 + 3) r_77_24 (n_77_24 _) rfl rfl rfl (by omega) ha1 (by omega) ?_
    have t12 := (t_1_4 ha1)
    refine i_iload_n (x := x3) r_77_27 (n_77_27 _) rfl ?_
    obtain ⟨g13, h⟩ := h
    refine i_iaload (a := a1 + 3) (j := x3) r_77_28 (n_77_28 _) t12 ⟨by omega, by omega⟩ (by omega) (by omega) (fun q14 => ?_)
    refine i_aload_n (a := a2) r_77_29 (n_77_29 _) rfl ?_
    refine i_getR (a := a2) (b := a2 + 3) r_77_30 (n_77_30 _) rfl rfl rfl (by omega) ha2 (by omega) ?_
    have t15 := (t_4_2 ha2)
    refine i_iload_n (x := x3) r_77_33 (n_77_33 _) rfl ?_
    refine i_iaload (a := a2 + 3) (j := x3) r_77_34 (n_77_34 _) t15 ⟨by omega, by omega⟩ (by omega) (by omega) (fun q16 => ?_)
    refine i_imul r_77_35 (n_77_35 _) ?_
    obtain ⟨g17, h⟩ := h
    refine i_iastore (a := 44) (j := x3) (x := (zI s (a1 + 3) x3) * (zI s (a2 + 3) x3)) r_77_36 (n_77_36 _) lf_44 ⟨by omega, by omega⟩ (by omega) (by omega) g17 ?_
    refine i_aload_n (a := 42) r_77_37 (n_77_37 _) rfl ?_
    refine i_getR (a := 42) (b := 45) r_77_38 (n_77_38 _) rfl rfl rfl (by omega) lf_42 (by omega) ?_
    refine i_iload_n (x := x3) r_77_41 (n_77_41 _) rfl ?_
    refine i_aload_n (a := a2) r_77_42 (n_77_42 _) rfl ?_
    refine i_getR (a := a2) (b := a2 + 4) r_77_43 (n_77_43 _) rfl rfl rfl (by omega) ha2 (by omega) ?_
    have t18 := (t_4_3 ha2)
    refine i_iload_n (x := x3) r_77_46 (n_77_46 _) rfl ?_
    refine i_iaload (a := a2 + 4) (j := x3) r_77_47 (n_77_47 _) t18 ⟨by omega, by omega⟩ (by omega) (by omega) (fun q19 => ?_)
    refine i_iastore (a := 45) (j := x3) (x := zI (zwI s 44 x3 ((zI s (a1 + 3) x3) * (zI s (a2 + 3) x3))) (a2 + 4) x3) r_77_48 (n_77_48 _) lf_45 ⟨by omega, by omega⟩ (by omega) (by omega) q19 ?_
    refine i_aload_n (a := 42) r_77_49 (n_77_49 _) rfl ?_
    refine i_getR (a := 42) (b := 46) r_77_50 (n_77_50 _) rfl rfl rfl (by omega) lf_42 (by omega) ?_
    refine i_iload_n (x := x3) r_77_53 (n_77_53 _) rfl ?_
    refine i_aload_n (a := a1) r_77_54 (n_77_54 _) rfl ?_
    refine i_getR (a := a1) (b := a1 + 2) r_77_55 (n_77_55 _) rfl rfl rfl (by omega) ha1 (by omega) ?_
    have t20 := (t_1_3 ha1)
    refine i_iload_n (x := x3) r_77_58 (n_77_58 _) rfl ?_
    refine i_iaload (a := a1 + 2) (j := x3) r_77_59 (n_77_59 _) t20 ⟨by omega, by omega⟩ (by omega) (by omega) (fun q21 => ?_)
    refine wp_stat (rest := [iv x3, rf 46]) (Ls := [(0, iv (zI (zwI (zwI s 44 x3 ((zI s (a1 + 3) x3) * (zI s (a2 + 3) x3))) 45 x3 (zI (zwI s 44 x3 ((zI s (a1 + 3) x3) * (zI s (a2 + 3) x3))) (a2 + 4) x3)) (a1 + 2) x3))]) r_77_60 (n_77_60 _) rfl ⟨rfl, by decide, by decide, by decide⟩ rfl rfl ⟨rfl, Nat.le_of_ble_eq_true rfl, Nat.le_of_ble_eq_true rfl⟩ rfl h ?_
    intro o22 s22 h
    rcases h with ⟨y22, q23, rfl, h⟩ | ⟨e22, rfl, h⟩
    · refine .inl ⟨some (iv y22), rfl, ?_⟩
      show wp S 77 63 [(0, rf 42), (1, rf a1), (2, rf a2), (3, iv x3)] [iv y22, iv x3, rf 46] s22 Q
      refine i_if (t := 78) r_77_63 (n_77_63 _) rfl (T_eq q23 ⟨by omega, by omega⟩) (fun c24 => ?_) (fun c24 => ?_)
      · replace h := h.1 c24
        refine i_iconst r_77_78 (n_77_78 _) ?_
        refine i_iastore (a := 46) (j := x3) (x := 0) r_77_79 (n_77_79 _) lf_46 ⟨by omega, by omega⟩ (by omega) (by omega) ⟨by omega, by omega⟩ ?_
        refine i_iinc (x := x3) (l' := [(0, rf 42), (1, rf a1), (2, rf a2), (3, iv (x3 + 1))]) r_77_80 (n_77_80 _) (by decide) rfl rfl ?_
        refine i_goto (t := 10) r_77_83 (n_77_83 _) rfl ?_
        exact wp_pr (l' := [(0, rf 42), (1, rf a1), (2, rf a2), (3, iv (x3 + 1))]) rfl h
      · replace h := h.2 c24
        refine i_aload_n (a := a1) r_77_66 (n_77_66 _) rfl ?_
        refine i_getR (a := a1) (b := a1 + 2) r_77_67 (n_77_67 _) rfl rfl rfl (by omega) ha1 (by omega) ?_
        have t25 := (t_1_3 ha1)
        refine i_iload_n (x := x3) r_77_70 (n_77_70 _) rfl ?_
        refine i_iaload (a := a1 + 2) (j := x3) r_77_71 (n_77_71 _) t25 ⟨by omega, by omega⟩ (by omega) (by omega) (fun q26 => ?_)
        refine i_bipush r_77_72 (n_77_72 _) rfl ?_
        refine i_isub r_77_74 (n_77_74 _) ?_
        refine i_goto (t := 79) r_77_75 (n_77_75 _) rfl ?_
        obtain ⟨g27, h⟩ := h
        refine i_iastore (a := 46) (j := x3) (x := (zI s22 (a1 + 2) x3) - 20) r_77_79 (n_77_79 _) lf_46 ⟨by omega, by omega⟩ (by omega) (by omega) g27 ?_
        refine i_iinc (x := x3) (l' := [(0, rf 42), (1, rf a1), (2, rf a2), (3, iv (x3 + 1))]) r_77_80 (n_77_80 _) (by decide) rfl rfl ?_
        refine i_goto (t := 10) r_77_83 (n_77_83 _) rfl ?_
        exact wp_pr (l' := [(0, rf 42), (1, rf a1), (2, rf a2), (3, iv (x3 + 1))]) rfl h
    · skip
      exact h.elim
theorem r_78_0 : xfetch 78 0 = some (.iconst 1, 1) := by decide +kernel
theorem n_78_0 : ∀ l, xpr 78 0 l = l := xpr_no (by decide +kernel)
theorem r_78_1 : xfetch 78 1 = some (.aload_n 0, 1) := by decide +kernel
theorem n_78_1 : ∀ l, xpr 78 1 l = l := xpr_no (by decide +kernel)
theorem r_78_2 : xfetch 78 2 = some (.getfield 33, 3) := by decide +kernel
theorem n_78_2 : ∀ l, xpr 78 2 l = l := xpr_no (by decide +kernel)
theorem r_78_5 : xfetch 78 5 = some (.ishl, 1) := by decide +kernel
theorem n_78_5 : ∀ l, xpr 78 5 l = l := xpr_no (by decide +kernel)
theorem r_78_6 : xfetch 78 6 = some (.iconst 1, 1) := by decide +kernel
theorem n_78_6 : ∀ l, xpr 78 6 l = l := xpr_no (by decide +kernel)
theorem r_78_7 : xfetch 78 7 = some (.isub, 1) := by decide +kernel
theorem n_78_7 : ∀ l, xpr 78 7 l = l := xpr_no (by decide +kernel)
theorem r_78_8 : xfetch 78 8 = some (.istore_n 1, 1) := by decide +kernel
theorem n_78_8 : ∀ l, xpr 78 8 l = l := xpr_no (by decide +kernel)
theorem r_78_9 : xfetch 78 9 = some (.iload_n 1, 1) := by decide +kernel
theorem r_78_10 : xfetch 78 10 = some (.ifCond .lt 54, 3) := by decide +kernel
theorem n_78_10 : ∀ l, xpr 78 10 l = l := xpr_no (by decide +kernel)
theorem r_78_13 : xfetch 78 13 = some (.aload_n 0, 1) := by decide +kernel
theorem n_78_13 : ∀ l, xpr 78 13 l = l := xpr_no (by decide +kernel)
theorem r_78_14 : xfetch 78 14 = some (.iload_n 1, 1) := by decide +kernel
theorem n_78_14 : ∀ l, xpr 78 14 l = l := xpr_no (by decide +kernel)
theorem r_78_15 : xfetch 78 15 = some (.invokevirtual 66, 3) := by decide +kernel
theorem n_78_15 : ∀ l, xpr 78 15 l = l := xpr_no (by decide +kernel)
theorem r_78_18 : xfetch 78 18 = some (.ifCond .eq 8, 3) := by decide +kernel
theorem n_78_18 : ∀ l, xpr 78 18 l = l := xpr_no (by decide +kernel)
theorem r_78_21 : xfetch 78 21 = some (.bipush 16, 2) := by decide +kernel
theorem n_78_21 : ∀ l, xpr 78 21 l = l := xpr_no (by decide +kernel)
theorem r_78_23 : xfetch 78 23 = some (.goto 4, 3) := by decide +kernel
theorem n_78_23 : ∀ l, xpr 78 23 l = l := xpr_no (by decide +kernel)
theorem r_78_26 : xfetch 78 26 = some (.iconst 1, 1) := by decide +kernel
theorem n_78_26 : ∀ l, xpr 78 26 l = l := xpr_no (by decide +kernel)
theorem r_78_27 : xfetch 78 27 = some (.istore_n 2, 1) := by decide +kernel
theorem n_78_27 : ∀ l, xpr 78 27 l = l := xpr_no (by decide +kernel)
theorem r_78_28 : xfetch 78 28 = some (.iconst 0, 1) := by decide +kernel
theorem n_78_28 : ∀ l, xpr 78 28 l = l := xpr_no (by decide +kernel)
theorem r_78_29 : xfetch 78 29 = some (.istore_n 3, 1) := by decide +kernel
theorem n_78_29 : ∀ l, xpr 78 29 l = l := xpr_no (by decide +kernel)
theorem r_78_30 : xfetch 78 30 = some (.iload_n 3, 1) := by decide +kernel
theorem r_78_31 : xfetch 78 31 = some (.iload_n 2, 1) := by decide +kernel
theorem n_78_31 : ∀ l, xpr 78 31 l = l := xpr_no (by decide +kernel)
theorem r_78_32 : xfetch 78 32 = some (.if_icmp .ge 26, 3) := by decide +kernel
theorem n_78_32 : ∀ l, xpr 78 32 l = l := xpr_no (by decide +kernel)
theorem r_78_35 : xfetch 78 35 = some (.aload_n 0, 1) := by decide +kernel
theorem n_78_35 : ∀ l, xpr 78 35 l = l := xpr_no (by decide +kernel)
theorem r_78_36 : xfetch 78 36 = some (.getfield 24, 3) := by decide +kernel
theorem n_78_36 : ∀ l, xpr 78 36 l = l := xpr_no (by decide +kernel)
theorem r_78_39 : xfetch 78 39 = some (.iload_n 1, 1) := by decide +kernel
theorem n_78_39 : ∀ l, xpr 78 39 l = l := xpr_no (by decide +kernel)
theorem r_78_40 : xfetch 78 40 = some (.bipush 16, 2) := by decide +kernel
theorem n_78_40 : ∀ l, xpr 78 40 l = l := xpr_no (by decide +kernel)
theorem r_78_42 : xfetch 78 42 = some (.imul, 1) := by decide +kernel
theorem n_78_42 : ∀ l, xpr 78 42 l = l := xpr_no (by decide +kernel)
theorem r_78_43 : xfetch 78 43 = some (.iload_n 3, 1) := by decide +kernel
theorem n_78_43 : ∀ l, xpr 78 43 l = l := xpr_no (by decide +kernel)
theorem r_78_44 : xfetch 78 44 = some (.iadd, 1) := by decide +kernel
theorem n_78_44 : ∀ l, xpr 78 44 l = l := xpr_no (by decide +kernel)
theorem r_78_45 : xfetch 78 45 = some (.aload_n 0, 1) := by decide +kernel
theorem n_78_45 : ∀ l, xpr 78 45 l = l := xpr_no (by decide +kernel)
theorem r_78_46 : xfetch 78 46 = some (.iload_n 1, 1) := by decide +kernel
theorem n_78_46 : ∀ l, xpr 78 46 l = l := xpr_no (by decide +kernel)
theorem r_78_47 : xfetch 78 47 = some (.iload_n 3, 1) := by decide +kernel
theorem n_78_47 : ∀ l, xpr 78 47 l = l := xpr_no (by decide +kernel)
theorem r_78_48 : xfetch 78 48 = some (.invokevirtual 69, 3) := by decide +kernel
theorem n_78_48 : ∀ l, xpr 78 48 l = l := xpr_no (by decide +kernel)
theorem r_78_51 : xfetch 78 51 = some (.iastore, 1) := by decide +kernel
theorem n_78_51 : ∀ l, xpr 78 51 l = l := xpr_no (by decide +kernel)
theorem r_78_52 : xfetch 78 52 = some (.iinc 3 1, 3) := by decide +kernel
theorem n_78_52 : ∀ l, xpr 78 52 l = l := xpr_no (by decide +kernel)
theorem r_78_55 : xfetch 78 55 = some (.goto (-25), 3) := by decide +kernel
theorem n_78_55 : ∀ l, xpr 78 55 l = l := xpr_no (by decide +kernel)
theorem r_78_58 : xfetch 78 58 = some (.iinc 1 (-1), 3) := by decide +kernel
theorem n_78_58 : ∀ l, xpr 78 58 l = l := xpr_no (by decide +kernel)
theorem r_78_61 : xfetch 78 61 = some (.goto (-52), 3) := by decide +kernel
theorem n_78_61 : ∀ l, xpr 78 61 l = l := xpr_no (by decide +kernel)
theorem r_78_64 : xfetch 78 64 = some (.return_, 1) := by decide +kernel
theorem n_78_64 : ∀ l, xpr 78 64 l = l := xpr_no (by decide +kernel)
theorem v_BestOrder_fillNeeds_0 {S : Option (Nat × (Nat → Int32))} {s : zSt} {Q : Option Value ⊕ Nat → zSt → Prop}  
    (h : wp S 78 9 [(0, rf 42), (1, iv ((zshl 1 (zI s 42 2)) - 1))] [] s Q) :
    wp S 78 0 [(0, rf 42)] [] s Q := by
  refine i_iconst r_78_0 (n_78_0 _) ?_
  refine i_aload_n (a := 42) r_78_1 (n_78_1 _) rfl ?_
  refine i_getI (a := 42) r_78_2 (n_78_2 _) rfl (by decide) lf_42 (fun q1 => ?_)
  refine i_ishl r_78_5 (n_78_5 _) ?_
  refine i_iconst r_78_6 (n_78_6 _) ?_
  refine i_isub r_78_7 (n_78_7 _) ?_
  refine i_istore_n (l' := [(0, rf 42), (1, iv ((zshl 1 (zI s 42 2)) - 1))]) r_78_8 (n_78_8 _) (by decide) rfl ?_
  exact wp_pr (l' := [(0, rf 42), (1, iv ((zshl 1 (zI s 42 2)) - 1))]) rfl h
theorem v_BestOrder_fillNeeds_9 {S : Option (Nat × (Nat → Int32))} {s : zSt} {Q : Option Value ⊕ Nat → zSt → Prop} {x1 : Int} 
    (h : rng x1 ∧ ((x1 < 0 → Q rU s) ∧ (0 ≤ x1 → wp S 79 0 [(0, rf 42), (1, iv x1)] [] s (fun o3 s3 => zkI (fun y3 => (y3 = 0 → wp S 78 30 [(0, rf 42), (1, iv x1), (2, iv 1), (3, iv 0)] [] s3 Q) ∧ (y3 ≠ 0 → wp S 78 30 [(0, rf 42), (1, iv x1), (2, iv 16), (3, iv 0)] [] s3 Q)) (fun e3 => False) o3)))) :
    wp S 78 9 [(0, rf 42), (1, iv x1)] [] s Q := by
  refine i_iload_n (x := x1) r_78_9 rfl rfl ?_
  obtain ⟨g1, h⟩ := h
  refine i_if (t := 64) r_78_10 (n_78_10 _) rfl (T_lt g1 ⟨by omega, by omega⟩) (fun c2 => ?_) (fun c2 => ?_)
  · replace h := h.1 c2
    exact i_return r_78_64 (n_78_64 _) rfl h
  · replace h := h.2 c2
    refine i_aload_n (a := 42) r_78_13 (n_78_13 _) rfl ?_
    refine i_iload_n (x := x1) r_78_14 (n_78_14 _) rfl ?_
    refine wp_virt (b := 42) (rest := []) (Ls := [(0, rf 42), (1, iv x1)]) r_78_15 (n_78_15 _) rfl ⟨rfl, rfl, by decide, by decide⟩ rfl rfl lf_42 ⟨rfl, Nat.le_of_ble_eq_true rfl, Nat.le_of_ble_eq_true rfl⟩ rfl h ?_
    intro o3 s3 h
    rcases h with ⟨y3, q4, rfl, h⟩ | ⟨e3, rfl, h⟩
    · refine .inl ⟨some (iv y3), rfl, ?_⟩
      show wp S 78 18 [(0, rf 42), (1, iv x1)] [iv y3] s3 Q
      refine i_if (t := 26) r_78_18 (n_78_18 _) rfl (T_eq q4 ⟨by omega, by omega⟩) (fun c5 => ?_) (fun c5 => ?_)
      · replace h := h.1 c5
        refine i_iconst r_78_26 (n_78_26 _) ?_
        refine i_istore_n (l' := [(0, rf 42), (1, iv x1), (2, iv 1)]) r_78_27 (n_78_27 _) (by decide) rfl ?_
        refine i_iconst r_78_28 (n_78_28 _) ?_
        refine i_istore_n (l' := [(0, rf 42), (1, iv x1), (2, iv 1), (3, iv 0)]) r_78_29 (n_78_29 _) (by decide) rfl ?_
        exact wp_pr (l' := [(0, rf 42), (1, iv x1), (2, iv 1), (3, iv 0)]) rfl h
      · replace h := h.2 c5
        refine i_bipush r_78_21 (n_78_21 _) rfl ?_
        refine i_goto (t := 27) r_78_23 (n_78_23 _) rfl ?_
        refine i_istore_n (l' := [(0, rf 42), (1, iv x1), (2, iv 16)]) r_78_27 (n_78_27 _) (by decide) rfl ?_
        refine i_iconst r_78_28 (n_78_28 _) ?_
        refine i_istore_n (l' := [(0, rf 42), (1, iv x1), (2, iv 16), (3, iv 0)]) r_78_29 (n_78_29 _) (by decide) rfl ?_
        exact wp_pr (l' := [(0, rf 42), (1, iv x1), (2, iv 16), (3, iv 0)]) rfl h
    · skip
      exact h.elim
theorem v_BestOrder_fillNeeds_30 {S : Option (Nat × (Nat → Int32))} {s : zSt} {Q : Option Value ⊕ Nat → zSt → Prop} {x1 : Int} {x2 : Int} {x3 : Int} 
    (h : rng x3 ∧ (rng x2 ∧ ((x2 ≤ x3 → wp S 78 9 [(0, rf 42), (1, iv (x1 + (-1)))] [] s Q) ∧ (x3 < x2 → wp S 80 0 [(0, rf 42), (1, iv x1), (2, iv x3)] [] s (fun o4 s4 => zkI (fun y4 => (0 ≤ ((x1 * 16) + x3) ∧ ((x1 * 16) + x3) < 4096) ∧ (wp S 78 30 [(0, rf 42), (1, iv x1), (2, iv x2), (3, iv (x3 + 1))] [] (zwI s4 47 ((x1 * 16) + x3) y4) Q)) (fun e4 => False) o4))))) :
    wp S 78 30 [(0, rf 42), (1, iv x1), (2, iv x2), (3, iv x3)] [] s Q := by
  refine i_iload_n (x := x3) r_78_30 rfl rfl ?_
  refine i_iload_n (x := x2) r_78_31 (n_78_31 _) rfl ?_
  obtain ⟨g1, h⟩ := h
  obtain ⟨g2, h⟩ := h
  refine i_icmp (t := 58) r_78_32 (n_78_32 _) rfl (T_ge g1 g2) (fun c3 => ?_) (fun c3 => ?_)
  · replace h := h.1 c3
    refine i_iinc (x := x1) (l' := [(0, rf 42), (1, iv (x1 + (-1))), (2, iv x2), (3, iv x3)]) r_78_58 (n_78_58 _) (by decide) rfl rfl ?_
    refine i_goto (t := 9) r_78_61 (n_78_61 _) rfl ?_
    exact wp_pr (l' := [(0, rf 42), (1, iv (x1 + (-1)))]) rfl h
  · replace h := h.2 c3
    refine i_aload_n (a := 42) r_78_35 (n_78_35 _) rfl ?_
    refine i_getR (a := 42) (b := 47) r_78_36 (n_78_36 _) rfl rfl rfl (by omega) lf_42 (by omega) ?_
    refine i_iload_n (x := x1) r_78_39 (n_78_39 _) rfl ?_
    refine i_bipush r_78_40 (n_78_40 _) rfl ?_
    refine i_imul r_78_42 (n_78_42 _) ?_
    refine i_iload_n (x := x3) r_78_43 (n_78_43 _) rfl ?_
    refine i_iadd r_78_44 (n_78_44 _) ?_
    refine i_aload_n (a := 42) r_78_45 (n_78_45 _) rfl ?_
    refine i_iload_n (x := x1) r_78_46 (n_78_46 _) rfl ?_
    refine i_iload_n (x := x3) r_78_47 (n_78_47 _) rfl ?_
    refine wp_virt (b := 42) (rest := [iv ((x1 * 16) + x3), rf 47]) (Ls := [(0, rf 42), (1, iv x1), (2, iv x3)]) r_78_48 (n_78_48 _) rfl ⟨rfl, rfl, by decide, by decide⟩ rfl rfl lf_42 ⟨rfl, Nat.le_of_ble_eq_true rfl, Nat.le_of_ble_eq_true rfl⟩ rfl h ?_
    intro o4 s4 h
    rcases h with ⟨y4, q5, rfl, h⟩ | ⟨e4, rfl, h⟩
    · refine .inl ⟨some (iv y4), rfl, ?_⟩
      show wp S 78 51 [(0, rf 42), (1, iv x1), (2, iv x2), (3, iv x3)] [iv y4, iv ((x1 * 16) + x3), rf 47] s4 Q
      obtain ⟨g6, h⟩ := h
      refine i_iastore (a := 47) (j := (x1 * 16) + x3) (x := y4) r_78_51 (n_78_51 _) lf_47 ⟨by omega, by omega⟩ (by omega) (by omega) q5 ?_
      refine i_iinc (x := x3) (l' := [(0, rf 42), (1, iv x1), (2, iv x2), (3, iv (x3 + 1))]) r_78_52 (n_78_52 _) (by decide) rfl rfl ?_
      refine i_goto (t := 30) r_78_55 (n_78_55 _) rfl ?_
      exact wp_pr (l' := [(0, rf 42), (1, iv x1), (2, iv x2), (3, iv (x3 + 1))]) rfl h
    · skip
      exact h.elim
theorem r_79_0 : xfetch 79 0 = some (.iconst 0, 1) := by decide +kernel
theorem n_79_0 : ∀ l, xpr 79 0 l = l := xpr_no (by decide +kernel)
theorem r_79_1 : xfetch 79 1 = some (.istore_n 2, 1) := by decide +kernel
theorem n_79_1 : ∀ l, xpr 79 1 l = l := xpr_no (by decide +kernel)
theorem r_79_2 : xfetch 79 2 = some (.iload_n 2, 1) := by decide +kernel
theorem r_79_3 : xfetch 79 3 = some (.aload_n 0, 1) := by decide +kernel
theorem n_79_3 : ∀ l, xpr 79 3 l = l := xpr_no (by decide +kernel)
theorem r_79_4 : xfetch 79 4 = some (.getfield 33, 3) := by decide +kernel
theorem n_79_4 : ∀ l, xpr 79 4 l = l := xpr_no (by decide +kernel)
theorem r_79_7 : xfetch 79 7 = some (.if_icmp .ge 29, 3) := by decide +kernel
theorem n_79_7 : ∀ l, xpr 79 7 l = l := xpr_no (by decide +kernel)
theorem r_79_10 : xfetch 79 10 = some (.iload_n 1, 1) := by decide +kernel
theorem n_79_10 : ∀ l, xpr 79 10 l = l := xpr_no (by decide +kernel)
theorem r_79_11 : xfetch 79 11 = some (.iload_n 2, 1) := by decide +kernel
theorem n_79_11 : ∀ l, xpr 79 11 l = l := xpr_no (by decide +kernel)
theorem r_79_12 : xfetch 79 12 = some (.ishr, 1) := by decide +kernel
theorem n_79_12 : ∀ l, xpr 79 12 l = l := xpr_no (by decide +kernel)
theorem r_79_13 : xfetch 79 13 = some (.iconst 1, 1) := by decide +kernel
theorem n_79_13 : ∀ l, xpr 79 13 l = l := xpr_no (by decide +kernel)
theorem r_79_14 : xfetch 79 14 = some (.iand, 1) := by decide +kernel
theorem n_79_14 : ∀ l, xpr 79 14 l = l := xpr_no (by decide +kernel)
theorem r_79_15 : xfetch 79 15 = some (.iconst 1, 1) := by decide +kernel
theorem n_79_15 : ∀ l, xpr 79 15 l = l := xpr_no (by decide +kernel)
theorem r_79_16 : xfetch 79 16 = some (.if_icmp .ne 14, 3) := by decide +kernel
theorem n_79_16 : ∀ l, xpr 79 16 l = l := xpr_no (by decide +kernel)
theorem r_79_19 : xfetch 79 19 = some (.aload_n 0, 1) := by decide +kernel
theorem n_79_19 : ∀ l, xpr 79 19 l = l := xpr_no (by decide +kernel)
theorem r_79_20 : xfetch 79 20 = some (.getfield 21, 3) := by decide +kernel
theorem n_79_20 : ∀ l, xpr 79 20 l = l := xpr_no (by decide +kernel)
theorem r_79_23 : xfetch 79 23 = some (.iload_n 2, 1) := by decide +kernel
theorem n_79_23 : ∀ l, xpr 79 23 l = l := xpr_no (by decide +kernel)
theorem r_79_24 : xfetch 79 24 = some (.iaload, 1) := by decide +kernel
theorem n_79_24 : ∀ l, xpr 79 24 l = l := xpr_no (by decide +kernel)
theorem r_79_25 : xfetch 79 25 = some (.ifCond .le 5, 3) := by decide +kernel
theorem n_79_25 : ∀ l, xpr 79 25 l = l := xpr_no (by decide +kernel)
theorem r_79_28 : xfetch 79 28 = some (.iconst 1, 1) := by decide +kernel
theorem n_79_28 : ∀ l, xpr 79 28 l = l := xpr_no (by decide +kernel)
theorem r_79_29 : xfetch 79 29 = some (.ireturn, 1) := by decide +kernel
theorem n_79_29 : ∀ l, xpr 79 29 l = l := xpr_no (by decide +kernel)
theorem r_79_30 : xfetch 79 30 = some (.iinc 2 1, 3) := by decide +kernel
theorem n_79_30 : ∀ l, xpr 79 30 l = l := xpr_no (by decide +kernel)
theorem r_79_33 : xfetch 79 33 = some (.goto (-31), 3) := by decide +kernel
theorem n_79_33 : ∀ l, xpr 79 33 l = l := xpr_no (by decide +kernel)
theorem r_79_36 : xfetch 79 36 = some (.iconst 0, 1) := by decide +kernel
theorem n_79_36 : ∀ l, xpr 79 36 l = l := xpr_no (by decide +kernel)
theorem r_79_37 : xfetch 79 37 = some (.ireturn, 1) := by decide +kernel
theorem n_79_37 : ∀ l, xpr 79 37 l = l := xpr_no (by decide +kernel)
theorem v_BestOrder_hasBits_0 {S : Option (Nat × (Nat → Int32))} {s : zSt} {Q : Option Value ⊕ Nat → zSt → Prop} {x1 : Int} 
    (h : wp S 79 2 [(0, rf 42), (1, iv x1), (2, iv 0)] [] s Q) :
    wp S 79 0 [(0, rf 42), (1, iv x1)] [] s Q := by
  refine i_iconst r_79_0 (n_79_0 _) ?_
  refine i_istore_n (l' := [(0, rf 42), (1, iv x1), (2, iv 0)]) r_79_1 (n_79_1 _) (by decide) rfl ?_
  exact wp_pr (l' := [(0, rf 42), (1, iv x1), (2, iv 0)]) rfl h
theorem v_BestOrder_hasBits_2 {S : Option (Nat × (Nat → Int32))} {s : zSt} {Q : Option Value ⊕ Nat → zSt → Prop} {x1 : Int} {x2 : Int} 
    (h : rng x2 ∧ (((zI s 42 2) ≤ x2 → Q (rI 0) s) ∧ (x2 < (zI s 42 2) → ((zand (zshr x1 x2) 1) ≠ 1 → wp S 79 2 [(0, rf 42), (1, iv x1), (2, iv (x2 + 1))] [] s Q) ∧ ((zand (zshr x1 x2) 1) = 1 → (0 ≤ x2 ∧ x2 < 8) ∧ (((zI s 46 x2) ≤ 0 → wp S 79 2 [(0, rf 42), (1, iv x1), (2, iv (x2 + 1))] [] s Q) ∧ (0 < (zI s 46 x2) → Q (rI 1) s)))))) :
    wp S 79 2 [(0, rf 42), (1, iv x1), (2, iv x2)] [] s Q := by
  refine i_iload_n (x := x2) r_79_2 rfl rfl ?_
  refine i_aload_n (a := 42) r_79_3 (n_79_3 _) rfl ?_
  refine i_getI (a := 42) r_79_4 (n_79_4 _) rfl (by decide) lf_42 (fun q1 => ?_)
  obtain ⟨g2, h⟩ := h
  refine i_icmp (t := 36) r_79_7 (n_79_7 _) rfl (T_ge g2 q1) (fun c3 => ?_) (fun c3 => ?_)
  · replace h := h.1 c3
    refine i_iconst r_79_36 (n_79_36 _) ?_
    exact i_zreturn r_79_37 (n_79_37 _) rfl (by decide) h
  · replace h := h.2 c3
    refine i_iload_n (x := x1) r_79_10 (n_79_10 _) rfl ?_
    refine i_iload_n (x := x2) r_79_11 (n_79_11 _) rfl ?_
    refine i_ishr r_79_12 (n_79_12 _) ?_
    refine i_iconst r_79_13 (n_79_13 _) ?_
    refine i_iand r_79_14 (n_79_14 _) ?_
    refine i_iconst r_79_15 (n_79_15 _) ?_
    refine i_icmp (t := 30) r_79_16 (n_79_16 _) rfl (T_ne (rng_to _) ⟨by omega, by omega⟩) (fun c4 => ?_) (fun c4 => ?_)
    · replace h := h.1 c4
      refine i_iinc (x := x2) (l' := [(0, rf 42), (1, iv x1), (2, iv (x2 + 1))]) r_79_30 (n_79_30 _) (by decide) rfl rfl ?_
      refine i_goto (t := 2) r_79_33 (n_79_33 _) rfl ?_
      exact wp_pr (l' := [(0, rf 42), (1, iv x1), (2, iv (x2 + 1))]) rfl h
    · replace h := h.2 c4
      refine i_aload_n (a := 42) r_79_19 (n_79_19 _) rfl ?_
      refine i_getR (a := 42) (b := 46) r_79_20 (n_79_20 _) rfl rfl rfl (by omega) lf_42 (by omega) ?_
      refine i_iload_n (x := x2) r_79_23 (n_79_23 _) rfl ?_
      obtain ⟨g5, h⟩ := h
      refine i_iaload (a := 46) (j := x2) r_79_24 (n_79_24 _) lf_46 ⟨by omega, by omega⟩ (by omega) (by omega) (fun q6 => ?_)
      refine i_if (t := 30) r_79_25 (n_79_25 _) rfl (T_le q6 ⟨by omega, by omega⟩) (fun c7 => ?_) (fun c7 => ?_)
      · replace h := h.1 c7
        refine i_iinc (x := x2) (l' := [(0, rf 42), (1, iv x1), (2, iv (x2 + 1))]) r_79_30 (n_79_30 _) (by decide) rfl rfl ?_
        refine i_goto (t := 2) r_79_33 (n_79_33 _) rfl ?_
        exact wp_pr (l' := [(0, rf 42), (1, iv x1), (2, iv (x2 + 1))]) rfl h
      · replace h := h.2 c7
        refine i_iconst r_79_28 (n_79_28 _) ?_
        exact i_zreturn r_79_29 (n_79_29 _) rfl (by decide) h
theorem r_80_0 : xfetch 80 0 = some (.iload_n 1, 1) := by decide +kernel
theorem n_80_0 : ∀ l, xpr 80 0 l = l := xpr_no (by decide +kernel)
theorem r_80_1 : xfetch 80 1 = some (.iconst 1, 1) := by decide +kernel
theorem n_80_1 : ∀ l, xpr 80 1 l = l := xpr_no (by decide +kernel)
theorem r_80_2 : xfetch 80 2 = some (.iadd, 1) := by decide +kernel
theorem n_80_2 : ∀ l, xpr 80 2 l = l := xpr_no (by decide +kernel)
theorem r_80_3 : xfetch 80 3 = some (.iconst 1, 1) := by decide +kernel
theorem n_80_3 : ∀ l, xpr 80 3 l = l := xpr_no (by decide +kernel)
theorem r_80_4 : xfetch 80 4 = some (.aload_n 0, 1) := by decide +kernel
theorem n_80_4 : ∀ l, xpr 80 4 l = l := xpr_no (by decide +kernel)
theorem r_80_5 : xfetch 80 5 = some (.getfield 33, 3) := by decide +kernel
theorem n_80_5 : ∀ l, xpr 80 5 l = l := xpr_no (by decide +kernel)
theorem r_80_8 : xfetch 80 8 = some (.ishl, 1) := by decide +kernel
theorem n_80_8 : ∀ l, xpr 80 8 l = l := xpr_no (by decide +kernel)
theorem r_80_9 : xfetch 80 9 = some (.if_icmp .ne 7, 3) := by decide +kernel
theorem n_80_9 : ∀ l, xpr 80 9 l = l := xpr_no (by decide +kernel)
theorem r_80_12 : xfetch 80 12 = some (.iconst 0, 1) := by decide +kernel
theorem n_80_12 : ∀ l, xpr 80 12 l = l := xpr_no (by decide +kernel)
theorem r_80_13 : xfetch 80 13 = some (.goto 5, 3) := by decide +kernel
theorem n_80_13 : ∀ l, xpr 80 13 l = l := xpr_no (by decide +kernel)
theorem r_80_16 : xfetch 80 16 = some (.ldc 72, 2) := by decide +kernel
theorem n_80_16 : ∀ l, xpr 80 16 l = l := xpr_no (by decide +kernel)
theorem r_80_18 : xfetch 80 18 = some (.istore_n 3, 1) := by decide +kernel
theorem n_80_18 : ∀ l, xpr 80 18 l = l := xpr_no (by decide +kernel)
theorem r_80_19 : xfetch 80 19 = some (.iconst 0, 1) := by decide +kernel
theorem n_80_19 : ∀ l, xpr 80 19 l = l := xpr_no (by decide +kernel)
theorem r_80_20 : xfetch 80 20 = some (.istore 4, 2) := by decide +kernel
theorem n_80_20 : ∀ l, xpr 80 20 l = l := xpr_no (by decide +kernel)
theorem r_80_22 : xfetch 80 22 = some (.iload 4, 2) := by decide +kernel
theorem r_80_24 : xfetch 80 24 = some (.aload_n 0, 1) := by decide +kernel
theorem n_80_24 : ∀ l, xpr 80 24 l = l := xpr_no (by decide +kernel)
theorem r_80_25 : xfetch 80 25 = some (.getfield 33, 3) := by decide +kernel
theorem n_80_25 : ∀ l, xpr 80 25 l = l := xpr_no (by decide +kernel)
theorem r_80_28 : xfetch 80 28 = some (.if_icmp .ge 72, 3) := by decide +kernel
theorem n_80_28 : ∀ l, xpr 80 28 l = l := xpr_no (by decide +kernel)
theorem r_80_31 : xfetch 80 31 = some (.iload_n 1, 1) := by decide +kernel
theorem n_80_31 : ∀ l, xpr 80 31 l = l := xpr_no (by decide +kernel)
theorem r_80_32 : xfetch 80 32 = some (.iload 4, 2) := by decide +kernel
theorem n_80_32 : ∀ l, xpr 80 32 l = l := xpr_no (by decide +kernel)
theorem r_80_34 : xfetch 80 34 = some (.ishr, 1) := by decide +kernel
theorem n_80_34 : ∀ l, xpr 80 34 l = l := xpr_no (by decide +kernel)
theorem r_80_35 : xfetch 80 35 = some (.iconst 1, 1) := by decide +kernel
theorem n_80_35 : ∀ l, xpr 80 35 l = l := xpr_no (by decide +kernel)
theorem r_80_36 : xfetch 80 36 = some (.iand, 1) := by decide +kernel
theorem n_80_36 : ∀ l, xpr 80 36 l = l := xpr_no (by decide +kernel)
theorem r_80_37 : xfetch 80 37 = some (.iconst 1, 1) := by decide +kernel
theorem n_80_37 : ∀ l, xpr 80 37 l = l := xpr_no (by decide +kernel)
theorem r_80_38 : xfetch 80 38 = some (.if_icmp .ne 6, 3) := by decide +kernel
theorem n_80_38 : ∀ l, xpr 80 38 l = l := xpr_no (by decide +kernel)
theorem r_80_41 : xfetch 80 41 = some (.goto 53, 3) := by decide +kernel
theorem n_80_41 : ∀ l, xpr 80 41 l = l := xpr_no (by decide +kernel)
theorem r_80_44 : xfetch 80 44 = some (.aload_n 0, 1) := by decide +kernel
theorem n_80_44 : ∀ l, xpr 80 44 l = l := xpr_no (by decide +kernel)
theorem r_80_45 : xfetch 80 45 = some (.iload_n 1, 1) := by decide +kernel
theorem n_80_45 : ∀ l, xpr 80 45 l = l := xpr_no (by decide +kernel)
theorem r_80_46 : xfetch 80 46 = some (.iload_n 2, 1) := by decide +kernel
theorem n_80_46 : ∀ l, xpr 80 46 l = l := xpr_no (by decide +kernel)
theorem r_80_47 : xfetch 80 47 = some (.iload 4, 2) := by decide +kernel
theorem n_80_47 : ∀ l, xpr 80 47 l = l := xpr_no (by decide +kernel)
theorem r_80_49 : xfetch 80 49 = some (.invokevirtual 73, 3) := by decide +kernel
theorem n_80_49 : ∀ l, xpr 80 49 l = l := xpr_no (by decide +kernel)
theorem r_80_52 : xfetch 80 52 = some (.istore 5, 2) := by decide +kernel
theorem n_80_52 : ∀ l, xpr 80 52 l = l := xpr_no (by decide +kernel)
theorem r_80_54 : xfetch 80 54 = some (.iload_n 3, 1) := by decide +kernel
theorem n_80_54 : ∀ l, xpr 80 54 l = l := xpr_no (by decide +kernel)
theorem r_80_55 : xfetch 80 55 = some (.aload_n 0, 1) := by decide +kernel
theorem n_80_55 : ∀ l, xpr 80 55 l = l := xpr_no (by decide +kernel)
theorem r_80_56 : xfetch 80 56 = some (.iload_n 2, 1) := by decide +kernel
theorem n_80_56 : ∀ l, xpr 80 56 l = l := xpr_no (by decide +kernel)
theorem r_80_57 : xfetch 80 57 = some (.iload 4, 2) := by decide +kernel
theorem n_80_57 : ∀ l, xpr 80 57 l = l := xpr_no (by decide +kernel)
theorem r_80_59 : xfetch 80 59 = some (.invokevirtual 77, 3) := by decide +kernel
theorem n_80_59 : ∀ l, xpr 80 59 l = l := xpr_no (by decide +kernel)
theorem r_80_62 : xfetch 80 62 = some (.ifCond .eq 8, 3) := by decide +kernel
theorem n_80_62 : ∀ l, xpr 80 62 l = l := xpr_no (by decide +kernel)
theorem r_80_65 : xfetch 80 65 = some (.iload 5, 2) := by decide +kernel
theorem n_80_65 : ∀ l, xpr 80 65 l = l := xpr_no (by decide +kernel)
theorem r_80_67 : xfetch 80 67 = some (.goto 23, 3) := by decide +kernel
theorem n_80_67 : ∀ l, xpr 80 67 l = l := xpr_no (by decide +kernel)
theorem r_80_70 : xfetch 80 70 = some (.iload 5, 2) := by decide +kernel
theorem n_80_70 : ∀ l, xpr 80 70 l = l := xpr_no (by decide +kernel)
theorem r_80_72 : xfetch 80 72 = some (.aload_n 0, 1) := by decide +kernel
theorem n_80_72 : ∀ l, xpr 80 72 l = l := xpr_no (by decide +kernel)
theorem r_80_73 : xfetch 80 73 = some (.getfield 15, 3) := by decide +kernel
theorem n_80_73 : ∀ l, xpr 80 73 l = l := xpr_no (by decide +kernel)
theorem r_80_76 : xfetch 80 76 = some (.iload 4, 2) := by decide +kernel
theorem n_80_76 : ∀ l, xpr 80 76 l = l := xpr_no (by decide +kernel)
theorem r_80_78 : xfetch 80 78 = some (.iaload, 1) := by decide +kernel
theorem n_80_78 : ∀ l, xpr 80 78 l = l := xpr_no (by decide +kernel)
theorem r_80_79 : xfetch 80 79 = some (.iadd, 1) := by decide +kernel
theorem n_80_79 : ∀ l, xpr 80 79 l = l := xpr_no (by decide +kernel)
theorem r_80_80 : xfetch 80 80 = some (.aload_n 0, 1) := by decide +kernel
theorem n_80_80 : ∀ l, xpr 80 80 l = l := xpr_no (by decide +kernel)
theorem r_80_81 : xfetch 80 81 = some (.getfield 18, 3) := by decide +kernel
theorem n_80_81 : ∀ l, xpr 80 81 l = l := xpr_no (by decide +kernel)
theorem r_80_84 : xfetch 80 84 = some (.iload 4, 2) := by decide +kernel
theorem n_80_84 : ∀ l, xpr 80 84 l = l := xpr_no (by decide +kernel)
theorem r_80_86 : xfetch 80 86 = some (.iaload, 1) := by decide +kernel
theorem n_80_86 : ∀ l, xpr 80 86 l = l := xpr_no (by decide +kernel)
theorem r_80_87 : xfetch 80 87 = some (.invokestatic 56, 3) := by decide +kernel
theorem n_80_87 : ∀ l, xpr 80 87 l = l := xpr_no (by decide +kernel)
theorem r_80_90 : xfetch 80 90 = some (.invokestatic 81, 3) := by decide +kernel
theorem n_80_90 : ∀ l, xpr 80 90 l = l := xpr_no (by decide +kernel)
theorem r_80_93 : xfetch 80 93 = some (.istore_n 3, 1) := by decide +kernel
theorem n_80_93 : ∀ l, xpr 80 93 l = l := xpr_no (by decide +kernel)
theorem r_80_94 : xfetch 80 94 = some (.iinc 4 1, 3) := by decide +kernel
theorem n_80_94 : ∀ l, xpr 80 94 l = l := xpr_no (by decide +kernel)
theorem r_80_97 : xfetch 80 97 = some (.goto (-75), 3) := by decide +kernel
theorem n_80_97 : ∀ l, xpr 80 97 l = l := xpr_no (by decide +kernel)
theorem r_80_100 : xfetch 80 100 = some (.iload_n 3, 1) := by decide +kernel
theorem n_80_100 : ∀ l, xpr 80 100 l = l := xpr_no (by decide +kernel)
theorem r_80_101 : xfetch 80 101 = some (.ireturn, 1) := by decide +kernel
theorem n_80_101 : ∀ l, xpr 80 101 l = l := xpr_no (by decide +kernel)
theorem v_BestOrder_leastNeed_0 {S : Option (Nat × (Nat → Int32))} {s : zSt} {Q : Option Value ⊕ Nat → zSt → Prop} {x1 : Int} {x2 : Int} 
    (h : rng (x1 + 1) ∧ (((x1 + 1) ≠ (zshl 1 (zI s 42 2)) → wp S 80 22 [(0, rf 42), (1, iv x1), (2, iv x2), (3, iv 1048576), (4, iv 0)] [] s Q) ∧ ((x1 + 1) = (zshl 1 (zI s 42 2)) → wp S 80 22 [(0, rf 42), (1, iv x1), (2, iv x2), (3, iv 0), (4, iv 0)] [] s Q))) :
    wp S 80 0 [(0, rf 42), (1, iv x1), (2, iv x2)] [] s Q := by
  refine i_iload_n (x := x1) r_80_0 (n_80_0 _) rfl ?_
  refine i_iconst r_80_1 (n_80_1 _) ?_
  refine i_iadd r_80_2 (n_80_2 _) ?_
  refine i_iconst r_80_3 (n_80_3 _) ?_
  refine i_aload_n (a := 42) r_80_4 (n_80_4 _) rfl ?_
  refine i_getI (a := 42) r_80_5 (n_80_5 _) rfl (by decide) lf_42 (fun q1 => ?_)
  refine i_ishl r_80_8 (n_80_8 _) ?_
  obtain ⟨g2, h⟩ := h
  refine i_icmp (t := 16) r_80_9 (n_80_9 _) rfl (T_ne g2 (rng_to _)) (fun c3 => ?_) (fun c3 => ?_)
  · replace h := h.1 c3
    refine i_ldc (x := 1048576) r_80_16 (n_80_16 _) rfl rfl ?_
    refine i_istore_n (l' := [(0, rf 42), (1, iv x1), (2, iv x2), (3, iv 1048576)]) r_80_18 (n_80_18 _) (by decide) rfl ?_
    refine i_iconst r_80_19 (n_80_19 _) ?_
    refine i_istore (l' := [(0, rf 42), (1, iv x1), (2, iv x2), (3, iv 1048576), (4, iv 0)]) r_80_20 (n_80_20 _) (by decide) rfl ?_
    exact wp_pr (l' := [(0, rf 42), (1, iv x1), (2, iv x2), (3, iv 1048576), (4, iv 0)]) rfl h
  · replace h := h.2 c3
    refine i_iconst r_80_12 (n_80_12 _) ?_
    refine i_goto (t := 18) r_80_13 (n_80_13 _) rfl ?_
    refine i_istore_n (l' := [(0, rf 42), (1, iv x1), (2, iv x2), (3, iv 0)]) r_80_18 (n_80_18 _) (by decide) rfl ?_
    refine i_iconst r_80_19 (n_80_19 _) ?_
    refine i_istore (l' := [(0, rf 42), (1, iv x1), (2, iv x2), (3, iv 0), (4, iv 0)]) r_80_20 (n_80_20 _) (by decide) rfl ?_
    exact wp_pr (l' := [(0, rf 42), (1, iv x1), (2, iv x2), (3, iv 0), (4, iv 0)]) rfl h
theorem v_BestOrder_leastNeed_22 {S : Option (Nat × (Nat → Int32))} {s : zSt} {Q : Option Value ⊕ Nat → zSt → Prop} {x1 : Int} {x2 : Int} {x3 : Int} {x4 : Int} 
    (h : rng x4 ∧ (((zI s 42 2) ≤ x4 → Q (rI x3) s) ∧ (x4 < (zI s 42 2) → ((zand (zshr x1 x4) 1) ≠ 1 → wp S 81 0 [(0, rf 42), (1, iv x1), (2, iv x2), (3, iv x4)] [] s (fun o5 s5 => zkI (fun y5 => wp S 83 0 [(0, rf 42), (1, iv x2), (2, iv x4)] [] s5 (fun o7 s7 => zkI (fun y7 => (y7 = 0 → (0 ≤ x4 ∧ x4 < 8) ∧ (wp S 24 0 [(0, iv (y5 + (zI s7 44 x4))), (1, iv (zI s7 45 x4))] [] s7 (fun o13 s13 => zkI (fun y13 => wp S 16 0 [(0, iv x3), (1, iv y13)] [] s13 (fun o15 s15 => zkI (fun y15 => wp S 80 22 [(0, rf 42), (1, iv x1), (2, iv x2), (3, iv y15), (4, iv (x4 + 1))] [] s15 Q) (fun e15 => False) o15)) (fun e13 => False) o13))) ∧ (y7 ≠ 0 → wp S 16 0 [(0, iv x3), (1, iv y5)] [] s7 (fun o17 s17 => zkI (fun y17 => wp S 80 22 [(0, rf 42), (1, iv x1), (2, iv x2), (3, iv y17), (4, iv (x4 + 1))] [] s17 Q) (fun e17 => False) o17))) (fun e7 => False) o7)) (fun e5 => False) o5)) ∧ ((zand (zshr x1 x4) 1) = 1 → wp S 80 22 [(0, rf 42), (1, iv x1), (2, iv x2), (3, iv x3), (4, iv (x4 + 1))] [] s Q)))) :
    wp S 80 22 [(0, rf 42), (1, iv x1), (2, iv x2), (3, iv x3), (4, iv x4)] [] s Q := by
  refine i_iload (x := x4) r_80_22 rfl rfl ?_
  refine i_aload_n (a := 42) r_80_24 (n_80_24 _) rfl ?_
  refine i_getI (a := 42) r_80_25 (n_80_25 _) rfl (by decide) lf_42 (fun q1 => ?_)
  obtain ⟨g2, h⟩ := h
  refine i_icmp (t := 100) r_80_28 (n_80_28 _) rfl (T_ge g2 q1) (fun c3 => ?_) (fun c3 => ?_)
  · replace h := h.1 c3
    refine i_iload_n (x := x3) r_80_100 (n_80_100 _) rfl ?_
    exact i_ireturn r_80_101 (n_80_101 _) rfl h
  · replace h := h.2 c3
    refine i_iload_n (x := x1) r_80_31 (n_80_31 _) rfl ?_
    refine i_iload (x := x4) r_80_32 (n_80_32 _) rfl ?_
    refine i_ishr r_80_34 (n_80_34 _) ?_
    refine i_iconst r_80_35 (n_80_35 _) ?_
    refine i_iand r_80_36 (n_80_36 _) ?_
    refine i_iconst r_80_37 (n_80_37 _) ?_
    refine i_icmp (t := 44) r_80_38 (n_80_38 _) rfl (T_ne (rng_to _) ⟨by omega, by omega⟩) (fun c4 => ?_) (fun c4 => ?_)
    · replace h := h.1 c4
      refine i_aload_n (a := 42) r_80_44 (n_80_44 _) rfl ?_
      refine i_iload_n (x := x1) r_80_45 (n_80_45 _) rfl ?_
      refine i_iload_n (x := x2) r_80_46 (n_80_46 _) rfl ?_
      refine i_iload (x := x4) r_80_47 (n_80_47 _) rfl ?_
      refine wp_virt (b := 42) (rest := []) (Ls := [(0, rf 42), (1, iv x1), (2, iv x2), (3, iv x4)]) r_80_49 (n_80_49 _) rfl ⟨rfl, rfl, by decide, by decide⟩ rfl rfl lf_42 ⟨rfl, Nat.le_of_ble_eq_true rfl, Nat.le_of_ble_eq_true rfl⟩ rfl h ?_
      intro o5 s5 h
      rcases h with ⟨y5, q6, rfl, h⟩ | ⟨e5, rfl, h⟩
      · refine .inl ⟨some (iv y5), rfl, ?_⟩
        show wp S 80 52 [(0, rf 42), (1, iv x1), (2, iv x2), (3, iv x3), (4, iv x4)] [iv y5] s5 Q
        refine i_istore (l' := [(0, rf 42), (1, iv x1), (2, iv x2), (3, iv x3), (4, iv x4), (5, iv y5)]) r_80_52 (n_80_52 _) (by decide) rfl ?_
        refine i_iload_n (x := x3) r_80_54 (n_80_54 _) rfl ?_
        refine i_aload_n (a := 42) r_80_55 (n_80_55 _) rfl ?_
        refine i_iload_n (x := x2) r_80_56 (n_80_56 _) rfl ?_
        refine i_iload (x := x4) r_80_57 (n_80_57 _) rfl ?_
        refine wp_virt (b := 42) (rest := [iv x3]) (Ls := [(0, rf 42), (1, iv x2), (2, iv x4)]) r_80_59 (n_80_59 _) rfl ⟨rfl, rfl, by decide, by decide⟩ rfl rfl lf_42 ⟨rfl, Nat.le_of_ble_eq_true rfl, Nat.le_of_ble_eq_true rfl⟩ rfl h ?_
        intro o7 s7 h
        rcases h with ⟨y7, q8, rfl, h⟩ | ⟨e7, rfl, h⟩
        · refine .inl ⟨some (iv y7), rfl, ?_⟩
          show wp S 80 62 [(0, rf 42), (1, iv x1), (2, iv x2), (3, iv x3), (4, iv x4), (5, iv y5)] [iv y7, iv x3] s7 Q
          refine i_if (t := 70) r_80_62 (n_80_62 _) rfl (T_eq q8 ⟨by omega, by omega⟩) (fun c9 => ?_) (fun c9 => ?_)
          · replace h := h.1 c9
            refine i_iload (x := y5) r_80_70 (n_80_70 _) rfl ?_
            refine i_aload_n (a := 42) r_80_72 (n_80_72 _) rfl ?_
            refine i_getR (a := 42) (b := 44) r_80_73 (n_80_73 _) rfl rfl rfl (by omega) lf_42 (by omega) ?_
            refine i_iload (x := x4) r_80_76 (n_80_76 _) rfl ?_
            obtain ⟨g10, h⟩ := h
            refine i_iaload (a := 44) (j := x4) r_80_78 (n_80_78 _) lf_44 ⟨by omega, by omega⟩ (by omega) (by omega) (fun q11 => ?_)
            refine i_iadd r_80_79 (n_80_79 _) ?_
            refine i_aload_n (a := 42) r_80_80 (n_80_80 _) rfl ?_
            refine i_getR (a := 42) (b := 45) r_80_81 (n_80_81 _) rfl rfl rfl (by omega) lf_42 (by omega) ?_
            refine i_iload (x := x4) r_80_84 (n_80_84 _) rfl ?_
            refine i_iaload (a := 45) (j := x4) r_80_86 (n_80_86 _) lf_45 ⟨by omega, by omega⟩ (by omega) (by omega) (fun q12 => ?_)
            refine wp_stat (rest := [iv x3]) (Ls := [(0, iv (y5 + (zI s7 44 x4))), (1, iv (zI s7 45 x4))]) r_80_87 (n_80_87 _) rfl ⟨rfl, by decide, by decide, by decide⟩ rfl rfl ⟨rfl, Nat.le_of_ble_eq_true rfl, Nat.le_of_ble_eq_true rfl⟩ rfl h ?_
            intro o13 s13 h
            rcases h with ⟨y13, q14, rfl, h⟩ | ⟨e13, rfl, h⟩
            · refine .inl ⟨some (iv y13), rfl, ?_⟩
              show wp S 80 90 [(0, rf 42), (1, iv x1), (2, iv x2), (3, iv x3), (4, iv x4), (5, iv y5)] [iv y13, iv x3] s13 Q
              refine wp_stat (rest := []) (Ls := [(0, iv x3), (1, iv y13)]) r_80_90 (n_80_90 _) rfl ⟨rfl, by decide, by decide, by decide⟩ rfl rfl ⟨rfl, Nat.le_of_ble_eq_true rfl, Nat.le_of_ble_eq_true rfl⟩ rfl h ?_
              intro o15 s15 h
              rcases h with ⟨y15, q16, rfl, h⟩ | ⟨e15, rfl, h⟩
              · refine .inl ⟨some (iv y15), rfl, ?_⟩
                show wp S 80 93 [(0, rf 42), (1, iv x1), (2, iv x2), (3, iv x3), (4, iv x4), (5, iv y5)] [iv y15] s15 Q
                refine i_istore_n (l' := [(0, rf 42), (1, iv x1), (2, iv x2), (3, iv y15), (4, iv x4), (5, iv y5)]) r_80_93 (n_80_93 _) (by decide) rfl ?_
                refine i_iinc (x := x4) (l' := [(0, rf 42), (1, iv x1), (2, iv x2), (3, iv y15), (4, iv (x4 + 1)), (5, iv y5)]) r_80_94 (n_80_94 _) (by decide) rfl rfl ?_
                refine i_goto (t := 22) r_80_97 (n_80_97 _) rfl ?_
                exact wp_pr (l' := [(0, rf 42), (1, iv x1), (2, iv x2), (3, iv y15), (4, iv (x4 + 1))]) rfl h
              · skip
                exact h.elim
            · skip
              exact h.elim
          · replace h := h.2 c9
            refine i_iload (x := y5) r_80_65 (n_80_65 _) rfl ?_
            refine i_goto (t := 90) r_80_67 (n_80_67 _) rfl ?_
            refine wp_stat (rest := []) (Ls := [(0, iv x3), (1, iv y5)]) r_80_90 (n_80_90 _) rfl ⟨rfl, by decide, by decide, by decide⟩ rfl rfl ⟨rfl, Nat.le_of_ble_eq_true rfl, Nat.le_of_ble_eq_true rfl⟩ rfl h ?_
            intro o17 s17 h
            rcases h with ⟨y17, q18, rfl, h⟩ | ⟨e17, rfl, h⟩
            · refine .inl ⟨some (iv y17), rfl, ?_⟩
              show wp S 80 93 [(0, rf 42), (1, iv x1), (2, iv x2), (3, iv x3), (4, iv x4), (5, iv y5)] [iv y17] s17 Q
              refine i_istore_n (l' := [(0, rf 42), (1, iv x1), (2, iv x2), (3, iv y17), (4, iv x4), (5, iv y5)]) r_80_93 (n_80_93 _) (by decide) rfl ?_
              refine i_iinc (x := x4) (l' := [(0, rf 42), (1, iv x1), (2, iv x2), (3, iv y17), (4, iv (x4 + 1)), (5, iv y5)]) r_80_94 (n_80_94 _) (by decide) rfl rfl ?_
              refine i_goto (t := 22) r_80_97 (n_80_97 _) rfl ?_
              exact wp_pr (l' := [(0, rf 42), (1, iv x1), (2, iv x2), (3, iv y17), (4, iv (x4 + 1))]) rfl h
            · skip
              exact h.elim
        · skip
          exact h.elim
      · skip
        exact h.elim
    · replace h := h.2 c4
      refine i_goto (t := 94) r_80_41 (n_80_41 _) rfl ?_
      refine i_iinc (x := x4) (l' := [(0, rf 42), (1, iv x1), (2, iv x2), (3, iv x3), (4, iv (x4 + 1))]) r_80_94 (n_80_94 _) (by decide) rfl rfl ?_
      refine i_goto (t := 22) r_80_97 (n_80_97 _) rfl ?_
      exact wp_pr (l' := [(0, rf 42), (1, iv x1), (2, iv x2), (3, iv x3), (4, iv (x4 + 1))]) rfl h
theorem r_81_0 : xfetch 81 0 = some (.aload_n 0, 1) := by decide +kernel
theorem n_81_0 : ∀ l, xpr 81 0 l = l := xpr_no (by decide +kernel)
theorem r_81_1 : xfetch 81 1 = some (.getfield 24, 3) := by decide +kernel
theorem n_81_1 : ∀ l, xpr 81 1 l = l := xpr_no (by decide +kernel)
theorem r_81_4 : xfetch 81 4 = some (.iload_n 1, 1) := by decide +kernel
theorem n_81_4 : ∀ l, xpr 81 4 l = l := xpr_no (by decide +kernel)
theorem r_81_5 : xfetch 81 5 = some (.iconst 1, 1) := by decide +kernel
theorem n_81_5 : ∀ l, xpr 81 5 l = l := xpr_no (by decide +kernel)
theorem r_81_6 : xfetch 81 6 = some (.iload_n 3, 1) := by decide +kernel
theorem n_81_6 : ∀ l, xpr 81 6 l = l := xpr_no (by decide +kernel)
theorem r_81_7 : xfetch 81 7 = some (.ishl, 1) := by decide +kernel
theorem n_81_7 : ∀ l, xpr 81 7 l = l := xpr_no (by decide +kernel)
theorem r_81_8 : xfetch 81 8 = some (.ior, 1) := by decide +kernel
theorem n_81_8 : ∀ l, xpr 81 8 l = l := xpr_no (by decide +kernel)
theorem r_81_9 : xfetch 81 9 = some (.bipush 16, 2) := by decide +kernel
theorem n_81_9 : ∀ l, xpr 81 9 l = l := xpr_no (by decide +kernel)
theorem r_81_11 : xfetch 81 11 = some (.imul, 1) := by decide +kernel
theorem n_81_11 : ∀ l, xpr 81 11 l = l := xpr_no (by decide +kernel)
theorem r_81_12 : xfetch 81 12 = some (.aload_n 0, 1) := by decide +kernel
theorem n_81_12 : ∀ l, xpr 81 12 l = l := xpr_no (by decide +kernel)
theorem r_81_13 : xfetch 81 13 = some (.iload_n 2, 1) := by decide +kernel
theorem n_81_13 : ∀ l, xpr 81 13 l = l := xpr_no (by decide +kernel)
theorem r_81_14 : xfetch 81 14 = some (.iload_n 3, 1) := by decide +kernel
theorem n_81_14 : ∀ l, xpr 81 14 l = l := xpr_no (by decide +kernel)
theorem r_81_15 : xfetch 81 15 = some (.invokevirtual 86, 3) := by decide +kernel
theorem n_81_15 : ∀ l, xpr 81 15 l = l := xpr_no (by decide +kernel)
theorem r_81_18 : xfetch 81 18 = some (.iadd, 1) := by decide +kernel
theorem n_81_18 : ∀ l, xpr 81 18 l = l := xpr_no (by decide +kernel)
theorem r_81_19 : xfetch 81 19 = some (.iaload, 1) := by decide +kernel
theorem n_81_19 : ∀ l, xpr 81 19 l = l := xpr_no (by decide +kernel)
theorem r_81_20 : xfetch 81 20 = some (.ireturn, 1) := by decide +kernel
theorem n_81_20 : ∀ l, xpr 81 20 l = l := xpr_no (by decide +kernel)
theorem v_BestOrder_needAfter_0 {S : Option (Nat × (Nat → Int32))} {s : zSt} {Q : Option Value ⊕ Nat → zSt → Prop} {x1 : Int} {x2 : Int} {x3 : Int} 
    (h : wp S 82 0 [(0, rf 42), (1, iv x2), (2, iv x3)] [] s (fun o1 s1 => zkI (fun y1 => (0 ≤ (((zor x1 (zshl 1 x3)) * 16) + y1) ∧ (((zor x1 (zshl 1 x3)) * 16) + y1) < 4096) ∧ (Q (rI (zI s1 47 (((zor x1 (zshl 1 x3)) * 16) + y1))) s1)) (fun e1 => False) o1)) :
    wp S 81 0 [(0, rf 42), (1, iv x1), (2, iv x2), (3, iv x3)] [] s Q := by
  refine i_aload_n (a := 42) r_81_0 (n_81_0 _) rfl ?_
  refine i_getR (a := 42) (b := 47) r_81_1 (n_81_1 _) rfl rfl rfl (by omega) lf_42 (by omega) ?_
  refine i_iload_n (x := x1) r_81_4 (n_81_4 _) rfl ?_
  refine i_iconst r_81_5 (n_81_5 _) ?_
  refine i_iload_n (x := x3) r_81_6 (n_81_6 _) rfl ?_
  refine i_ishl r_81_7 (n_81_7 _) ?_
  refine i_ior r_81_8 (n_81_8 _) ?_
  refine i_bipush r_81_9 (n_81_9 _) rfl ?_
  refine i_imul r_81_11 (n_81_11 _) ?_
  refine i_aload_n (a := 42) r_81_12 (n_81_12 _) rfl ?_
  refine i_iload_n (x := x2) r_81_13 (n_81_13 _) rfl ?_
  refine i_iload_n (x := x3) r_81_14 (n_81_14 _) rfl ?_
  refine wp_virt (b := 42) (rest := [iv ((zor x1 (zshl 1 x3)) * 16), rf 47]) (Ls := [(0, rf 42), (1, iv x2), (2, iv x3)]) r_81_15 (n_81_15 _) rfl ⟨rfl, rfl, by decide, by decide⟩ rfl rfl lf_42 ⟨rfl, Nat.le_of_ble_eq_true rfl, Nat.le_of_ble_eq_true rfl⟩ rfl h ?_
  intro o1 s1 h
  rcases h with ⟨y1, q2, rfl, h⟩ | ⟨e1, rfl, h⟩
  · refine .inl ⟨some (iv y1), rfl, ?_⟩
    show wp S 81 18 [(0, rf 42), (1, iv x1), (2, iv x2), (3, iv x3)] [iv y1, iv ((zor x1 (zshl 1 x3)) * 16), rf 47] s1 Q
    refine i_iadd r_81_18 (n_81_18 _) ?_
    obtain ⟨g3, h⟩ := h
    refine i_iaload (a := 47) (j := ((zor x1 (zshl 1 x3)) * 16) + y1) r_81_19 (n_81_19 _) lf_47 ⟨by omega, by omega⟩ (by omega) (by omega) (fun q4 => ?_)
    exact i_ireturn r_81_20 (n_81_20 _) rfl h
  · skip
    exact h.elim
theorem r_82_0 : xfetch 82 0 = some (.aload_n 0, 1) := by decide +kernel
theorem n_82_0 : ∀ l, xpr 82 0 l = l := xpr_no (by decide +kernel)
theorem r_82_1 : xfetch 82 1 = some (.getfield 21, 3) := by decide +kernel
theorem n_82_1 : ∀ l, xpr 82 1 l = l := xpr_no (by decide +kernel)
theorem r_82_4 : xfetch 82 4 = some (.iload_n 2, 1) := by decide +kernel
theorem n_82_4 : ∀ l, xpr 82 4 l = l := xpr_no (by decide +kernel)
theorem r_82_5 : xfetch 82 5 = some (.iaload, 1) := by decide +kernel
theorem n_82_5 : ∀ l, xpr 82 5 l = l := xpr_no (by decide +kernel)
theorem r_82_6 : xfetch 82 6 = some (.ifCond .ne 5, 3) := by decide +kernel
theorem n_82_6 : ∀ l, xpr 82 6 l = l := xpr_no (by decide +kernel)
theorem r_82_9 : xfetch 82 9 = some (.iconst 0, 1) := by decide +kernel
theorem n_82_9 : ∀ l, xpr 82 9 l = l := xpr_no (by decide +kernel)
theorem r_82_10 : xfetch 82 10 = some (.ireturn, 1) := by decide +kernel
theorem n_82_10 : ∀ l, xpr 82 10 l = l := xpr_no (by decide +kernel)
theorem r_82_11 : xfetch 82 11 = some (.aload_n 0, 1) := by decide +kernel
theorem n_82_11 : ∀ l, xpr 82 11 l = l := xpr_no (by decide +kernel)
theorem r_82_12 : xfetch 82 12 = some (.getfield 21, 3) := by decide +kernel
theorem n_82_12 : ∀ l, xpr 82 12 l = l := xpr_no (by decide +kernel)
theorem r_82_15 : xfetch 82 15 = some (.iload_n 2, 1) := by decide +kernel
theorem n_82_15 : ∀ l, xpr 82 15 l = l := xpr_no (by decide +kernel)
theorem r_82_16 : xfetch 82 16 = some (.iaload, 1) := by decide +kernel
theorem n_82_16 : ∀ l, xpr 82 16 l = l := xpr_no (by decide +kernel)
theorem r_82_17 : xfetch 82 17 = some (.iload_n 1, 1) := by decide +kernel
theorem n_82_17 : ∀ l, xpr 82 17 l = l := xpr_no (by decide +kernel)
theorem r_82_18 : xfetch 82 18 = some (.if_icmp .gt 14, 3) := by decide +kernel
theorem n_82_18 : ∀ l, xpr 82 18 l = l := xpr_no (by decide +kernel)
theorem r_82_21 : xfetch 82 21 = some (.iload_n 1, 1) := by decide +kernel
theorem n_82_21 : ∀ l, xpr 82 21 l = l := xpr_no (by decide +kernel)
theorem r_82_22 : xfetch 82 22 = some (.aload_n 0, 1) := by decide +kernel
theorem n_82_22 : ∀ l, xpr 82 22 l = l := xpr_no (by decide +kernel)
theorem r_82_23 : xfetch 82 23 = some (.getfield 21, 3) := by decide +kernel
theorem n_82_23 : ∀ l, xpr 82 23 l = l := xpr_no (by decide +kernel)
theorem r_82_26 : xfetch 82 26 = some (.iload_n 2, 1) := by decide +kernel
theorem n_82_26 : ∀ l, xpr 82 26 l = l := xpr_no (by decide +kernel)
theorem r_82_27 : xfetch 82 27 = some (.iaload, 1) := by decide +kernel
theorem n_82_27 : ∀ l, xpr 82 27 l = l := xpr_no (by decide +kernel)
theorem r_82_28 : xfetch 82 28 = some (.isub, 1) := by decide +kernel
theorem n_82_28 : ∀ l, xpr 82 28 l = l := xpr_no (by decide +kernel)
theorem r_82_29 : xfetch 82 29 = some (.goto 12, 3) := by decide +kernel
theorem n_82_29 : ∀ l, xpr 82 29 l = l := xpr_no (by decide +kernel)
theorem r_82_32 : xfetch 82 32 = some (.bipush 16, 2) := by decide +kernel
theorem n_82_32 : ∀ l, xpr 82 32 l = l := xpr_no (by decide +kernel)
theorem r_82_34 : xfetch 82 34 = some (.aload_n 0, 1) := by decide +kernel
theorem n_82_34 : ∀ l, xpr 82 34 l = l := xpr_no (by decide +kernel)
theorem r_82_35 : xfetch 82 35 = some (.getfield 21, 3) := by decide +kernel
theorem n_82_35 : ∀ l, xpr 82 35 l = l := xpr_no (by decide +kernel)
theorem r_82_38 : xfetch 82 38 = some (.iload_n 2, 1) := by decide +kernel
theorem n_82_38 : ∀ l, xpr 82 38 l = l := xpr_no (by decide +kernel)
theorem r_82_39 : xfetch 82 39 = some (.iaload, 1) := by decide +kernel
theorem n_82_39 : ∀ l, xpr 82 39 l = l := xpr_no (by decide +kernel)
theorem r_82_40 : xfetch 82 40 = some (.isub, 1) := by decide +kernel
theorem n_82_40 : ∀ l, xpr 82 40 l = l := xpr_no (by decide +kernel)
theorem r_82_41 : xfetch 82 41 = some (.ireturn, 1) := by decide +kernel
theorem n_82_41 : ∀ l, xpr 82 41 l = l := xpr_no (by decide +kernel)
theorem v_BestOrder_leftAfter_0 {S : Option (Nat × (Nat → Int32))} {s : zSt} {Q : Option Value ⊕ Nat → zSt → Prop} {x1 : Int} {x2 : Int} 
    (h : (0 ≤ x2 ∧ x2 < 8) ∧ (((zI s 46 x2) ≠ 0 → rng x1 ∧ ((x1 < (zI s 46 x2) → Q (rI (16 - (zI s 46 x2))) s) ∧ ((zI s 46 x2) ≤ x1 → Q (rI (x1 - (zI s 46 x2))) s))) ∧ ((zI s 46 x2) = 0 → Q (rI 0) s))) :
    wp S 82 0 [(0, rf 42), (1, iv x1), (2, iv x2)] [] s Q := by
  refine i_aload_n (a := 42) r_82_0 (n_82_0 _) rfl ?_
  refine i_getR (a := 42) (b := 46) r_82_1 (n_82_1 _) rfl rfl rfl (by omega) lf_42 (by omega) ?_
  refine i_iload_n (x := x2) r_82_4 (n_82_4 _) rfl ?_
  obtain ⟨g1, h⟩ := h
  refine i_iaload (a := 46) (j := x2) r_82_5 (n_82_5 _) lf_46 ⟨by omega, by omega⟩ (by omega) (by omega) (fun q2 => ?_)
  refine i_if (t := 11) r_82_6 (n_82_6 _) rfl (T_ne q2 ⟨by omega, by omega⟩) (fun c3 => ?_) (fun c3 => ?_)
  · replace h := h.1 c3
    refine i_aload_n (a := 42) r_82_11 (n_82_11 _) rfl ?_
    refine i_getR (a := 42) (b := 46) r_82_12 (n_82_12 _) rfl rfl rfl (by omega) lf_42 (by omega) ?_
    refine i_iload_n (x := x2) r_82_15 (n_82_15 _) rfl ?_
    refine i_iaload (a := 46) (j := x2) r_82_16 (n_82_16 _) lf_46 ⟨by omega, by omega⟩ (by omega) (by omega) (fun q4 => ?_)
    refine i_iload_n (x := x1) r_82_17 (n_82_17 _) rfl ?_
    obtain ⟨g5, h⟩ := h
    refine i_icmp (t := 32) r_82_18 (n_82_18 _) rfl (T_gt q4 g5) (fun c6 => ?_) (fun c6 => ?_)
    · replace h := h.1 c6
      refine i_bipush r_82_32 (n_82_32 _) rfl ?_
      refine i_aload_n (a := 42) r_82_34 (n_82_34 _) rfl ?_
      refine i_getR (a := 42) (b := 46) r_82_35 (n_82_35 _) rfl rfl rfl (by omega) lf_42 (by omega) ?_
      refine i_iload_n (x := x2) r_82_38 (n_82_38 _) rfl ?_
      refine i_iaload (a := 46) (j := x2) r_82_39 (n_82_39 _) lf_46 ⟨by omega, by omega⟩ (by omega) (by omega) (fun q7 => ?_)
      refine i_isub r_82_40 (n_82_40 _) ?_
      exact i_ireturn r_82_41 (n_82_41 _) rfl h
    · replace h := h.2 c6
      refine i_iload_n (x := x1) r_82_21 (n_82_21 _) rfl ?_
      refine i_aload_n (a := 42) r_82_22 (n_82_22 _) rfl ?_
      refine i_getR (a := 42) (b := 46) r_82_23 (n_82_23 _) rfl rfl rfl (by omega) lf_42 (by omega) ?_
      refine i_iload_n (x := x2) r_82_26 (n_82_26 _) rfl ?_
      refine i_iaload (a := 46) (j := x2) r_82_27 (n_82_27 _) lf_46 ⟨by omega, by omega⟩ (by omega) (by omega) (fun q8 => ?_)
      refine i_isub r_82_28 (n_82_28 _) ?_
      refine i_goto (t := 41) r_82_29 (n_82_29 _) rfl ?_
      exact i_ireturn r_82_41 (n_82_41 _) rfl h
  · replace h := h.2 c3
    refine i_iconst r_82_9 (n_82_9 _) ?_
    exact i_ireturn r_82_10 (n_82_10 _) rfl h
theorem r_83_0 : xfetch 83 0 = some (.aload_n 0, 1) := by decide +kernel
theorem n_83_0 : ∀ l, xpr 83 0 l = l := xpr_no (by decide +kernel)
theorem r_83_1 : xfetch 83 1 = some (.getfield 21, 3) := by decide +kernel
theorem n_83_1 : ∀ l, xpr 83 1 l = l := xpr_no (by decide +kernel)
theorem r_83_4 : xfetch 83 4 = some (.iload_n 2, 1) := by decide +kernel
theorem n_83_4 : ∀ l, xpr 83 4 l = l := xpr_no (by decide +kernel)
theorem r_83_5 : xfetch 83 5 = some (.iaload, 1) := by decide +kernel
theorem n_83_5 : ∀ l, xpr 83 5 l = l := xpr_no (by decide +kernel)
theorem r_83_6 : xfetch 83 6 = some (.ifCond .le 17, 3) := by decide +kernel
theorem n_83_6 : ∀ l, xpr 83 6 l = l := xpr_no (by decide +kernel)
theorem r_83_9 : xfetch 83 9 = some (.aload_n 0, 1) := by decide +kernel
theorem n_83_9 : ∀ l, xpr 83 9 l = l := xpr_no (by decide +kernel)
theorem r_83_10 : xfetch 83 10 = some (.getfield 21, 3) := by decide +kernel
theorem n_83_10 : ∀ l, xpr 83 10 l = l := xpr_no (by decide +kernel)
theorem r_83_13 : xfetch 83 13 = some (.iload_n 2, 1) := by decide +kernel
theorem n_83_13 : ∀ l, xpr 83 13 l = l := xpr_no (by decide +kernel)
theorem r_83_14 : xfetch 83 14 = some (.iaload, 1) := by decide +kernel
theorem n_83_14 : ∀ l, xpr 83 14 l = l := xpr_no (by decide +kernel)
theorem r_83_15 : xfetch 83 15 = some (.iload_n 1, 1) := by decide +kernel
theorem n_83_15 : ∀ l, xpr 83 15 l = l := xpr_no (by decide +kernel)
theorem r_83_16 : xfetch 83 16 = some (.if_icmp .gt 7, 3) := by decide +kernel
theorem n_83_16 : ∀ l, xpr 83 16 l = l := xpr_no (by decide +kernel)
theorem r_83_19 : xfetch 83 19 = some (.iconst 1, 1) := by decide +kernel
theorem n_83_19 : ∀ l, xpr 83 19 l = l := xpr_no (by decide +kernel)
theorem r_83_20 : xfetch 83 20 = some (.goto 4, 3) := by decide +kernel
theorem n_83_20 : ∀ l, xpr 83 20 l = l := xpr_no (by decide +kernel)
theorem r_83_23 : xfetch 83 23 = some (.iconst 0, 1) := by decide +kernel
theorem n_83_23 : ∀ l, xpr 83 23 l = l := xpr_no (by decide +kernel)
theorem r_83_24 : xfetch 83 24 = some (.ireturn, 1) := by decide +kernel
theorem n_83_24 : ∀ l, xpr 83 24 l = l := xpr_no (by decide +kernel)
theorem v_BestOrder_fits_0 {S : Option (Nat × (Nat → Int32))} {s : zSt} {Q : Option Value ⊕ Nat → zSt → Prop} {x1 : Int} {x2 : Int} 
    (h : (0 ≤ x2 ∧ x2 < 8) ∧ (((zI s 46 x2) ≤ 0 → Q (rI 0) s) ∧ (0 < (zI s 46 x2) → rng x1 ∧ ((x1 < (zI s 46 x2) → Q (rI 0) s) ∧ ((zI s 46 x2) ≤ x1 → Q (rI 1) s))))) :
    wp S 83 0 [(0, rf 42), (1, iv x1), (2, iv x2)] [] s Q := by
  refine i_aload_n (a := 42) r_83_0 (n_83_0 _) rfl ?_
  refine i_getR (a := 42) (b := 46) r_83_1 (n_83_1 _) rfl rfl rfl (by omega) lf_42 (by omega) ?_
  refine i_iload_n (x := x2) r_83_4 (n_83_4 _) rfl ?_
  obtain ⟨g1, h⟩ := h
  refine i_iaload (a := 46) (j := x2) r_83_5 (n_83_5 _) lf_46 ⟨by omega, by omega⟩ (by omega) (by omega) (fun q2 => ?_)
  refine i_if (t := 23) r_83_6 (n_83_6 _) rfl (T_le q2 ⟨by omega, by omega⟩) (fun c3 => ?_) (fun c3 => ?_)
  · replace h := h.1 c3
    refine i_iconst r_83_23 (n_83_23 _) ?_
    exact i_zreturn r_83_24 (n_83_24 _) rfl (by decide) h
  · replace h := h.2 c3
    refine i_aload_n (a := 42) r_83_9 (n_83_9 _) rfl ?_
    refine i_getR (a := 42) (b := 46) r_83_10 (n_83_10 _) rfl rfl rfl (by omega) lf_42 (by omega) ?_
    refine i_iload_n (x := x2) r_83_13 (n_83_13 _) rfl ?_
    refine i_iaload (a := 46) (j := x2) r_83_14 (n_83_14 _) lf_46 ⟨by omega, by omega⟩ (by omega) (by omega) (fun q4 => ?_)
    refine i_iload_n (x := x1) r_83_15 (n_83_15 _) rfl ?_
    obtain ⟨g5, h⟩ := h
    refine i_icmp (t := 23) r_83_16 (n_83_16 _) rfl (T_gt q4 g5) (fun c6 => ?_) (fun c6 => ?_)
    · replace h := h.1 c6
      refine i_iconst r_83_23 (n_83_23 _) ?_
      exact i_zreturn r_83_24 (n_83_24 _) rfl (by decide) h
    · replace h := h.2 c6
      refine i_iconst r_83_19 (n_83_19 _) ?_
      refine i_goto (t := 24) r_83_20 (n_83_20 _) rfl ?_
      exact i_zreturn r_83_24 (n_83_24 _) rfl (by decide) h
theorem r_84_0 : xfetch 84 0 = some (.iconst 0, 1) := by decide +kernel
theorem n_84_0 : ∀ l, xpr 84 0 l = l := xpr_no (by decide +kernel)
theorem r_84_1 : xfetch 84 1 = some (.istore_n 1, 1) := by decide +kernel
theorem n_84_1 : ∀ l, xpr 84 1 l = l := xpr_no (by decide +kernel)
theorem r_84_2 : xfetch 84 2 = some (.iconst 0, 1) := by decide +kernel
theorem n_84_2 : ∀ l, xpr 84 2 l = l := xpr_no (by decide +kernel)
theorem r_84_3 : xfetch 84 3 = some (.istore_n 2, 1) := by decide +kernel
theorem n_84_3 : ∀ l, xpr 84 3 l = l := xpr_no (by decide +kernel)
theorem r_84_4 : xfetch 84 4 = some (.iconst 0, 1) := by decide +kernel
theorem n_84_4 : ∀ l, xpr 84 4 l = l := xpr_no (by decide +kernel)
theorem r_84_5 : xfetch 84 5 = some (.istore_n 3, 1) := by decide +kernel
theorem n_84_5 : ∀ l, xpr 84 5 l = l := xpr_no (by decide +kernel)
theorem r_84_6 : xfetch 84 6 = some (.iconst 0, 1) := by decide +kernel
theorem n_84_6 : ∀ l, xpr 84 6 l = l := xpr_no (by decide +kernel)
theorem r_84_7 : xfetch 84 7 = some (.istore 4, 2) := by decide +kernel
theorem n_84_7 : ∀ l, xpr 84 7 l = l := xpr_no (by decide +kernel)
theorem r_84_9 : xfetch 84 9 = some (.iload 4, 2) := by decide +kernel
theorem r_84_11 : xfetch 84 11 = some (.aload_n 0, 1) := by decide +kernel
theorem n_84_11 : ∀ l, xpr 84 11 l = l := xpr_no (by decide +kernel)
theorem r_84_12 : xfetch 84 12 = some (.getfield 33, 3) := by decide +kernel
theorem n_84_12 : ∀ l, xpr 84 12 l = l := xpr_no (by decide +kernel)
theorem r_84_15 : xfetch 84 15 = some (.if_icmp .ge 123, 3) := by decide +kernel
theorem n_84_15 : ∀ l, xpr 84 15 l = l := xpr_no (by decide +kernel)
theorem r_84_18 : xfetch 84 18 = some (.iconst 0, 1) := by decide +kernel
theorem n_84_18 : ∀ l, xpr 84 18 l = l := xpr_no (by decide +kernel)
theorem r_84_19 : xfetch 84 19 = some (.istore 5, 2) := by decide +kernel
theorem n_84_19 : ∀ l, xpr 84 19 l = l := xpr_no (by decide +kernel)
theorem r_84_21 : xfetch 84 21 = some (.iload 5, 2) := by decide +kernel
theorem r_84_23 : xfetch 84 23 = some (.aload_n 0, 1) := by decide +kernel
theorem n_84_23 : ∀ l, xpr 84 23 l = l := xpr_no (by decide +kernel)
theorem r_84_24 : xfetch 84 24 = some (.getfield 33, 3) := by decide +kernel
theorem n_84_24 : ∀ l, xpr 84 24 l = l := xpr_no (by decide +kernel)
theorem r_84_27 : xfetch 84 27 = some (.if_icmp .ge 105, 3) := by decide +kernel
theorem n_84_27 : ∀ l, xpr 84 27 l = l := xpr_no (by decide +kernel)
theorem r_84_30 : xfetch 84 30 = some (.aload_n 0, 1) := by decide +kernel
theorem n_84_30 : ∀ l, xpr 84 30 l = l := xpr_no (by decide +kernel)
theorem r_84_31 : xfetch 84 31 = some (.iload_n 3, 1) := by decide +kernel
theorem n_84_31 : ∀ l, xpr 84 31 l = l := xpr_no (by decide +kernel)
theorem r_84_32 : xfetch 84 32 = some (.iload 5, 2) := by decide +kernel
theorem n_84_32 : ∀ l, xpr 84 32 l = l := xpr_no (by decide +kernel)
theorem r_84_34 : xfetch 84 34 = some (.invokevirtual 77, 3) := by decide +kernel
theorem n_84_34 : ∀ l, xpr 84 34 l = l := xpr_no (by decide +kernel)
theorem r_84_37 : xfetch 84 37 = some (.ifCond .eq 7, 3) := by decide +kernel
theorem n_84_37 : ∀ l, xpr 84 37 l = l := xpr_no (by decide +kernel)
theorem r_84_40 : xfetch 84 40 = some (.iload_n 2, 1) := by decide +kernel
theorem n_84_40 : ∀ l, xpr 84 40 l = l := xpr_no (by decide +kernel)
theorem r_84_41 : xfetch 84 41 = some (.goto 22, 3) := by decide +kernel
theorem n_84_41 : ∀ l, xpr 84 41 l = l := xpr_no (by decide +kernel)
theorem r_84_44 : xfetch 84 44 = some (.iload_n 2, 1) := by decide +kernel
theorem n_84_44 : ∀ l, xpr 84 44 l = l := xpr_no (by decide +kernel)
theorem r_84_45 : xfetch 84 45 = some (.aload_n 0, 1) := by decide +kernel
theorem n_84_45 : ∀ l, xpr 84 45 l = l := xpr_no (by decide +kernel)
theorem r_84_46 : xfetch 84 46 = some (.getfield 18, 3) := by decide +kernel
theorem n_84_46 : ∀ l, xpr 84 46 l = l := xpr_no (by decide +kernel)
theorem r_84_49 : xfetch 84 49 = some (.iload 5, 2) := by decide +kernel
theorem n_84_49 : ∀ l, xpr 84 49 l = l := xpr_no (by decide +kernel)
theorem r_84_51 : xfetch 84 51 = some (.iaload, 1) := by decide +kernel
theorem n_84_51 : ∀ l, xpr 84 51 l = l := xpr_no (by decide +kernel)
theorem r_84_52 : xfetch 84 52 = some (.invokestatic 56, 3) := by decide +kernel
theorem n_84_52 : ∀ l, xpr 84 52 l = l := xpr_no (by decide +kernel)
theorem r_84_55 : xfetch 84 55 = some (.aload_n 0, 1) := by decide +kernel
theorem n_84_55 : ∀ l, xpr 84 55 l = l := xpr_no (by decide +kernel)
theorem r_84_56 : xfetch 84 56 = some (.getfield 15, 3) := by decide +kernel
theorem n_84_56 : ∀ l, xpr 84 56 l = l := xpr_no (by decide +kernel)
theorem r_84_59 : xfetch 84 59 = some (.iload 5, 2) := by decide +kernel
theorem n_84_59 : ∀ l, xpr 84 59 l = l := xpr_no (by decide +kernel)
theorem r_84_61 : xfetch 84 61 = some (.iaload, 1) := by decide +kernel
theorem n_84_61 : ∀ l, xpr 84 61 l = l := xpr_no (by decide +kernel)
theorem r_84_62 : xfetch 84 62 = some (.iadd, 1) := by decide +kernel
theorem n_84_62 : ∀ l, xpr 84 62 l = l := xpr_no (by decide +kernel)
theorem r_84_63 : xfetch 84 63 = some (.istore 6, 2) := by decide +kernel
theorem n_84_63 : ∀ l, xpr 84 63 l = l := xpr_no (by decide +kernel)
theorem r_84_65 : xfetch 84 65 = some (.iload_n 1, 1) := by decide +kernel
theorem n_84_65 : ∀ l, xpr 84 65 l = l := xpr_no (by decide +kernel)
theorem r_84_66 : xfetch 84 66 = some (.iload 5, 2) := by decide +kernel
theorem n_84_66 : ∀ l, xpr 84 66 l = l := xpr_no (by decide +kernel)
theorem r_84_68 : xfetch 84 68 = some (.ishr, 1) := by decide +kernel
theorem n_84_68 : ∀ l, xpr 84 68 l = l := xpr_no (by decide +kernel)
theorem r_84_69 : xfetch 84 69 = some (.iconst 1, 1) := by decide +kernel
theorem n_84_69 : ∀ l, xpr 84 69 l = l := xpr_no (by decide +kernel)
theorem r_84_70 : xfetch 84 70 = some (.iand, 1) := by decide +kernel
theorem n_84_70 : ∀ l, xpr 84 70 l = l := xpr_no (by decide +kernel)
theorem r_84_71 : xfetch 84 71 = some (.iconst 1, 1) := by decide +kernel
theorem n_84_71 : ∀ l, xpr 84 71 l = l := xpr_no (by decide +kernel)
theorem r_84_72 : xfetch 84 72 = some (.if_icmp .eq 54, 3) := by decide +kernel
theorem n_84_72 : ∀ l, xpr 84 72 l = l := xpr_no (by decide +kernel)
theorem r_84_75 : xfetch 84 75 = some (.iload 6, 2) := by decide +kernel
theorem n_84_75 : ∀ l, xpr 84 75 l = l := xpr_no (by decide +kernel)
theorem r_84_77 : xfetch 84 77 = some (.aload_n 0, 1) := by decide +kernel
theorem n_84_77 : ∀ l, xpr 84 77 l = l := xpr_no (by decide +kernel)
theorem r_84_78 : xfetch 84 78 = some (.iload_n 1, 1) := by decide +kernel
theorem n_84_78 : ∀ l, xpr 84 78 l = l := xpr_no (by decide +kernel)
theorem r_84_79 : xfetch 84 79 = some (.iload_n 3, 1) := by decide +kernel
theorem n_84_79 : ∀ l, xpr 84 79 l = l := xpr_no (by decide +kernel)
theorem r_84_80 : xfetch 84 80 = some (.iload 5, 2) := by decide +kernel
theorem n_84_80 : ∀ l, xpr 84 80 l = l := xpr_no (by decide +kernel)
theorem r_84_82 : xfetch 84 82 = some (.invokevirtual 73, 3) := by decide +kernel
theorem n_84_82 : ∀ l, xpr 84 82 l = l := xpr_no (by decide +kernel)
theorem r_84_85 : xfetch 84 85 = some (.iadd, 1) := by decide +kernel
theorem n_84_85 : ∀ l, xpr 84 85 l = l := xpr_no (by decide +kernel)
theorem r_84_86 : xfetch 84 86 = some (.aload_n 0, 1) := by decide +kernel
theorem n_84_86 : ∀ l, xpr 84 86 l = l := xpr_no (by decide +kernel)
theorem r_84_87 : xfetch 84 87 = some (.getfield 60, 3) := by decide +kernel
theorem n_84_87 : ∀ l, xpr 84 87 l = l := xpr_no (by decide +kernel)
theorem r_84_90 : xfetch 84 90 = some (.if_icmp .le 6, 3) := by decide +kernel
theorem n_84_90 : ∀ l, xpr 84 90 l = l := xpr_no (by decide +kernel)
theorem r_84_93 : xfetch 84 93 = some (.goto 33, 3) := by decide +kernel
theorem n_84_93 : ∀ l, xpr 84 93 l = l := xpr_no (by decide +kernel)
theorem r_84_96 : xfetch 84 96 = some (.aload_n 0, 1) := by decide +kernel
theorem n_84_96 : ∀ l, xpr 84 96 l = l := xpr_no (by decide +kernel)
theorem r_84_97 : xfetch 84 97 = some (.getfield 9, 3) := by decide +kernel
theorem n_84_97 : ∀ l, xpr 84 97 l = l := xpr_no (by decide +kernel)
theorem r_84_100 : xfetch 84 100 = some (.iload 4, 2) := by decide +kernel
theorem n_84_100 : ∀ l, xpr 84 100 l = l := xpr_no (by decide +kernel)
theorem r_84_102 : xfetch 84 102 = some (.iload 5, 2) := by decide +kernel
theorem n_84_102 : ∀ l, xpr 84 102 l = l := xpr_no (by decide +kernel)
theorem r_84_104 : xfetch 84 104 = some (.iastore, 1) := by decide +kernel
theorem n_84_104 : ∀ l, xpr 84 104 l = l := xpr_no (by decide +kernel)
theorem r_84_105 : xfetch 84 105 = some (.iload_n 1, 1) := by decide +kernel
theorem n_84_105 : ∀ l, xpr 84 105 l = l := xpr_no (by decide +kernel)
theorem r_84_106 : xfetch 84 106 = some (.iconst 1, 1) := by decide +kernel
theorem n_84_106 : ∀ l, xpr 84 106 l = l := xpr_no (by decide +kernel)
theorem r_84_107 : xfetch 84 107 = some (.iload 5, 2) := by decide +kernel
theorem n_84_107 : ∀ l, xpr 84 107 l = l := xpr_no (by decide +kernel)
theorem r_84_109 : xfetch 84 109 = some (.ishl, 1) := by decide +kernel
theorem n_84_109 : ∀ l, xpr 84 109 l = l := xpr_no (by decide +kernel)
theorem r_84_110 : xfetch 84 110 = some (.ior, 1) := by decide +kernel
theorem n_84_110 : ∀ l, xpr 84 110 l = l := xpr_no (by decide +kernel)
theorem r_84_111 : xfetch 84 111 = some (.istore_n 1, 1) := by decide +kernel
theorem n_84_111 : ∀ l, xpr 84 111 l = l := xpr_no (by decide +kernel)
theorem r_84_112 : xfetch 84 112 = some (.iload 6, 2) := by decide +kernel
theorem n_84_112 : ∀ l, xpr 84 112 l = l := xpr_no (by decide +kernel)
theorem r_84_114 : xfetch 84 114 = some (.istore_n 2, 1) := by decide +kernel
theorem n_84_114 : ∀ l, xpr 84 114 l = l := xpr_no (by decide +kernel)
theorem r_84_115 : xfetch 84 115 = some (.aload_n 0, 1) := by decide +kernel
theorem n_84_115 : ∀ l, xpr 84 115 l = l := xpr_no (by decide +kernel)
theorem r_84_116 : xfetch 84 116 = some (.iload_n 3, 1) := by decide +kernel
theorem n_84_116 : ∀ l, xpr 84 116 l = l := xpr_no (by decide +kernel)
theorem r_84_117 : xfetch 84 117 = some (.iload 5, 2) := by decide +kernel
theorem n_84_117 : ∀ l, xpr 84 117 l = l := xpr_no (by decide +kernel)
theorem r_84_119 : xfetch 84 119 = some (.invokevirtual 86, 3) := by decide +kernel
theorem n_84_119 : ∀ l, xpr 84 119 l = l := xpr_no (by decide +kernel)
theorem r_84_122 : xfetch 84 122 = some (.istore_n 3, 1) := by decide +kernel
theorem n_84_122 : ∀ l, xpr 84 122 l = l := xpr_no (by decide +kernel)
theorem r_84_123 : xfetch 84 123 = some (.goto 9, 3) := by decide +kernel
theorem n_84_123 : ∀ l, xpr 84 123 l = l := xpr_no (by decide +kernel)
theorem r_84_126 : xfetch 84 126 = some (.iinc 5 1, 3) := by decide +kernel
theorem n_84_126 : ∀ l, xpr 84 126 l = l := xpr_no (by decide +kernel)
theorem r_84_129 : xfetch 84 129 = some (.goto (-108), 3) := by decide +kernel
theorem n_84_129 : ∀ l, xpr 84 129 l = l := xpr_no (by decide +kernel)
theorem r_84_132 : xfetch 84 132 = some (.iinc 4 1, 3) := by decide +kernel
theorem n_84_132 : ∀ l, xpr 84 132 l = l := xpr_no (by decide +kernel)
theorem r_84_135 : xfetch 84 135 = some (.goto (-126), 3) := by decide +kernel
theorem n_84_135 : ∀ l, xpr 84 135 l = l := xpr_no (by decide +kernel)
theorem r_84_138 : xfetch 84 138 = some (.return_, 1) := by decide +kernel
theorem n_84_138 : ∀ l, xpr 84 138 l = l := xpr_no (by decide +kernel)
theorem v_BestOrder_choose_0 {S : Option (Nat × (Nat → Int32))} {s : zSt} {Q : Option Value ⊕ Nat → zSt → Prop}  
    (h : wp S 84 9 [(0, rf 42), (1, iv 0), (2, iv 0), (3, iv 0), (4, iv 0)] [] s Q) :
    wp S 84 0 [(0, rf 42)] [] s Q := by
  refine i_iconst r_84_0 (n_84_0 _) ?_
  refine i_istore_n (l' := [(0, rf 42), (1, iv 0)]) r_84_1 (n_84_1 _) (by decide) rfl ?_
  refine i_iconst r_84_2 (n_84_2 _) ?_
  refine i_istore_n (l' := [(0, rf 42), (1, iv 0), (2, iv 0)]) r_84_3 (n_84_3 _) (by decide) rfl ?_
  refine i_iconst r_84_4 (n_84_4 _) ?_
  refine i_istore_n (l' := [(0, rf 42), (1, iv 0), (2, iv 0), (3, iv 0)]) r_84_5 (n_84_5 _) (by decide) rfl ?_
  refine i_iconst r_84_6 (n_84_6 _) ?_
  refine i_istore (l' := [(0, rf 42), (1, iv 0), (2, iv 0), (3, iv 0), (4, iv 0)]) r_84_7 (n_84_7 _) (by decide) rfl ?_
  exact wp_pr (l' := [(0, rf 42), (1, iv 0), (2, iv 0), (3, iv 0), (4, iv 0)]) rfl h
theorem v_BestOrder_choose_9 {S : Option (Nat × (Nat → Int32))} {s : zSt} {Q : Option Value ⊕ Nat → zSt → Prop} {x1 : Int} {x2 : Int} {x3 : Int} {x4 : Int} 
    (h : rng x4 ∧ (((zI s 42 2) ≤ x4 → Q rU s) ∧ (x4 < (zI s 42 2) → wp S 84 21 [(0, rf 42), (1, iv x1), (2, iv x2), (3, iv x3), (4, iv x4), (5, iv 0)] [] s Q))) :
    wp S 84 9 [(0, rf 42), (1, iv x1), (2, iv x2), (3, iv x3), (4, iv x4)] [] s Q := by
  refine i_iload (x := x4) r_84_9 rfl rfl ?_
  refine i_aload_n (a := 42) r_84_11 (n_84_11 _) rfl ?_
  refine i_getI (a := 42) r_84_12 (n_84_12 _) rfl (by decide) lf_42 (fun q1 => ?_)
  obtain ⟨g2, h⟩ := h
  refine i_icmp (t := 138) r_84_15 (n_84_15 _) rfl (T_ge g2 q1) (fun c3 => ?_) (fun c3 => ?_)
  · replace h := h.1 c3
    exact i_return r_84_138 (n_84_138 _) rfl h
  · replace h := h.2 c3
    refine i_iconst r_84_18 (n_84_18 _) ?_
    refine i_istore (l' := [(0, rf 42), (1, iv x1), (2, iv x2), (3, iv x3), (4, iv x4), (5, iv 0)]) r_84_19 (n_84_19 _) (by decide) rfl ?_
    exact wp_pr (l' := [(0, rf 42), (1, iv x1), (2, iv x2), (3, iv x3), (4, iv x4), (5, iv 0)]) rfl h
theorem v_BestOrder_choose_21 {S : Option (Nat × (Nat → Int32))} {s : zSt} {Q : Option Value ⊕ Nat → zSt → Prop} {x1 : Int} {x2 : Int} {x3 : Int} {x4 : Int} {x5 : Int} 
    (h : rng x5 ∧ (((zI s 42 2) ≤ x5 → wp S 84 9 [(0, rf 42), (1, iv x1), (2, iv x2), (3, iv x3), (4, iv (x4 + 1))] [] s Q) ∧ (x5 < (zI s 42 2) → wp S 83 0 [(0, rf 42), (1, iv x3), (2, iv x5)] [] s (fun o4 s4 => zkI (fun y4 => (y4 = 0 → (0 ≤ x5 ∧ x5 < 8) ∧ (wp S 24 0 [(0, iv x2), (1, iv (zI s4 45 x5))] [] s4 (fun o9 s9 => zkI (fun y9 => ((zand (zshr x1 x5) 1) = 1 → wp S 84 21 [(0, rf 42), (1, iv x1), (2, iv x2), (3, iv x3), (4, iv x4), (5, iv (x5 + 1))] [] s9 Q) ∧ ((zand (zshr x1 x5) 1) ≠ 1 → wp S 81 0 [(0, rf 42), (1, iv x1), (2, iv x3), (3, iv x5)] [] s9 (fun o13 s13 => zkI (fun y13 => rng ((y9 + (zI s9 44 x5)) + y13) ∧ ((((y9 + (zI s9 44 x5)) + y13) ≤ (zI s13 42 0) → (0 ≤ x4 ∧ x4 < 8) ∧ (wp S 82 0 [(0, rf 42), (1, iv x3), (2, iv x5)] [] (zwI s13 43 x4 x5) (fun o19 s19 => zkI (fun y19 => wp S 84 9 [(0, rf 42), (1, iv (zor x1 (zshl 1 x5))), (2, iv (y9 + (zI s9 44 x5))), (3, iv y19), (4, iv (x4 + 1))] [] s19 Q) (fun e19 => False) o19))) ∧ ((zI s13 42 0) < ((y9 + (zI s9 44 x5)) + y13) → wp S 84 21 [(0, rf 42), (1, iv x1), (2, iv x2), (3, iv x3), (4, iv x4), (5, iv (x5 + 1))] [] s13 Q))) (fun e13 => False) o13))) (fun e9 => False) o9))) ∧ (y4 ≠ 0 → ((zand (zshr x1 x5) 1) = 1 → wp S 84 21 [(0, rf 42), (1, iv x1), (2, iv x2), (3, iv x3), (4, iv x4), (5, iv (x5 + 1))] [] s4 Q) ∧ ((zand (zshr x1 x5) 1) ≠ 1 → wp S 81 0 [(0, rf 42), (1, iv x1), (2, iv x3), (3, iv x5)] [] s4 (fun o22 s22 => zkI (fun y22 => rng (x2 + y22) ∧ (((x2 + y22) ≤ (zI s22 42 0) → (0 ≤ x4 ∧ x4 < 8) ∧ (wp S 82 0 [(0, rf 42), (1, iv x3), (2, iv x5)] [] (zwI s22 43 x4 x5) (fun o28 s28 => zkI (fun y28 => wp S 84 9 [(0, rf 42), (1, iv (zor x1 (zshl 1 x5))), (2, iv x2), (3, iv y28), (4, iv (x4 + 1))] [] s28 Q) (fun e28 => False) o28))) ∧ ((zI s22 42 0) < (x2 + y22) → wp S 84 21 [(0, rf 42), (1, iv x1), (2, iv x2), (3, iv x3), (4, iv x4), (5, iv (x5 + 1))] [] s22 Q))) (fun e22 => False) o22)))) (fun e4 => False) o4)))) :
    wp S 84 21 [(0, rf 42), (1, iv x1), (2, iv x2), (3, iv x3), (4, iv x4), (5, iv x5)] [] s Q := by
  refine i_iload (x := x5) r_84_21 rfl rfl ?_
  refine i_aload_n (a := 42) r_84_23 (n_84_23 _) rfl ?_
  refine i_getI (a := 42) r_84_24 (n_84_24 _) rfl (by decide) lf_42 (fun q1 => ?_)
  obtain ⟨g2, h⟩ := h
  refine i_icmp (t := 132) r_84_27 (n_84_27 _) rfl (T_ge g2 q1) (fun c3 => ?_) (fun c3 => ?_)
  · replace h := h.1 c3
    refine i_iinc (x := x4) (l' := [(0, rf 42), (1, iv x1), (2, iv x2), (3, iv x3), (4, iv (x4 + 1)), (5, iv x5)]) r_84_132 (n_84_132 _) (by decide) rfl rfl ?_
    refine i_goto (t := 9) r_84_135 (n_84_135 _) rfl ?_
    exact wp_pr (l' := [(0, rf 42), (1, iv x1), (2, iv x2), (3, iv x3), (4, iv (x4 + 1))]) rfl h
  · replace h := h.2 c3
    refine i_aload_n (a := 42) r_84_30 (n_84_30 _) rfl ?_
    refine i_iload_n (x := x3) r_84_31 (n_84_31 _) rfl ?_
    refine i_iload (x := x5) r_84_32 (n_84_32 _) rfl ?_
    refine wp_virt (b := 42) (rest := []) (Ls := [(0, rf 42), (1, iv x3), (2, iv x5)]) r_84_34 (n_84_34 _) rfl ⟨rfl, rfl, by decide, by decide⟩ rfl rfl lf_42 ⟨rfl, Nat.le_of_ble_eq_true rfl, Nat.le_of_ble_eq_true rfl⟩ rfl h ?_
    intro o4 s4 h
    rcases h with ⟨y4, q5, rfl, h⟩ | ⟨e4, rfl, h⟩
    · refine .inl ⟨some (iv y4), rfl, ?_⟩
      show wp S 84 37 [(0, rf 42), (1, iv x1), (2, iv x2), (3, iv x3), (4, iv x4), (5, iv x5)] [iv y4] s4 Q
      refine i_if (t := 44) r_84_37 (n_84_37 _) rfl (T_eq q5 ⟨by omega, by omega⟩) (fun c6 => ?_) (fun c6 => ?_)
      · replace h := h.1 c6
        refine i_iload_n (x := x2) r_84_44 (n_84_44 _) rfl ?_
        refine i_aload_n (a := 42) r_84_45 (n_84_45 _) rfl ?_
        refine i_getR (a := 42) (b := 45) r_84_46 (n_84_46 _) rfl rfl rfl (by omega) lf_42 (by omega) ?_
        refine i_iload (x := x5) r_84_49 (n_84_49 _) rfl ?_
        obtain ⟨g7, h⟩ := h
        refine i_iaload (a := 45) (j := x5) r_84_51 (n_84_51 _) lf_45 ⟨by omega, by omega⟩ (by omega) (by omega) (fun q8 => ?_)
        refine wp_stat (rest := []) (Ls := [(0, iv x2), (1, iv (zI s4 45 x5))]) r_84_52 (n_84_52 _) rfl ⟨rfl, by decide, by decide, by decide⟩ rfl rfl ⟨rfl, Nat.le_of_ble_eq_true rfl, Nat.le_of_ble_eq_true rfl⟩ rfl h ?_
        intro o9 s9 h
        rcases h with ⟨y9, q10, rfl, h⟩ | ⟨e9, rfl, h⟩
        · refine .inl ⟨some (iv y9), rfl, ?_⟩
          show wp S 84 55 [(0, rf 42), (1, iv x1), (2, iv x2), (3, iv x3), (4, iv x4), (5, iv x5)] [iv y9] s9 Q
          refine i_aload_n (a := 42) r_84_55 (n_84_55 _) rfl ?_
          refine i_getR (a := 42) (b := 44) r_84_56 (n_84_56 _) rfl rfl rfl (by omega) lf_42 (by omega) ?_
          refine i_iload (x := x5) r_84_59 (n_84_59 _) rfl ?_
          refine i_iaload (a := 44) (j := x5) r_84_61 (n_84_61 _) lf_44 ⟨by omega, by omega⟩ (by omega) (by omega) (fun q11 => ?_)
          refine i_iadd r_84_62 (n_84_62 _) ?_
          refine i_istore (l' := [(0, rf 42), (1, iv x1), (2, iv x2), (3, iv x3), (4, iv x4), (5, iv x5), (6, iv (y9 + (zI s9 44 x5)))]) r_84_63 (n_84_63 _) (by decide) rfl ?_
          refine i_iload_n (x := x1) r_84_65 (n_84_65 _) rfl ?_
          refine i_iload (x := x5) r_84_66 (n_84_66 _) rfl ?_
          refine i_ishr r_84_68 (n_84_68 _) ?_
          refine i_iconst r_84_69 (n_84_69 _) ?_
          refine i_iand r_84_70 (n_84_70 _) ?_
          refine i_iconst r_84_71 (n_84_71 _) ?_
          refine i_icmp (t := 126) r_84_72 (n_84_72 _) rfl (T_eq (rng_to _) ⟨by omega, by omega⟩) (fun c12 => ?_) (fun c12 => ?_)
          · replace h := h.1 c12
            refine i_iinc (x := x5) (l' := [(0, rf 42), (1, iv x1), (2, iv x2), (3, iv x3), (4, iv x4), (5, iv (x5 + 1)), (6, iv (y9 + (zI s9 44 x5)))]) r_84_126 (n_84_126 _) (by decide) rfl rfl ?_
            refine i_goto (t := 21) r_84_129 (n_84_129 _) rfl ?_
            exact wp_pr (l' := [(0, rf 42), (1, iv x1), (2, iv x2), (3, iv x3), (4, iv x4), (5, iv (x5 + 1))]) rfl h
          · replace h := h.2 c12
            refine i_iload (x := y9 + (zI s9 44 x5)) r_84_75 (n_84_75 _) rfl ?_
            refine i_aload_n (a := 42) r_84_77 (n_84_77 _) rfl ?_
            refine i_iload_n (x := x1) r_84_78 (n_84_78 _) rfl ?_
            refine i_iload_n (x := x3) r_84_79 (n_84_79 _) rfl ?_
            refine i_iload (x := x5) r_84_80 (n_84_80 _) rfl ?_
            refine wp_virt (b := 42) (rest := [iv (y9 + (zI s9 44 x5))]) (Ls := [(0, rf 42), (1, iv x1), (2, iv x3), (3, iv x5)]) r_84_82 (n_84_82 _) rfl ⟨rfl, rfl, by decide, by decide⟩ rfl rfl lf_42 ⟨rfl, Nat.le_of_ble_eq_true rfl, Nat.le_of_ble_eq_true rfl⟩ rfl h ?_
            intro o13 s13 h
            rcases h with ⟨y13, q14, rfl, h⟩ | ⟨e13, rfl, h⟩
            · refine .inl ⟨some (iv y13), rfl, ?_⟩
              show wp S 84 85 [(0, rf 42), (1, iv x1), (2, iv x2), (3, iv x3), (4, iv x4), (5, iv x5), (6, iv (y9 + (zI s9 44 x5)))] [iv y13, iv (y9 + (zI s9 44 x5))] s13 Q
              refine i_iadd r_84_85 (n_84_85 _) ?_
              refine i_aload_n (a := 42) r_84_86 (n_84_86 _) rfl ?_
              refine i_getI (a := 42) r_84_87 (n_84_87 _) rfl (by decide) lf_42 (fun q15 => ?_)
              obtain ⟨g16, h⟩ := h
              refine i_icmp (t := 96) r_84_90 (n_84_90 _) rfl (T_le g16 q15) (fun c17 => ?_) (fun c17 => ?_)
              · replace h := h.1 c17
                refine i_aload_n (a := 42) r_84_96 (n_84_96 _) rfl ?_
                refine i_getR (a := 42) (b := 43) r_84_97 (n_84_97 _) rfl rfl rfl (by omega) lf_42 (by omega) ?_
                refine i_iload (x := x4) r_84_100 (n_84_100 _) rfl ?_
                refine i_iload (x := x5) r_84_102 (n_84_102 _) rfl ?_
                obtain ⟨g18, h⟩ := h
                refine i_iastore (a := 43) (j := x4) (x := x5) r_84_104 (n_84_104 _) lf_43 ⟨by omega, by omega⟩ (by omega) (by omega) g2 ?_
                refine i_iload_n (x := x1) r_84_105 (n_84_105 _) rfl ?_
                refine i_iconst r_84_106 (n_84_106 _) ?_
                refine i_iload (x := x5) r_84_107 (n_84_107 _) rfl ?_
                refine i_ishl r_84_109 (n_84_109 _) ?_
                refine i_ior r_84_110 (n_84_110 _) ?_
                refine i_istore_n (l' := [(0, rf 42), (1, iv (zor x1 (zshl 1 x5))), (2, iv x2), (3, iv x3), (4, iv x4), (5, iv x5), (6, iv (y9 + (zI s9 44 x5)))]) r_84_111 (n_84_111 _) (by decide) rfl ?_
                refine i_iload (x := y9 + (zI s9 44 x5)) r_84_112 (n_84_112 _) rfl ?_
                refine i_istore_n (l' := [(0, rf 42), (1, iv (zor x1 (zshl 1 x5))), (2, iv (y9 + (zI s9 44 x5))), (3, iv x3), (4, iv x4), (5, iv x5), (6, iv (y9 + (zI s9 44 x5)))]) r_84_114 (n_84_114 _) (by decide) rfl ?_
                refine i_aload_n (a := 42) r_84_115 (n_84_115 _) rfl ?_
                refine i_iload_n (x := x3) r_84_116 (n_84_116 _) rfl ?_
                refine i_iload (x := x5) r_84_117 (n_84_117 _) rfl ?_
                refine wp_virt (b := 42) (rest := []) (Ls := [(0, rf 42), (1, iv x3), (2, iv x5)]) r_84_119 (n_84_119 _) rfl ⟨rfl, rfl, by decide, by decide⟩ rfl rfl lf_42 ⟨rfl, Nat.le_of_ble_eq_true rfl, Nat.le_of_ble_eq_true rfl⟩ rfl h ?_
                intro o19 s19 h
                rcases h with ⟨y19, q20, rfl, h⟩ | ⟨e19, rfl, h⟩
                · refine .inl ⟨some (iv y19), rfl, ?_⟩
                  show wp S 84 122 [(0, rf 42), (1, iv (zor x1 (zshl 1 x5))), (2, iv (y9 + (zI s9 44 x5))), (3, iv x3), (4, iv x4), (5, iv x5), (6, iv (y9 + (zI s9 44 x5)))] [iv y19] s19 Q
                  refine i_istore_n (l' := [(0, rf 42), (1, iv (zor x1 (zshl 1 x5))), (2, iv (y9 + (zI s9 44 x5))), (3, iv y19), (4, iv x4), (5, iv x5), (6, iv (y9 + (zI s9 44 x5)))]) r_84_122 (n_84_122 _) (by decide) rfl ?_
                  refine i_goto (t := 132) r_84_123 (n_84_123 _) rfl ?_
                  refine i_iinc (x := x4) (l' := [(0, rf 42), (1, iv (zor x1 (zshl 1 x5))), (2, iv (y9 + (zI s9 44 x5))), (3, iv y19), (4, iv (x4 + 1)), (5, iv x5), (6, iv (y9 + (zI s9 44 x5)))]) r_84_132 (n_84_132 _) (by decide) rfl rfl ?_
                  refine i_goto (t := 9) r_84_135 (n_84_135 _) rfl ?_
                  exact wp_pr (l' := [(0, rf 42), (1, iv (zor x1 (zshl 1 x5))), (2, iv (y9 + (zI s9 44 x5))), (3, iv y19), (4, iv (x4 + 1))]) rfl h
                · skip
                  exact h.elim
              · replace h := h.2 c17
                refine i_goto (t := 126) r_84_93 (n_84_93 _) rfl ?_
                refine i_iinc (x := x5) (l' := [(0, rf 42), (1, iv x1), (2, iv x2), (3, iv x3), (4, iv x4), (5, iv (x5 + 1)), (6, iv (y9 + (zI s9 44 x5)))]) r_84_126 (n_84_126 _) (by decide) rfl rfl ?_
                refine i_goto (t := 21) r_84_129 (n_84_129 _) rfl ?_
                exact wp_pr (l' := [(0, rf 42), (1, iv x1), (2, iv x2), (3, iv x3), (4, iv x4), (5, iv (x5 + 1))]) rfl h
            · skip
              exact h.elim
        · skip
          exact h.elim
      · replace h := h.2 c6
        refine i_iload_n (x := x2) r_84_40 (n_84_40 _) rfl ?_
        refine i_goto (t := 63) r_84_41 (n_84_41 _) rfl ?_
        refine i_istore (l' := [(0, rf 42), (1, iv x1), (2, iv x2), (3, iv x3), (4, iv x4), (5, iv x5), (6, iv x2)]) r_84_63 (n_84_63 _) (by decide) rfl ?_
        refine i_iload_n (x := x1) r_84_65 (n_84_65 _) rfl ?_
        refine i_iload (x := x5) r_84_66 (n_84_66 _) rfl ?_
        refine i_ishr r_84_68 (n_84_68 _) ?_
        refine i_iconst r_84_69 (n_84_69 _) ?_
        refine i_iand r_84_70 (n_84_70 _) ?_
        refine i_iconst r_84_71 (n_84_71 _) ?_
        refine i_icmp (t := 126) r_84_72 (n_84_72 _) rfl (T_eq (rng_to _) ⟨by omega, by omega⟩) (fun c21 => ?_) (fun c21 => ?_)
        · replace h := h.1 c21
          refine i_iinc (x := x5) (l' := [(0, rf 42), (1, iv x1), (2, iv x2), (3, iv x3), (4, iv x4), (5, iv (x5 + 1)), (6, iv x2)]) r_84_126 (n_84_126 _) (by decide) rfl rfl ?_
          refine i_goto (t := 21) r_84_129 (n_84_129 _) rfl ?_
          exact wp_pr (l' := [(0, rf 42), (1, iv x1), (2, iv x2), (3, iv x3), (4, iv x4), (5, iv (x5 + 1))]) rfl h
        · replace h := h.2 c21
          refine i_iload (x := x2) r_84_75 (n_84_75 _) rfl ?_
          refine i_aload_n (a := 42) r_84_77 (n_84_77 _) rfl ?_
          refine i_iload_n (x := x1) r_84_78 (n_84_78 _) rfl ?_
          refine i_iload_n (x := x3) r_84_79 (n_84_79 _) rfl ?_
          refine i_iload (x := x5) r_84_80 (n_84_80 _) rfl ?_
          refine wp_virt (b := 42) (rest := [iv x2]) (Ls := [(0, rf 42), (1, iv x1), (2, iv x3), (3, iv x5)]) r_84_82 (n_84_82 _) rfl ⟨rfl, rfl, by decide, by decide⟩ rfl rfl lf_42 ⟨rfl, Nat.le_of_ble_eq_true rfl, Nat.le_of_ble_eq_true rfl⟩ rfl h ?_
          intro o22 s22 h
          rcases h with ⟨y22, q23, rfl, h⟩ | ⟨e22, rfl, h⟩
          · refine .inl ⟨some (iv y22), rfl, ?_⟩
            show wp S 84 85 [(0, rf 42), (1, iv x1), (2, iv x2), (3, iv x3), (4, iv x4), (5, iv x5), (6, iv x2)] [iv y22, iv x2] s22 Q
            refine i_iadd r_84_85 (n_84_85 _) ?_
            refine i_aload_n (a := 42) r_84_86 (n_84_86 _) rfl ?_
            refine i_getI (a := 42) r_84_87 (n_84_87 _) rfl (by decide) lf_42 (fun q24 => ?_)
            obtain ⟨g25, h⟩ := h
            refine i_icmp (t := 96) r_84_90 (n_84_90 _) rfl (T_le g25 q24) (fun c26 => ?_) (fun c26 => ?_)
            · replace h := h.1 c26
              refine i_aload_n (a := 42) r_84_96 (n_84_96 _) rfl ?_
              refine i_getR (a := 42) (b := 43) r_84_97 (n_84_97 _) rfl rfl rfl (by omega) lf_42 (by omega) ?_
              refine i_iload (x := x4) r_84_100 (n_84_100 _) rfl ?_
              refine i_iload (x := x5) r_84_102 (n_84_102 _) rfl ?_
              obtain ⟨g27, h⟩ := h
              refine i_iastore (a := 43) (j := x4) (x := x5) r_84_104 (n_84_104 _) lf_43 ⟨by omega, by omega⟩ (by omega) (by omega) g2 ?_
              refine i_iload_n (x := x1) r_84_105 (n_84_105 _) rfl ?_
              refine i_iconst r_84_106 (n_84_106 _) ?_
              refine i_iload (x := x5) r_84_107 (n_84_107 _) rfl ?_
              refine i_ishl r_84_109 (n_84_109 _) ?_
              refine i_ior r_84_110 (n_84_110 _) ?_
              refine i_istore_n (l' := [(0, rf 42), (1, iv (zor x1 (zshl 1 x5))), (2, iv x2), (3, iv x3), (4, iv x4), (5, iv x5), (6, iv x2)]) r_84_111 (n_84_111 _) (by decide) rfl ?_
              refine i_iload (x := x2) r_84_112 (n_84_112 _) rfl ?_
              refine i_istore_n (l' := [(0, rf 42), (1, iv (zor x1 (zshl 1 x5))), (2, iv x2), (3, iv x3), (4, iv x4), (5, iv x5), (6, iv x2)]) r_84_114 (n_84_114 _) (by decide) rfl ?_
              refine i_aload_n (a := 42) r_84_115 (n_84_115 _) rfl ?_
              refine i_iload_n (x := x3) r_84_116 (n_84_116 _) rfl ?_
              refine i_iload (x := x5) r_84_117 (n_84_117 _) rfl ?_
              refine wp_virt (b := 42) (rest := []) (Ls := [(0, rf 42), (1, iv x3), (2, iv x5)]) r_84_119 (n_84_119 _) rfl ⟨rfl, rfl, by decide, by decide⟩ rfl rfl lf_42 ⟨rfl, Nat.le_of_ble_eq_true rfl, Nat.le_of_ble_eq_true rfl⟩ rfl h ?_
              intro o28 s28 h
              rcases h with ⟨y28, q29, rfl, h⟩ | ⟨e28, rfl, h⟩
              · refine .inl ⟨some (iv y28), rfl, ?_⟩
                show wp S 84 122 [(0, rf 42), (1, iv (zor x1 (zshl 1 x5))), (2, iv x2), (3, iv x3), (4, iv x4), (5, iv x5), (6, iv x2)] [iv y28] s28 Q
                refine i_istore_n (l' := [(0, rf 42), (1, iv (zor x1 (zshl 1 x5))), (2, iv x2), (3, iv y28), (4, iv x4), (5, iv x5), (6, iv x2)]) r_84_122 (n_84_122 _) (by decide) rfl ?_
                refine i_goto (t := 132) r_84_123 (n_84_123 _) rfl ?_
                refine i_iinc (x := x4) (l' := [(0, rf 42), (1, iv (zor x1 (zshl 1 x5))), (2, iv x2), (3, iv y28), (4, iv (x4 + 1)), (5, iv x5), (6, iv x2)]) r_84_132 (n_84_132 _) (by decide) rfl rfl ?_
                refine i_goto (t := 9) r_84_135 (n_84_135 _) rfl ?_
                exact wp_pr (l' := [(0, rf 42), (1, iv (zor x1 (zshl 1 x5))), (2, iv x2), (3, iv y28), (4, iv (x4 + 1))]) rfl h
              · skip
                exact h.elim
            · replace h := h.2 c26
              refine i_goto (t := 126) r_84_93 (n_84_93 _) rfl ?_
              refine i_iinc (x := x5) (l' := [(0, rf 42), (1, iv x1), (2, iv x2), (3, iv x3), (4, iv x4), (5, iv (x5 + 1)), (6, iv x2)]) r_84_126 (n_84_126 _) (by decide) rfl rfl ?_
              refine i_goto (t := 21) r_84_129 (n_84_129 _) rfl ?_
              exact wp_pr (l' := [(0, rf 42), (1, iv x1), (2, iv x2), (3, iv x3), (4, iv x4), (5, iv (x5 + 1))]) rfl h
          · skip
            exact h.elim
    · skip
      exact h.elim
theorem r_86_0 : xfetch 86 0 = some (.aload_n 0, 1) := by decide +kernel
theorem n_86_0 : ∀ l, xpr 86 0 l = l := xpr_no (by decide +kernel)
theorem r_86_1 : xfetch 86 1 = some (.iload_n 1, 1) := by decide +kernel
theorem n_86_1 : ∀ l, xpr 86 1 l = l := xpr_no (by decide +kernel)
theorem r_86_2 : xfetch 86 2 = some (.invokevirtual 95, 3) := by decide +kernel
theorem n_86_2 : ∀ l, xpr 86 2 l = l := xpr_no (by decide +kernel)
theorem r_86_5 : xfetch 86 5 = some (.iload_n 2, 1) := by decide +kernel
theorem n_86_5 : ∀ l, xpr 86 5 l = l := xpr_no (by decide +kernel)
theorem r_86_6 : xfetch 86 6 = some (.ifCond .lt 19, 3) := by decide +kernel
theorem n_86_6 : ∀ l, xpr 86 6 l = l := xpr_no (by decide +kernel)
theorem r_86_9 : xfetch 86 9 = some (.iload_n 2, 1) := by decide +kernel
theorem n_86_9 : ∀ l, xpr 86 9 l = l := xpr_no (by decide +kernel)
theorem r_86_10 : xfetch 86 10 = some (.aload_n 0, 1) := by decide +kernel
theorem n_86_10 : ∀ l, xpr 86 10 l = l := xpr_no (by decide +kernel)
theorem r_86_11 : xfetch 86 11 = some (.getfield 10, 3) := by decide +kernel
theorem n_86_11 : ∀ l, xpr 86 11 l = l := xpr_no (by decide +kernel)
theorem r_86_14 : xfetch 86 14 = some (.getfield 83, 3) := by decide +kernel
theorem n_86_14 : ∀ l, xpr 86 14 l = l := xpr_no (by decide +kernel)
theorem r_86_17 : xfetch 86 17 = some (.iload_n 1, 1) := by decide +kernel
theorem n_86_17 : ∀ l, xpr 86 17 l = l := xpr_no (by decide +kernel)
theorem r_86_18 : xfetch 86 18 = some (.aaload, 1) := by decide +kernel
theorem n_86_18 : ∀ l, xpr 86 18 l = l := xpr_no (by decide +kernel)
theorem r_86_19 : xfetch 86 19 = some (.getfield 133, 3) := by decide +kernel
theorem n_86_19 : ∀ l, xpr 86 19 l = l := xpr_no (by decide +kernel)
theorem r_86_22 : xfetch 86 22 = some (.if_icmp .lt 13, 3) := by decide +kernel
theorem n_86_22 : ∀ l, xpr 86 22 l = l := xpr_no (by decide +kernel)
theorem r_86_25 : xfetch 86 25 = some (.new 157, 3) := by decide +kernel
theorem n_86_25 : ∀ l, xpr 86 25 l = l := xpr_no (by decide +kernel)
theorem r_86_35 : xfetch 86 35 = some (.aload_n 0, 1) := by decide +kernel
theorem n_86_35 : ∀ l, xpr 86 35 l = l := xpr_no (by decide +kernel)
theorem r_86_36 : xfetch 86 36 = some (.iload_n 1, 1) := by decide +kernel
theorem n_86_36 : ∀ l, xpr 86 36 l = l := xpr_no (by decide +kernel)
theorem r_86_37 : xfetch 86 37 = some (.invokevirtual 192, 3) := by decide +kernel
theorem n_86_37 : ∀ l, xpr 86 37 l = l := xpr_no (by decide +kernel)
theorem r_86_40 : xfetch 86 40 = some (.aload_n 0, 1) := by decide +kernel
theorem n_86_40 : ∀ l, xpr 86 40 l = l := xpr_no (by decide +kernel)
theorem r_86_41 : xfetch 86 41 = some (.getfield 36, 3) := by decide +kernel
theorem n_86_41 : ∀ l, xpr 86 41 l = l := xpr_no (by decide +kernel)
theorem r_86_44 : xfetch 86 44 = some (.getfield 200, 3) := by decide +kernel
theorem n_86_44 : ∀ l, xpr 86 44 l = l := xpr_no (by decide +kernel)
theorem r_86_47 : xfetch 86 47 = some (.iload_n 2, 1) := by decide +kernel
theorem n_86_47 : ∀ l, xpr 86 47 l = l := xpr_no (by decide +kernel)
theorem r_86_48 : xfetch 86 48 = some (.iaload, 1) := by decide +kernel
theorem n_86_48 : ∀ l, xpr 86 48 l = l := xpr_no (by decide +kernel)
theorem r_86_49 : xfetch 86 49 = some (.ireturn, 1) := by decide +kernel
theorem n_86_49 : ∀ l, xpr 86 49 l = l := xpr_no (by decide +kernel)
theorem v_RL_bestOrder_0 {S : Option (Nat × (Nat → Int32))} {s : zSt} {Q : Option Value ⊕ Nat → zSt → Prop} {x1 : Int} {x2 : Int} 
    (h : wp S 54 0 [(0, rf 2), (1, iv x1)] [] s (fun o1 s1 => zkU (rng x2 ∧ ((x2 < 0 → Q (rT 2) (zbump s1)) ∧ (0 ≤ x2 → (0 ≤ x1 ∧ x1 < 6) ∧ ((x2 < (zI s1 (7 + 4 * x1) 1) → wp S 76 0 [(0, rf 2), (1, iv x1)] [] s1 (fun o9 s9 => zkU ((0 ≤ x2 ∧ x2 < 8) ∧ (Q (rI (zI s9 43 x2)) s9)) (fun e9 => False) o9)) ∧ ((zI s1 (7 + 4 * x1) 1) ≤ x2 → Q (rT 2) (zbump s1)))))) (fun e1 => Q (rT e1) s1) o1)) :
    wp S 86 0 [(0, rf 2), (1, iv x1), (2, iv x2)] [] s Q := by
  refine i_aload_n (a := 2) r_86_0 (n_86_0 _) rfl ?_
  refine i_iload_n (x := x1) r_86_1 (n_86_1 _) rfl ?_
  refine wp_virt (b := 2) (rest := []) (Ls := [(0, rf 2), (1, iv x1)]) r_86_2 (n_86_2 _) rfl ⟨rfl, rfl, by decide, by decide⟩ rfl rfl lf_2 ⟨rfl, Nat.le_of_ble_eq_true rfl, Nat.le_of_ble_eq_true rfl⟩ rfl h ?_
  intro o1 s1 h
  rcases h with ⟨rfl, h⟩ | ⟨e1, rfl, h⟩
  · refine .inl ⟨none, rfl, ?_⟩
    refine i_iload_n (x := x2) r_86_5 (n_86_5 _) rfl ?_
    obtain ⟨g3, h⟩ := h
    refine i_if (t := 25) r_86_6 (n_86_6 _) rfl (T_lt g3 ⟨by omega, by omega⟩) (fun c4 => ?_) (fun c4 => ?_)
    · replace h := h.1 c4
      exact i_throw r_86_25 (n_86_25 _) rfl (by decide) h
    · replace h := h.2 c4
      refine i_iload_n (x := x2) r_86_9 (n_86_9 _) rfl ?_
      refine i_aload_n (a := 2) r_86_10 (n_86_10 _) rfl ?_
      refine i_getR (a := 2) (b := 3) r_86_11 (n_86_11 _) rfl rfl rfl (by omega) lf_2 (by omega) ?_
      refine i_getR (a := 3) (b := 4) r_86_14 (n_86_14 _) rfl rfl rfl (by omega) lf_3 (by omega) ?_
      refine i_iload_n (x := x1) r_86_17 (n_86_17 _) rfl ?_
      obtain ⟨g5, h⟩ := h
      refine i_aaload (c := 1) (a := 4) (j := x1) (b := 7 + 4 * x1) r_86_18 (n_86_18 _) lf_4 ⟨by omega, by omega⟩ (by omega) (by omega) rfl (by omega) ?_
      have t6 := e_1 (j := x1) lf_4 (by omega) (by omega)
      rw [show 4 + 3 + 4 * x1 = 7 + 4 * x1 by omega] at t6
      refine i_getI (a := 7 + 4 * x1) r_86_19 (n_86_19 _) rfl (by decide) t6 (fun q7 => ?_)
      refine i_icmp (t := 35) r_86_22 (n_86_22 _) rfl (T_lt g3 q7) (fun c8 => ?_) (fun c8 => ?_)
      · replace h := h.1 c8
        refine i_aload_n (a := 2) r_86_35 (n_86_35 _) rfl ?_
        refine i_iload_n (x := x1) r_86_36 (n_86_36 _) rfl ?_
        refine wp_virt (b := 2) (rest := []) (Ls := [(0, rf 2), (1, iv x1)]) r_86_37 (n_86_37 _) rfl ⟨rfl, rfl, by decide, by decide⟩ rfl rfl lf_2 ⟨rfl, Nat.le_of_ble_eq_true rfl, Nat.le_of_ble_eq_true rfl⟩ rfl h ?_
        intro o9 s9 h
        rcases h with ⟨rfl, h⟩ | ⟨e9, rfl, h⟩
        · refine .inl ⟨none, rfl, ?_⟩
          refine i_aload_n (a := 2) r_86_40 (n_86_40 _) rfl ?_
          refine i_getR (a := 2) (b := 42) r_86_41 (n_86_41 _) rfl rfl rfl (by omega) lf_2 (by omega) ?_
          refine i_getR (a := 42) (b := 43) r_86_44 (n_86_44 _) rfl rfl rfl (by omega) lf_42 (by omega) ?_
          refine i_iload_n (x := x2) r_86_47 (n_86_47 _) rfl ?_
          obtain ⟨g11, h⟩ := h
          refine i_iaload (a := 43) (j := x2) r_86_48 (n_86_48 _) lf_43 ⟨by omega, by omega⟩ (by omega) (by omega) (fun q12 => ?_)
          exact i_ireturn r_86_49 (n_86_49 _) rfl h
        · skip
          exact h.elim
      · replace h := h.2 c8
        exact i_throw r_86_25 (n_86_25 _) rfl (by decide) h
  · skip
    exact .inr ⟨e1, rfl, .inl ⟨rfl, h⟩⟩
theorem r_88_0 : xfetch 88 0 = some (.iload_n 1, 1) := by decide +kernel
theorem n_88_0 : ∀ l, xpr 88 0 l = l := xpr_no (by decide +kernel)
theorem r_88_1 : xfetch 88 1 = some (.ifCond .lt 9, 3) := by decide +kernel
theorem n_88_1 : ∀ l, xpr 88 1 l = l := xpr_no (by decide +kernel)
theorem r_88_4 : xfetch 88 4 = some (.iload_n 1, 1) := by decide +kernel
theorem n_88_4 : ∀ l, xpr 88 4 l = l := xpr_no (by decide +kernel)
theorem r_88_5 : xfetch 88 5 = some (.bipush 127, 2) := by decide +kernel
theorem n_88_5 : ∀ l, xpr 88 5 l = l := xpr_no (by decide +kernel)
theorem r_88_7 : xfetch 88 7 = some (.if_icmp .le 13, 3) := by decide +kernel
theorem n_88_7 : ∀ l, xpr 88 7 l = l := xpr_no (by decide +kernel)
theorem r_88_10 : xfetch 88 10 = some (.new 102, 3) := by decide +kernel
theorem n_88_10 : ∀ l, xpr 88 10 l = l := xpr_no (by decide +kernel)
theorem r_88_20 : xfetch 88 20 = some (.aload_n 0, 1) := by decide +kernel
theorem n_88_20 : ∀ l, xpr 88 20 l = l := xpr_no (by decide +kernel)
theorem r_88_21 : xfetch 88 21 = some (.getfield 29, 3) := by decide +kernel
theorem n_88_21 : ∀ l, xpr 88 21 l = l := xpr_no (by decide +kernel)
theorem r_88_24 : xfetch 88 24 = some (.getfield 205, 3) := by decide +kernel
theorem n_88_24 : ∀ l, xpr 88 24 l = l := xpr_no (by decide +kernel)
theorem r_88_27 : xfetch 88 27 = some (.bipush 80, 2) := by decide +kernel
theorem n_88_27 : ∀ l, xpr 88 27 l = l := xpr_no (by decide +kernel)
theorem r_88_29 : xfetch 88 29 = some (.if_icmp .lt 13, 3) := by decide +kernel
theorem n_88_29 : ∀ l, xpr 88 29 l = l := xpr_no (by decide +kernel)
theorem r_88_32 : xfetch 88 32 = some (.new 137, 3) := by decide +kernel
theorem n_88_32 : ∀ l, xpr 88 32 l = l := xpr_no (by decide +kernel)
theorem r_88_42 : xfetch 88 42 = some (.aload_n 0, 1) := by decide +kernel
theorem n_88_42 : ∀ l, xpr 88 42 l = l := xpr_no (by decide +kernel)
theorem r_88_43 : xfetch 88 43 = some (.getfield 29, 3) := by decide +kernel
theorem n_88_43 : ∀ l, xpr 88 43 l = l := xpr_no (by decide +kernel)
theorem r_88_46 : xfetch 88 46 = some (.iload_n 1, 1) := by decide +kernel
theorem n_88_46 : ∀ l, xpr 88 46 l = l := xpr_no (by decide +kernel)
theorem r_88_47 : xfetch 88 47 = some (.invokevirtual 210, 3) := by decide +kernel
theorem n_88_47 : ∀ l, xpr 88 47 l = l := xpr_no (by decide +kernel)
theorem r_88_50 : xfetch 88 50 = some (.aload_n 0, 1) := by decide +kernel
theorem n_88_50 : ∀ l, xpr 88 50 l = l := xpr_no (by decide +kernel)
theorem r_88_51 : xfetch 88 51 = some (.getfield 29, 3) := by decide +kernel
theorem n_88_51 : ∀ l, xpr 88 51 l = l := xpr_no (by decide +kernel)
theorem r_88_54 : xfetch 88 54 = some (.getfield 205, 3) := by decide +kernel
theorem n_88_54 : ∀ l, xpr 88 54 l = l := xpr_no (by decide +kernel)
theorem r_88_57 : xfetch 88 57 = some (.ireturn, 1) := by decide +kernel
theorem n_88_57 : ∀ l, xpr 88 57 l = l := xpr_no (by decide +kernel)
theorem v_RL_append_0 {S : Option (Nat × (Nat → Int32))} {s : zSt} {Q : Option Value ⊕ Nat → zSt → Prop} {x1 : Int} 
    (h : rng x1 ∧ ((x1 < 0 → Q (rT 0) (zbump s)) ∧ (0 ≤ x1 → (x1 ≤ 127 → ((zI s 36 0) < 80 → wp S 89 0 [(0, rf 36), (1, iv x1)] [] s (fun o6 s6 => zkU (Q (rI (zI s6 36 0)) s6) (fun e6 => False) o6)) ∧ (80 ≤ (zI s 36 0) → Q (rT 1) (zbump s))) ∧ (127 < x1 → Q (rT 0) (zbump s))))) :
    wp S 88 0 [(0, rf 2), (1, iv x1)] [] s Q := by
  refine i_iload_n (x := x1) r_88_0 (n_88_0 _) rfl ?_
  obtain ⟨g1, h⟩ := h
  refine i_if (t := 10) r_88_1 (n_88_1 _) rfl (T_lt g1 ⟨by omega, by omega⟩) (fun c2 => ?_) (fun c2 => ?_)
  · replace h := h.1 c2
    exact i_throw r_88_10 (n_88_10 _) rfl (by decide) h
  · replace h := h.2 c2
    refine i_iload_n (x := x1) r_88_4 (n_88_4 _) rfl ?_
    refine i_bipush r_88_5 (n_88_5 _) rfl ?_
    refine i_icmp (t := 20) r_88_7 (n_88_7 _) rfl (T_le g1 ⟨by omega, by omega⟩) (fun c3 => ?_) (fun c3 => ?_)
    · replace h := h.1 c3
      refine i_aload_n (a := 2) r_88_20 (n_88_20 _) rfl ?_
      refine i_getR (a := 2) (b := 36) r_88_21 (n_88_21 _) rfl rfl rfl (by omega) lf_2 (by omega) ?_
      refine i_getI (a := 36) r_88_24 (n_88_24 _) rfl (by decide) lf_36 (fun q4 => ?_)
      refine i_bipush r_88_27 (n_88_27 _) rfl ?_
      refine i_icmp (t := 42) r_88_29 (n_88_29 _) rfl (T_lt q4 ⟨by omega, by omega⟩) (fun c5 => ?_) (fun c5 => ?_)
      · replace h := h.1 c5
        refine i_aload_n (a := 2) r_88_42 (n_88_42 _) rfl ?_
        refine i_getR (a := 2) (b := 36) r_88_43 (n_88_43 _) rfl rfl rfl (by omega) lf_2 (by omega) ?_
        refine i_iload_n (x := x1) r_88_46 (n_88_46 _) rfl ?_
        refine wp_virt (b := 36) (rest := []) (Ls := [(0, rf 36), (1, iv x1)]) r_88_47 (n_88_47 _) rfl ⟨rfl, rfl, by decide, by decide⟩ rfl rfl lf_36 ⟨rfl, Nat.le_of_ble_eq_true rfl, Nat.le_of_ble_eq_true rfl⟩ rfl h ?_
        intro o6 s6 h
        rcases h with ⟨rfl, h⟩ | ⟨e6, rfl, h⟩
        · refine .inl ⟨none, rfl, ?_⟩
          refine i_aload_n (a := 2) r_88_50 (n_88_50 _) rfl ?_
          refine i_getR (a := 2) (b := 36) r_88_51 (n_88_51 _) rfl rfl rfl (by omega) lf_2 (by omega) ?_
          refine i_getI (a := 36) r_88_54 (n_88_54 _) rfl (by decide) lf_36 (fun q8 => ?_)
          exact i_ireturn r_88_57 (n_88_57 _) rfl h
        · skip
          exact h.elim
      · replace h := h.2 c5
        exact i_throw r_88_32 (n_88_32 _) rfl (by decide) h
    · replace h := h.2 c3
      exact i_throw r_88_10 (n_88_10 _) rfl (by decide) h
theorem r_89_0 : xfetch 89 0 = some (.aload_n 0, 1) := by decide +kernel
theorem n_89_0 : ∀ l, xpr 89 0 l = l := xpr_no (by decide +kernel)
theorem r_89_1 : xfetch 89 1 = some (.getfield 22, 3) := by decide +kernel
theorem n_89_1 : ∀ l, xpr 89 1 l = l := xpr_no (by decide +kernel)
theorem r_89_4 : xfetch 89 4 = some (.bipush 80, 2) := by decide +kernel
theorem n_89_4 : ∀ l, xpr 89 4 l = l := xpr_no (by decide +kernel)
theorem r_89_6 : xfetch 89 6 = some (.if_icmp .ge 24, 3) := by decide +kernel
theorem n_89_6 : ∀ l, xpr 89 6 l = l := xpr_no (by decide +kernel)
theorem r_89_9 : xfetch 89 9 = some (.aload_n 0, 1) := by decide +kernel
theorem n_89_9 : ∀ l, xpr 89 9 l = l := xpr_no (by decide +kernel)
theorem r_89_10 : xfetch 89 10 = some (.getfield 18, 3) := by decide +kernel
theorem n_89_10 : ∀ l, xpr 89 10 l = l := xpr_no (by decide +kernel)
theorem r_89_13 : xfetch 89 13 = some (.aload_n 0, 1) := by decide +kernel
theorem n_89_13 : ∀ l, xpr 89 13 l = l := xpr_no (by decide +kernel)
theorem r_89_14 : xfetch 89 14 = some (.getfield 22, 3) := by decide +kernel
theorem n_89_14 : ∀ l, xpr 89 14 l = l := xpr_no (by decide +kernel)
theorem r_89_17 : xfetch 89 17 = some (.iload_n 1, 1) := by decide +kernel
theorem n_89_17 : ∀ l, xpr 89 17 l = l := xpr_no (by decide +kernel)
theorem r_89_18 : xfetch 89 18 = some (.i2b, 1) := by decide +kernel
theorem n_89_18 : ∀ l, xpr 89 18 l = l := xpr_no (by decide +kernel)
theorem r_89_19 : xfetch 89 19 = some (.bastore, 1) := by decide +kernel
theorem n_89_19 : ∀ l, xpr 89 19 l = l := xpr_no (by decide +kernel)
theorem r_89_20 : xfetch 89 20 = some (.aload_n 0, 1) := by decide +kernel
theorem n_89_20 : ∀ l, xpr 89 20 l = l := xpr_no (by decide +kernel)
theorem r_89_21 : xfetch 89 21 = some (.dup, 1) := by decide +kernel
theorem n_89_21 : ∀ l, xpr 89 21 l = l := xpr_no (by decide +kernel)
theorem r_89_22 : xfetch 89 22 = some (.getfield 22, 3) := by decide +kernel
theorem n_89_22 : ∀ l, xpr 89 22 l = l := xpr_no (by decide +kernel)
theorem r_89_25 : xfetch 89 25 = some (.iconst 1, 1) := by decide +kernel
theorem n_89_25 : ∀ l, xpr 89 25 l = l := xpr_no (by decide +kernel)
theorem r_89_26 : xfetch 89 26 = some (.iadd, 1) := by decide +kernel
theorem n_89_26 : ∀ l, xpr 89 26 l = l := xpr_no (by decide +kernel)
theorem r_89_27 : xfetch 89 27 = some (.putfield 22, 3) := by decide +kernel
theorem n_89_27 : ∀ l, xpr 89 27 l = l := xpr_no (by decide +kernel)
theorem r_89_30 : xfetch 89 30 = some (.return_, 1) := by decide +kernel
theorem n_89_30 : ∀ l, xpr 89 30 l = l := xpr_no (by decide +kernel)
theorem v_Text_add_0 {S : Option (Nat × (Nat → Int32))} {s : zSt} {Q : Option Value ⊕ Nat → zSt → Prop} {x1 : Int} 
    (h : (80 ≤ (zI s 36 0) → Q rU s) ∧ ((zI s 36 0) < 80 → (0 ≤ (zI s 36 0) ∧ (zI s 36 0) < 80) ∧ (rng ((zI (zwI s 41 (zI s 36 0) (zi2b (zi2b x1))) 36 0) + 1) ∧ (Q rU (zwI (zwI s 41 (zI s 36 0) (zi2b (zi2b x1))) 36 0 ((zI (zwI s 41 (zI s 36 0) (zi2b (zi2b x1))) 36 0) + 1)))))) :
    wp S 89 0 [(0, rf 36), (1, iv x1)] [] s Q := by
  refine i_aload_n (a := 36) r_89_0 (n_89_0 _) rfl ?_
  refine i_getI (a := 36) r_89_1 (n_89_1 _) rfl (by decide) lf_36 (fun q1 => ?_)
  refine i_bipush r_89_4 (n_89_4 _) rfl ?_
  refine i_icmp (t := 30) r_89_6 (n_89_6 _) rfl (T_ge q1 ⟨by omega, by omega⟩) (fun c2 => ?_) (fun c2 => ?_)
  · replace h := h.1 c2
    exact i_return r_89_30 (n_89_30 _) rfl h
  · replace h := h.2 c2
    refine i_aload_n (a := 36) r_89_9 (n_89_9 _) rfl ?_
    refine i_getR (a := 36) (b := 41) r_89_10 (n_89_10 _) rfl rfl rfl (by omega) lf_36 (by omega) ?_
    refine i_aload_n (a := 36) r_89_13 (n_89_13 _) rfl ?_
    refine i_getI (a := 36) r_89_14 (n_89_14 _) rfl (by decide) lf_36 (fun q3 => ?_)
    refine i_iload_n (x := x1) r_89_17 (n_89_17 _) rfl ?_
    refine i_i2b r_89_18 (n_89_18 _) ?_
    obtain ⟨g4, h⟩ := h
    refine i_bastore (a := 41) (j := zI s 36 0) (x := zi2b x1) r_89_19 (n_89_19 _) lf_41 ⟨by omega, by omega⟩ (by omega) (by omega) ?_
    refine i_aload_n (a := 36) r_89_20 (n_89_20 _) rfl ?_
    refine i_dup r_89_21 (n_89_21 _) rfl ?_
    refine i_getI (a := 36) r_89_22 (n_89_22 _) rfl (by decide) lf_36 (fun q5 => ?_)
    refine i_iconst r_89_25 (n_89_25 _) ?_
    refine i_iadd r_89_26 (n_89_26 _) ?_
    obtain ⟨g6, h⟩ := h
    refine i_putI (a := 36) (x := (zI (zwI s 41 (zI s 36 0) (zi2b (zi2b x1))) 36 0) + 1) r_89_27 (n_89_27 _) rfl (.inl rfl) rfl lf_36 g6 ?_
    exact i_return r_89_30 (n_89_30 _) rfl h
theorem r_91_0 : xfetch 91 0 = some (.iload_n 1, 1) := by decide +kernel
theorem n_91_0 : ∀ l, xpr 91 0 l = l := xpr_no (by decide +kernel)
theorem r_91_1 : xfetch 91 1 = some (.invokestatic 70, 3) := by decide +kernel
theorem n_91_1 : ∀ l, xpr 91 1 l = l := xpr_no (by decide +kernel)
theorem r_91_4 : xfetch 91 4 = some (.aload_n 0, 1) := by decide +kernel
theorem n_91_4 : ∀ l, xpr 91 4 l = l := xpr_no (by decide +kernel)
theorem r_91_5 : xfetch 91 5 = some (.invokevirtual 74, 3) := by decide +kernel
theorem n_91_5 : ∀ l, xpr 91 5 l = l := xpr_no (by decide +kernel)
theorem r_91_8 : xfetch 91 8 = some (.aload_n 0, 1) := by decide +kernel
theorem n_91_8 : ∀ l, xpr 91 8 l = l := xpr_no (by decide +kernel)
theorem r_91_9 : xfetch 91 9 = some (.getfield 29, 3) := by decide +kernel
theorem n_91_9 : ∀ l, xpr 91 9 l = l := xpr_no (by decide +kernel)
theorem r_91_12 : xfetch 91 12 = some (.aload_n 0, 1) := by decide +kernel
theorem n_91_12 : ∀ l, xpr 91 12 l = l := xpr_no (by decide +kernel)
theorem r_91_13 : xfetch 91 13 = some (.getfield 18, 3) := by decide +kernel
theorem n_91_13 : ∀ l, xpr 91 13 l = l := xpr_no (by decide +kernel)
theorem r_91_16 : xfetch 91 16 = some (.aload_n 0, 1) := by decide +kernel
theorem n_91_16 : ∀ l, xpr 91 16 l = l := xpr_no (by decide +kernel)
theorem r_91_17 : xfetch 91 17 = some (.getfield 10, 3) := by decide +kernel
theorem n_91_17 : ∀ l, xpr 91 17 l = l := xpr_no (by decide +kernel)
theorem r_91_20 : xfetch 91 20 = some (.getfield 80, 3) := by decide +kernel
theorem n_91_20 : ∀ l, xpr 91 20 l = l := xpr_no (by decide +kernel)
theorem r_91_23 : xfetch 91 23 = some (.invokevirtual 212, 3) := by decide +kernel
theorem n_91_23 : ∀ l, xpr 91 23 l = l := xpr_no (by decide +kernel)
theorem r_91_26 : xfetch 91 26 = some (.istore_n 2, 1) := by decide +kernel
theorem n_91_26 : ∀ l, xpr 91 26 l = l := xpr_no (by decide +kernel)
theorem r_91_27 : xfetch 91 27 = some (.iload_n 2, 1) := by decide +kernel
theorem n_91_27 : ∀ l, xpr 91 27 l = l := xpr_no (by decide +kernel)
theorem r_91_28 : xfetch 91 28 = some (.iconst (-1), 1) := by decide +kernel
theorem n_91_28 : ∀ l, xpr 91 28 l = l := xpr_no (by decide +kernel)
theorem r_91_29 : xfetch 91 29 = some (.if_icmp .eq 8, 3) := by decide +kernel
theorem n_91_29 : ∀ l, xpr 91 29 l = l := xpr_no (by decide +kernel)
theorem r_91_32 : xfetch 91 32 = some (.bipush (-10), 2) := by decide +kernel
theorem n_91_32 : ∀ l, xpr 91 32 l = l := xpr_no (by decide +kernel)
theorem r_91_34 : xfetch 91 34 = some (.iload_n 2, 1) := by decide +kernel
theorem n_91_34 : ∀ l, xpr 91 34 l = l := xpr_no (by decide +kernel)
theorem r_91_35 : xfetch 91 35 = some (.isub, 1) := by decide +kernel
theorem n_91_35 : ∀ l, xpr 91 35 l = l := xpr_no (by decide +kernel)
theorem r_91_36 : xfetch 91 36 = some (.ireturn, 1) := by decide +kernel
theorem n_91_36 : ∀ l, xpr 91 36 l = l := xpr_no (by decide +kernel)
theorem r_91_37 : xfetch 91 37 = some (.aload_n 0, 1) := by decide +kernel
theorem n_91_37 : ∀ l, xpr 91 37 l = l := xpr_no (by decide +kernel)
theorem r_91_38 : xfetch 91 38 = some (.invokevirtual 77, 3) := by decide +kernel
theorem n_91_38 : ∀ l, xpr 91 38 l = l := xpr_no (by decide +kernel)
theorem r_91_41 : xfetch 91 41 = some (.aload_n 0, 1) := by decide +kernel
theorem n_91_41 : ∀ l, xpr 91 41 l = l := xpr_no (by decide +kernel)
theorem r_91_42 : xfetch 91 42 = some (.getfield 10, 3) := by decide +kernel
theorem n_91_42 : ∀ l, xpr 91 42 l = l := xpr_no (by decide +kernel)
theorem r_91_45 : xfetch 91 45 = some (.getfield 80, 3) := by decide +kernel
theorem n_91_45 : ∀ l, xpr 91 45 l = l := xpr_no (by decide +kernel)
theorem r_91_48 : xfetch 91 48 = some (.istore_n 3, 1) := by decide +kernel
theorem n_91_48 : ∀ l, xpr 91 48 l = l := xpr_no (by decide +kernel)
theorem r_91_49 : xfetch 91 49 = some (.aload_n 0, 1) := by decide +kernel
theorem n_91_49 : ∀ l, xpr 91 49 l = l := xpr_no (by decide +kernel)
theorem r_91_50 : xfetch 91 50 = some (.getfield 10, 3) := by decide +kernel
theorem n_91_50 : ∀ l, xpr 91 50 l = l := xpr_no (by decide +kernel)
theorem r_91_53 : xfetch 91 53 = some (.getfield 83, 3) := by decide +kernel
theorem n_91_53 : ∀ l, xpr 91 53 l = l := xpr_no (by decide +kernel)
theorem r_91_56 : xfetch 91 56 = some (.iload_n 3, 1) := by decide +kernel
theorem n_91_56 : ∀ l, xpr 91 56 l = l := xpr_no (by decide +kernel)
theorem r_91_57 : xfetch 91 57 = some (.aaload, 1) := by decide +kernel
theorem n_91_57 : ∀ l, xpr 91 57 l = l := xpr_no (by decide +kernel)
theorem r_91_58 : xfetch 91 58 = some (.aload_n 0, 1) := by decide +kernel
theorem n_91_58 : ∀ l, xpr 91 58 l = l := xpr_no (by decide +kernel)
theorem r_91_59 : xfetch 91 59 = some (.getfield 29, 3) := by decide +kernel
theorem n_91_59 : ∀ l, xpr 91 59 l = l := xpr_no (by decide +kernel)
theorem r_91_62 : xfetch 91 62 = some (.getfield 216, 3) := by decide +kernel
theorem n_91_62 : ∀ l, xpr 91 62 l = l := xpr_no (by decide +kernel)
theorem r_91_65 : xfetch 91 65 = some (.invokevirtual 220, 3) := by decide +kernel
theorem n_91_65 : ∀ l, xpr 91 65 l = l := xpr_no (by decide +kernel)
theorem r_91_68 : xfetch 91 68 = some (.aload_n 0, 1) := by decide +kernel
theorem n_91_68 : ∀ l, xpr 91 68 l = l := xpr_no (by decide +kernel)
theorem r_91_69 : xfetch 91 69 = some (.getfield 10, 3) := by decide +kernel
theorem n_91_69 : ∀ l, xpr 91 69 l = l := xpr_no (by decide +kernel)
theorem r_91_72 : xfetch 91 72 = some (.getfield 83, 3) := by decide +kernel
theorem n_91_72 : ∀ l, xpr 91 72 l = l := xpr_no (by decide +kernel)
theorem r_91_75 : xfetch 91 75 = some (.iload_n 3, 1) := by decide +kernel
theorem n_91_75 : ∀ l, xpr 91 75 l = l := xpr_no (by decide +kernel)
theorem r_91_76 : xfetch 91 76 = some (.aaload, 1) := by decide +kernel
theorem n_91_76 : ∀ l, xpr 91 76 l = l := xpr_no (by decide +kernel)
theorem r_91_77 : xfetch 91 77 = some (.iload_n 1, 1) := by decide +kernel
theorem n_91_77 : ∀ l, xpr 91 77 l = l := xpr_no (by decide +kernel)
theorem r_91_78 : xfetch 91 78 = some (.putfield 224, 3) := by decide +kernel
theorem n_91_78 : ∀ l, xpr 91 78 l = l := xpr_no (by decide +kernel)
theorem r_91_81 : xfetch 91 81 = some (.aload_n 0, 1) := by decide +kernel
theorem n_91_81 : ∀ l, xpr 91 81 l = l := xpr_no (by decide +kernel)
theorem r_91_82 : xfetch 91 82 = some (.getfield 10, 3) := by decide +kernel
theorem n_91_82 : ∀ l, xpr 91 82 l = l := xpr_no (by decide +kernel)
theorem r_91_85 : xfetch 91 85 = some (.dup, 1) := by decide +kernel
theorem n_91_85 : ∀ l, xpr 91 85 l = l := xpr_no (by decide +kernel)
theorem r_91_86 : xfetch 91 86 = some (.getfield 80, 3) := by decide +kernel
theorem n_91_86 : ∀ l, xpr 91 86 l = l := xpr_no (by decide +kernel)
theorem r_91_89 : xfetch 91 89 = some (.iconst 1, 1) := by decide +kernel
theorem n_91_89 : ∀ l, xpr 91 89 l = l := xpr_no (by decide +kernel)
theorem r_91_90 : xfetch 91 90 = some (.iadd, 1) := by decide +kernel
theorem n_91_90 : ∀ l, xpr 91 90 l = l := xpr_no (by decide +kernel)
theorem r_91_91 : xfetch 91 91 = some (.putfield 80, 3) := by decide +kernel
theorem n_91_91 : ∀ l, xpr 91 91 l = l := xpr_no (by decide +kernel)
theorem r_91_94 : xfetch 91 94 = some (.aload_n 0, 1) := by decide +kernel
theorem n_91_94 : ∀ l, xpr 91 94 l = l := xpr_no (by decide +kernel)
theorem r_91_95 : xfetch 91 95 = some (.iload_n 3, 1) := by decide +kernel
theorem n_91_95 : ∀ l, xpr 91 95 l = l := xpr_no (by decide +kernel)
theorem r_91_96 : xfetch 91 96 = some (.invokevirtual 92, 3) := by decide +kernel
theorem n_91_96 : ∀ l, xpr 91 96 l = l := xpr_no (by decide +kernel)
theorem r_91_99 : xfetch 91 99 = some (.iload_n 3, 1) := by decide +kernel
theorem n_91_99 : ∀ l, xpr 91 99 l = l := xpr_no (by decide +kernel)
theorem r_91_100 : xfetch 91 100 = some (.ireturn, 1) := by decide +kernel
theorem n_91_100 : ∀ l, xpr 91 100 l = l := xpr_no (by decide +kernel)
theorem v_RL_define_0 {S : Option (Nat × (Nat → Int32))} {s : zSt} {Q : Option Value ⊕ Nat → zSt → Prop} {x1 : Int} 
    (h : wp S 36 0 [(0, iv x1)] [] s (fun o1 s1 => zkU (wp S 37 0 [(0, rf 2)] [] s1 (fun o3 s3 => zkU (wp S 92 0 [(0, rf 36), (1, rf 34), (2, iv (zI s3 3 0))] [] s3 (fun o6 s6 => zkI (fun y6 => (y6 = (-1) → wp S 18 0 [(0, rf 2)] [] s6 (fun o9 s9 => zkU ((0 ≤ (zI s9 3 0) ∧ (zI s9 3 0) < 6) ∧ (wp S 20 0 [(0, rf (7 + 4 * (zI s9 3 0))), (1, rf 37)] [] s9 (fun o14 s14 => zkU (rng x1 ∧ (rng ((zI (zwI s14 (7 + 4 * (zI s9 3 0)) 0 x1) 3 0) + 1) ∧ (wp S 39 0 [(0, rf 2), (1, iv (zI s9 3 0))] [] (zwI (zwI s14 (7 + 4 * (zI s9 3 0)) 0 x1) 3 0 ((zI (zwI s14 (7 + 4 * (zI s9 3 0)) 0 x1) 3 0) + 1)) (fun o20 s20 => zkU (Q (rI (zI s9 3 0)) s20) (fun e20 => False) o20)))) (fun e14 => False) o14))) (fun e9 => False) o9)) ∧ (y6 ≠ (-1) → Q (rI ((-10) - y6)) s6)) (fun e6 => False) o6)) (fun e3 => Q (rT e3) s3) o3)) (fun e1 => Q (rT e1) s1) o1)) :
    wp S 91 0 [(0, rf 2), (1, iv x1)] [] s Q := by
  refine i_iload_n (x := x1) r_91_0 (n_91_0 _) rfl ?_
  refine wp_stat (rest := []) (Ls := [(0, iv x1)]) r_91_1 (n_91_1 _) rfl ⟨rfl, by decide, by decide, by decide⟩ rfl rfl ⟨rfl, Nat.le_of_ble_eq_true rfl, Nat.le_of_ble_eq_true rfl⟩ rfl h ?_
  intro o1 s1 h
  rcases h with ⟨rfl, h⟩ | ⟨e1, rfl, h⟩
  · refine .inl ⟨none, rfl, ?_⟩
    refine i_aload_n (a := 2) r_91_4 (n_91_4 _) rfl ?_
    refine wp_virt (b := 2) (rest := []) (Ls := [(0, rf 2)]) r_91_5 (n_91_5 _) rfl ⟨rfl, rfl, by decide, by decide⟩ rfl rfl lf_2 ⟨rfl, Nat.le_of_ble_eq_true rfl, Nat.le_of_ble_eq_true rfl⟩ rfl h ?_
    intro o3 s3 h
    rcases h with ⟨rfl, h⟩ | ⟨e3, rfl, h⟩
    · refine .inl ⟨none, rfl, ?_⟩
      refine i_aload_n (a := 2) r_91_8 (n_91_8 _) rfl ?_
      refine i_getR (a := 2) (b := 36) r_91_9 (n_91_9 _) rfl rfl rfl (by omega) lf_2 (by omega) ?_
      refine i_aload_n (a := 2) r_91_12 (n_91_12 _) rfl ?_
      refine i_getR (a := 2) (b := 34) r_91_13 (n_91_13 _) rfl rfl rfl (by omega) lf_2 (by omega) ?_
      refine i_aload_n (a := 2) r_91_16 (n_91_16 _) rfl ?_
      refine i_getR (a := 2) (b := 3) r_91_17 (n_91_17 _) rfl rfl rfl (by omega) lf_2 (by omega) ?_
      refine i_getI (a := 3) r_91_20 (n_91_20 _) rfl (by decide) lf_3 (fun q5 => ?_)
      refine wp_virt (b := 36) (rest := []) (Ls := [(0, rf 36), (1, rf 34), (2, iv (zI s3 3 0))]) r_91_23 (n_91_23 _) rfl ⟨rfl, rfl, by decide, by decide⟩ rfl rfl lf_36 ⟨rfl, Nat.le_of_ble_eq_true rfl, Nat.le_of_ble_eq_true rfl⟩ rfl h ?_
      intro o6 s6 h
      rcases h with ⟨y6, q7, rfl, h⟩ | ⟨e6, rfl, h⟩
      · refine .inl ⟨some (iv y6), rfl, ?_⟩
        show wp S 91 26 [(0, rf 2), (1, iv x1)] [iv y6] s6 Q
        refine i_istore_n (l' := [(0, rf 2), (1, iv x1), (2, iv y6)]) r_91_26 (n_91_26 _) (by decide) rfl ?_
        refine i_iload_n (x := y6) r_91_27 (n_91_27 _) rfl ?_
        refine i_iconst r_91_28 (n_91_28 _) ?_
        refine i_icmp (t := 37) r_91_29 (n_91_29 _) rfl (T_eq q7 ⟨by omega, by omega⟩) (fun c8 => ?_) (fun c8 => ?_)
        · replace h := h.1 c8
          refine i_aload_n (a := 2) r_91_37 (n_91_37 _) rfl ?_
          refine wp_virt (b := 2) (rest := []) (Ls := [(0, rf 2)]) r_91_38 (n_91_38 _) rfl ⟨rfl, rfl, by decide, by decide⟩ rfl rfl lf_2 ⟨rfl, Nat.le_of_ble_eq_true rfl, Nat.le_of_ble_eq_true rfl⟩ rfl h ?_
          intro o9 s9 h
          rcases h with ⟨rfl, h⟩ | ⟨e9, rfl, h⟩
          · refine .inl ⟨none, rfl, ?_⟩
            refine i_aload_n (a := 2) r_91_41 (n_91_41 _) rfl ?_
            refine i_getR (a := 2) (b := 3) r_91_42 (n_91_42 _) rfl rfl rfl (by omega) lf_2 (by omega) ?_
            refine i_getI (a := 3) r_91_45 (n_91_45 _) rfl (by decide) lf_3 (fun q11 => ?_)
            refine i_istore_n (l' := [(0, rf 2), (1, iv x1), (2, iv y6), (3, iv (zI s9 3 0))]) r_91_48 (n_91_48 _) (by decide) rfl ?_
            refine i_aload_n (a := 2) r_91_49 (n_91_49 _) rfl ?_
            refine i_getR (a := 2) (b := 3) r_91_50 (n_91_50 _) rfl rfl rfl (by omega) lf_2 (by omega) ?_
            refine i_getR (a := 3) (b := 4) r_91_53 (n_91_53 _) rfl rfl rfl (by omega) lf_3 (by omega) ?_
            refine i_iload_n (x := zI s9 3 0) r_91_56 (n_91_56 _) rfl ?_
            obtain ⟨g12, h⟩ := h
            refine i_aaload (c := 1) (a := 4) (j := zI s9 3 0) (b := 7 + 4 * (zI s9 3 0)) r_91_57 (n_91_57 _) lf_4 ⟨by omega, by omega⟩ (by omega) (by omega) rfl (by omega) ?_
            have t13 := e_1 (j := zI s9 3 0) lf_4 (by omega) (by omega)
            rw [show 4 + 3 + 4 * (zI s9 3 0) = 7 + 4 * (zI s9 3 0) by omega] at t13
            refine i_aload_n (a := 2) r_91_58 (n_91_58 _) rfl ?_
            refine i_getR (a := 2) (b := 36) r_91_59 (n_91_59 _) rfl rfl rfl (by omega) lf_2 (by omega) ?_
            refine i_getR (a := 36) (b := 37) r_91_62 (n_91_62 _) rfl rfl rfl (by omega) lf_36 (by omega) ?_
            refine wp_virt (b := 7 + 4 * (zI s9 3 0)) (rest := []) (Ls := [(0, rf (7 + 4 * (zI s9 3 0))), (1, rf 37)]) r_91_65 (n_91_65 _) rfl ⟨rfl, rfl, by decide, by decide⟩ rfl rfl t13 ⟨rfl, Nat.le_of_ble_eq_true rfl, Nat.le_of_ble_eq_true rfl⟩ rfl h ?_
            intro o14 s14 h
            rcases h with ⟨rfl, h⟩ | ⟨e14, rfl, h⟩
            · refine .inl ⟨none, rfl, ?_⟩
              refine i_aload_n (a := 2) r_91_68 (n_91_68 _) rfl ?_
              refine i_getR (a := 2) (b := 3) r_91_69 (n_91_69 _) rfl rfl rfl (by omega) lf_2 (by omega) ?_
              refine i_getR (a := 3) (b := 4) r_91_72 (n_91_72 _) rfl rfl rfl (by omega) lf_3 (by omega) ?_
              refine i_iload_n (x := zI s9 3 0) r_91_75 (n_91_75 _) rfl ?_
              refine i_aaload (c := 1) (a := 4) (j := zI s9 3 0) (b := 7 + 4 * (zI s9 3 0)) r_91_76 (n_91_76 _) lf_4 ⟨by omega, by omega⟩ (by omega) (by omega) rfl (by omega) ?_
              have t16 := e_1 (j := zI s9 3 0) lf_4 (by omega) (by omega)
              rw [show 4 + 3 + 4 * (zI s9 3 0) = 7 + 4 * (zI s9 3 0) by omega] at t16
              refine i_iload_n (x := x1) r_91_77 (n_91_77 _) rfl ?_
              obtain ⟨g17, h⟩ := h
              refine i_putI (a := 7 + 4 * (zI s9 3 0)) (x := x1) r_91_78 (n_91_78 _) rfl (.inl rfl) rfl t16 g17 ?_
              refine i_aload_n (a := 2) r_91_81 (n_91_81 _) rfl ?_
              refine i_getR (a := 2) (b := 3) r_91_82 (n_91_82 _) rfl rfl rfl (by omega) lf_2 (by omega) ?_
              refine i_dup r_91_85 (n_91_85 _) rfl ?_
              refine i_getI (a := 3) r_91_86 (n_91_86 _) rfl (by decide) lf_3 (fun q18 => ?_)
              refine i_iconst r_91_89 (n_91_89 _) ?_
              refine i_iadd r_91_90 (n_91_90 _) ?_
              obtain ⟨g19, h⟩ := h
              refine i_putI (a := 3) (x := (zI (zwI s14 (7 + 4 * (zI s9 3 0)) 0 x1) 3 0) + 1) r_91_91 (n_91_91 _) rfl (.inl rfl) rfl lf_3 g19 ?_
              refine i_aload_n (a := 2) r_91_94 (n_91_94 _) rfl ?_
              refine i_iload_n (x := zI s9 3 0) r_91_95 (n_91_95 _) rfl ?_
              refine wp_virt (b := 2) (rest := []) (Ls := [(0, rf 2), (1, iv (zI s9 3 0))]) r_91_96 (n_91_96 _) rfl ⟨rfl, rfl, by decide, by decide⟩ rfl rfl lf_2 ⟨rfl, Nat.le_of_ble_eq_true rfl, Nat.le_of_ble_eq_true rfl⟩ rfl h ?_
              intro o20 s20 h
              rcases h with ⟨rfl, h⟩ | ⟨e20, rfl, h⟩
              · refine .inl ⟨none, rfl, ?_⟩
                refine i_iload_n (x := zI s9 3 0) r_91_99 (n_91_99 _) rfl ?_
                exact i_ireturn r_91_100 (n_91_100 _) rfl h
              · skip
                exact h.elim
            · skip
              exact h.elim
          · skip
            exact h.elim
        · replace h := h.2 c8
          refine i_bipush r_91_32 (n_91_32 _) rfl ?_
          refine i_iload_n (x := y6) r_91_34 (n_91_34 _) rfl ?_
          refine i_isub r_91_35 (n_91_35 _) ?_
          exact i_ireturn r_91_36 (n_91_36 _) rfl h
      · skip
        exact h.elim
    · skip
      exact .inr ⟨e3, rfl, .inl ⟨rfl, h⟩⟩
  · skip
    exact .inr ⟨e1, rfl, rfl, .inl ⟨rfl, h⟩⟩
theorem r_92_0 : xfetch 92 0 = some (.aload_n 0, 1) := by decide +kernel
theorem n_92_0 : ∀ l, xpr 92 0 l = l := xpr_no (by decide +kernel)
theorem r_92_1 : xfetch 92 1 = some (.iconst 0, 1) := by decide +kernel
theorem n_92_1 : ∀ l, xpr 92 1 l = l := xpr_no (by decide +kernel)
theorem r_92_2 : xfetch 92 2 = some (.putfield 26, 3) := by decide +kernel
theorem n_92_2 : ∀ l, xpr 92 2 l = l := xpr_no (by decide +kernel)
theorem r_92_5 : xfetch 92 5 = some (.aload_n 0, 1) := by decide +kernel
theorem n_92_5 : ∀ l, xpr 92 5 l = l := xpr_no (by decide +kernel)
theorem r_92_6 : xfetch 92 6 = some (.iconst 0, 1) := by decide +kernel
theorem n_92_6 : ∀ l, xpr 92 6 l = l := xpr_no (by decide +kernel)
theorem r_92_7 : xfetch 92 7 = some (.putfield 29, 3) := by decide +kernel
theorem n_92_7 : ∀ l, xpr 92 7 l = l := xpr_no (by decide +kernel)
theorem r_92_10 : xfetch 92 10 = some (.aload_n 0, 1) := by decide +kernel
theorem n_92_10 : ∀ l, xpr 92 10 l = l := xpr_no (by decide +kernel)
theorem r_92_11 : xfetch 92 11 = some (.getfield 12, 3) := by decide +kernel
theorem n_92_11 : ∀ l, xpr 92 11 l = l := xpr_no (by decide +kernel)
theorem r_92_14 : xfetch 92 14 = some (.iconst 1, 1) := by decide +kernel
theorem n_92_14 : ∀ l, xpr 92 14 l = l := xpr_no (by decide +kernel)
theorem r_92_15 : xfetch 92 15 = some (.invokevirtual 32, 3) := by decide +kernel
theorem n_92_15 : ∀ l, xpr 92 15 l = l := xpr_no (by decide +kernel)
theorem r_92_18 : xfetch 92 18 = some (.iconst 0, 1) := by decide +kernel
theorem n_92_18 : ∀ l, xpr 92 18 l = l := xpr_no (by decide +kernel)
theorem r_92_19 : xfetch 92 19 = some (.istore_n 3, 1) := by decide +kernel
theorem n_92_19 : ∀ l, xpr 92 19 l = l := xpr_no (by decide +kernel)
theorem r_92_20 : xfetch 92 20 = some (.iload_n 3, 1) := by decide +kernel
theorem r_92_21 : xfetch 92 21 = some (.bipush 8, 2) := by decide +kernel
theorem n_92_21 : ∀ l, xpr 92 21 l = l := xpr_no (by decide +kernel)
theorem r_92_23 : xfetch 92 23 = some (.if_icmp .gt 36, 3) := by decide +kernel
theorem n_92_23 : ∀ l, xpr 92 23 l = l := xpr_no (by decide +kernel)
theorem r_92_26 : xfetch 92 26 = some (.aload_n 0, 1) := by decide +kernel
theorem n_92_26 : ∀ l, xpr 92 26 l = l := xpr_no (by decide +kernel)
theorem r_92_27 : xfetch 92 27 = some (.aload_n 1, 1) := by decide +kernel
theorem n_92_27 : ∀ l, xpr 92 27 l = l := xpr_no (by decide +kernel)
theorem r_92_28 : xfetch 92 28 = some (.iload_n 2, 1) := by decide +kernel
theorem n_92_28 : ∀ l, xpr 92 28 l = l := xpr_no (by decide +kernel)
theorem r_92_29 : xfetch 92 29 = some (.invokevirtual 36, 3) := by decide +kernel
theorem n_92_29 : ∀ l, xpr 92 29 l = l := xpr_no (by decide +kernel)
theorem r_92_32 : xfetch 92 32 = some (.ifCond .ne 8, 3) := by decide +kernel
theorem n_92_32 : ∀ l, xpr 92 32 l = l := xpr_no (by decide +kernel)
theorem r_92_35 : xfetch 92 35 = some (.aload_n 0, 1) := by decide +kernel
theorem n_92_35 : ∀ l, xpr 92 35 l = l := xpr_no (by decide +kernel)
theorem r_92_36 : xfetch 92 36 = some (.getfield 26, 3) := by decide +kernel
theorem n_92_36 : ∀ l, xpr 92 36 l = l := xpr_no (by decide +kernel)
theorem r_92_39 : xfetch 92 39 = some (.ireturn, 1) := by decide +kernel
theorem n_92_39 : ∀ l, xpr 92 39 l = l := xpr_no (by decide +kernel)
theorem r_92_40 : xfetch 92 40 = some (.aload_n 0, 1) := by decide +kernel
theorem n_92_40 : ∀ l, xpr 92 40 l = l := xpr_no (by decide +kernel)
theorem r_92_41 : xfetch 92 41 = some (.getfield 26, 3) := by decide +kernel
theorem n_92_41 : ∀ l, xpr 92 41 l = l := xpr_no (by decide +kernel)
theorem r_92_44 : xfetch 92 44 = some (.aload_n 0, 1) := by decide +kernel
theorem n_92_44 : ∀ l, xpr 92 44 l = l := xpr_no (by decide +kernel)
theorem r_92_45 : xfetch 92 45 = some (.getfield 22, 3) := by decide +kernel
theorem n_92_45 : ∀ l, xpr 92 45 l = l := xpr_no (by decide +kernel)
theorem r_92_48 : xfetch 92 48 = some (.if_icmp .lt 5, 3) := by decide +kernel
theorem n_92_48 : ∀ l, xpr 92 48 l = l := xpr_no (by decide +kernel)
theorem r_92_51 : xfetch 92 51 = some (.iconst (-1), 1) := by decide +kernel
theorem n_92_51 : ∀ l, xpr 92 51 l = l := xpr_no (by decide +kernel)
theorem r_92_52 : xfetch 92 52 = some (.ireturn, 1) := by decide +kernel
theorem n_92_52 : ∀ l, xpr 92 52 l = l := xpr_no (by decide +kernel)
theorem r_92_53 : xfetch 92 53 = some (.iinc 3 1, 3) := by decide +kernel
theorem n_92_53 : ∀ l, xpr 92 53 l = l := xpr_no (by decide +kernel)
theorem r_92_56 : xfetch 92 56 = some (.goto (-36), 3) := by decide +kernel
theorem n_92_56 : ∀ l, xpr 92 56 l = l := xpr_no (by decide +kernel)
theorem r_92_59 : xfetch 92 59 = some (.aload_n 0, 1) := by decide +kernel
theorem n_92_59 : ∀ l, xpr 92 59 l = l := xpr_no (by decide +kernel)
theorem r_92_60 : xfetch 92 60 = some (.getfield 26, 3) := by decide +kernel
theorem n_92_60 : ∀ l, xpr 92 60 l = l := xpr_no (by decide +kernel)
theorem r_92_63 : xfetch 92 63 = some (.ireturn, 1) := by decide +kernel
theorem n_92_63 : ∀ l, xpr 92 63 l = l := xpr_no (by decide +kernel)
theorem v_Text_readDefinition_0 {S : Option (Nat × (Nat → Int32))} {s : zSt} {Q : Option Value ⊕ Nat → zSt → Prop} {x2 : Int} 
    (h : wp S 38 0 [(0, rf 37), (1, iv 1)] [] (zwI (zwI s 36 3 0) 36 4 0) (fun o1 s1 => zkU (wp S 92 20 [(0, rf 36), (1, rf 34), (2, iv x2), (3, iv 0)] [] s1 Q) (fun e1 => False) o1)) :
    wp S 92 0 [(0, rf 36), (1, rf 34), (2, iv x2)] [] s Q := by
  refine i_aload_n (a := 36) r_92_0 (n_92_0 _) rfl ?_
  refine i_iconst r_92_1 (n_92_1 _) ?_
  refine i_putI (a := 36) (x := 0) r_92_2 (n_92_2 _) rfl (.inl rfl) rfl lf_36 ⟨by omega, by omega⟩ ?_
  refine i_aload_n (a := 36) r_92_5 (n_92_5 _) rfl ?_
  refine i_iconst r_92_6 (n_92_6 _) ?_
  refine i_putI (a := 36) (x := 0) r_92_7 (n_92_7 _) rfl (.inl rfl) rfl lf_36 ⟨by omega, by omega⟩ ?_
  refine i_aload_n (a := 36) r_92_10 (n_92_10 _) rfl ?_
  refine i_getR (a := 36) (b := 37) r_92_11 (n_92_11 _) rfl rfl rfl (by omega) lf_36 (by omega) ?_
  refine i_iconst r_92_14 (n_92_14 _) ?_
  refine wp_virt (b := 37) (rest := []) (Ls := [(0, rf 37), (1, iv 1)]) r_92_15 (n_92_15 _) rfl ⟨rfl, rfl, by decide, by decide⟩ rfl rfl lf_37 ⟨rfl, Nat.le_of_ble_eq_true rfl, Nat.le_of_ble_eq_true rfl⟩ rfl h ?_
  intro o1 s1 h
  rcases h with ⟨rfl, h⟩ | ⟨e1, rfl, h⟩
  · refine .inl ⟨none, rfl, ?_⟩
    refine i_iconst r_92_18 (n_92_18 _) ?_
    refine i_istore_n (l' := [(0, rf 36), (1, rf 34), (2, iv x2), (3, iv 0)]) r_92_19 (n_92_19 _) (by decide) rfl ?_
    exact wp_pr (l' := [(0, rf 36), (1, rf 34), (2, iv x2), (3, iv 0)]) rfl h
  · skip
    exact h.elim
theorem v_Text_readDefinition_20 {S : Option (Nat × (Nat → Int32))} {s : zSt} {Q : Option Value ⊕ Nat → zSt → Prop} {x2 : Int} {x3 : Int} 
    (h : rng x3 ∧ ((8 < x3 → Q (rI (zI s 36 3)) s) ∧ (x3 ≤ 8 → wp S 93 0 [(0, rf 36), (1, rf 34), (2, iv x2)] [] s (fun o4 s4 => zkI (fun y4 => (y4 ≠ 0 → ((zI s4 36 3) < (zI s4 36 0) → wp S 92 20 [(0, rf 36), (1, rf 34), (2, iv x2), (3, iv (x3 + 1))] [] s4 Q) ∧ ((zI s4 36 0) ≤ (zI s4 36 3) → Q (rI (-1)) s4)) ∧ (y4 = 0 → Q (rI (zI s4 36 3)) s4)) (fun e4 => False) o4)))) :
    wp S 92 20 [(0, rf 36), (1, rf 34), (2, iv x2), (3, iv x3)] [] s Q := by
  refine i_iload_n (x := x3) r_92_20 rfl rfl ?_
  refine i_bipush r_92_21 (n_92_21 _) rfl ?_
  obtain ⟨g1, h⟩ := h
  refine i_icmp (t := 59) r_92_23 (n_92_23 _) rfl (T_gt g1 ⟨by omega, by omega⟩) (fun c2 => ?_) (fun c2 => ?_)
  · replace h := h.1 c2
    refine i_aload_n (a := 36) r_92_59 (n_92_59 _) rfl ?_
    refine i_getI (a := 36) r_92_60 (n_92_60 _) rfl (by decide) lf_36 (fun q3 => ?_)
    exact i_ireturn r_92_63 (n_92_63 _) rfl h
  · replace h := h.2 c2
    refine i_aload_n (a := 36) r_92_26 (n_92_26 _) rfl ?_
    refine i_aload_n (a := 34) r_92_27 (n_92_27 _) rfl ?_
    refine i_iload_n (x := x2) r_92_28 (n_92_28 _) rfl ?_
    refine wp_virt (b := 36) (rest := []) (Ls := [(0, rf 36), (1, rf 34), (2, iv x2)]) r_92_29 (n_92_29 _) rfl ⟨rfl, rfl, by decide, by decide⟩ rfl rfl lf_36 ⟨rfl, Nat.le_of_ble_eq_true rfl, Nat.le_of_ble_eq_true rfl⟩ rfl h ?_
    intro o4 s4 h
    rcases h with ⟨y4, q5, rfl, h⟩ | ⟨e4, rfl, h⟩
    · refine .inl ⟨some (iv y4), rfl, ?_⟩
      show wp S 92 32 [(0, rf 36), (1, rf 34), (2, iv x2), (3, iv x3)] [iv y4] s4 Q
      refine i_if (t := 40) r_92_32 (n_92_32 _) rfl (T_ne q5 ⟨by omega, by omega⟩) (fun c6 => ?_) (fun c6 => ?_)
      · replace h := h.1 c6
        refine i_aload_n (a := 36) r_92_40 (n_92_40 _) rfl ?_
        refine i_getI (a := 36) r_92_41 (n_92_41 _) rfl (by decide) lf_36 (fun q7 => ?_)
        refine i_aload_n (a := 36) r_92_44 (n_92_44 _) rfl ?_
        refine i_getI (a := 36) r_92_45 (n_92_45 _) rfl (by decide) lf_36 (fun q8 => ?_)
        refine i_icmp (t := 53) r_92_48 (n_92_48 _) rfl (T_lt q7 q8) (fun c9 => ?_) (fun c9 => ?_)
        · replace h := h.1 c9
          refine i_iinc (x := x3) (l' := [(0, rf 36), (1, rf 34), (2, iv x2), (3, iv (x3 + 1))]) r_92_53 (n_92_53 _) (by decide) rfl rfl ?_
          refine i_goto (t := 20) r_92_56 (n_92_56 _) rfl ?_
          exact wp_pr (l' := [(0, rf 36), (1, rf 34), (2, iv x2), (3, iv (x3 + 1))]) rfl h
        · replace h := h.2 c9
          refine i_iconst r_92_51 (n_92_51 _) ?_
          exact i_ireturn r_92_52 (n_92_52 _) rfl h
      · replace h := h.2 c6
        refine i_aload_n (a := 36) r_92_35 (n_92_35 _) rfl ?_
        refine i_getI (a := 36) r_92_36 (n_92_36 _) rfl (by decide) lf_36 (fun q10 => ?_)
        exact i_ireturn r_92_39 (n_92_39 _) rfl h
    · skip
      exact h.elim
theorem r_93_0 : xfetch 93 0 = some (.aload_n 0, 1) := by decide +kernel
theorem n_93_0 : ∀ l, xpr 93 0 l = l := xpr_no (by decide +kernel)
theorem r_93_1 : xfetch 93 1 = some (.aload_n 0, 1) := by decide +kernel
theorem n_93_1 : ∀ l, xpr 93 1 l = l := xpr_no (by decide +kernel)
theorem r_93_2 : xfetch 93 2 = some (.getfield 26, 3) := by decide +kernel
theorem n_93_2 : ∀ l, xpr 93 2 l = l := xpr_no (by decide +kernel)
theorem r_93_5 : xfetch 93 5 = some (.invokevirtual 40, 3) := by decide +kernel
theorem n_93_5 : ∀ l, xpr 93 5 l = l := xpr_no (by decide +kernel)
theorem r_93_8 : xfetch 93 8 = some (.istore_n 3, 1) := by decide +kernel
theorem n_93_8 : ∀ l, xpr 93 8 l = l := xpr_no (by decide +kernel)
theorem r_93_9 : xfetch 93 9 = some (.iload_n 3, 1) := by decide +kernel
theorem n_93_9 : ∀ l, xpr 93 9 l = l := xpr_no (by decide +kernel)
theorem r_93_10 : xfetch 93 10 = some (.bipush 97, 2) := by decide +kernel
theorem n_93_10 : ∀ l, xpr 93 10 l = l := xpr_no (by decide +kernel)
theorem r_93_12 : xfetch 93 12 = some (.if_icmp .lt 32, 3) := by decide +kernel
theorem n_93_12 : ∀ l, xpr 93 12 l = l := xpr_no (by decide +kernel)
theorem r_93_15 : xfetch 93 15 = some (.iload_n 3, 1) := by decide +kernel
theorem n_93_15 : ∀ l, xpr 93 15 l = l := xpr_no (by decide +kernel)
theorem r_93_16 : xfetch 93 16 = some (.bipush 122, 2) := by decide +kernel
theorem n_93_16 : ∀ l, xpr 93 16 l = l := xpr_no (by decide +kernel)
theorem r_93_18 : xfetch 93 18 = some (.if_icmp .gt 26, 3) := by decide +kernel
theorem n_93_18 : ∀ l, xpr 93 18 l = l := xpr_no (by decide +kernel)
theorem r_93_21 : xfetch 93 21 = some (.aload_n 0, 1) := by decide +kernel
theorem n_93_21 : ∀ l, xpr 93 21 l = l := xpr_no (by decide +kernel)
theorem r_93_22 : xfetch 93 22 = some (.getfield 12, 3) := by decide +kernel
theorem n_93_22 : ∀ l, xpr 93 22 l = l := xpr_no (by decide +kernel)
theorem r_93_25 : xfetch 93 25 = some (.iload_n 3, 1) := by decide +kernel
theorem n_93_25 : ∀ l, xpr 93 25 l = l := xpr_no (by decide +kernel)
theorem r_93_26 : xfetch 93 26 = some (.invokevirtual 44, 3) := by decide +kernel
theorem n_93_26 : ∀ l, xpr 93 26 l = l := xpr_no (by decide +kernel)
theorem r_93_29 : xfetch 93 29 = some (.ifCond .ne 15, 3) := by decide +kernel
theorem n_93_29 : ∀ l, xpr 93 29 l = l := xpr_no (by decide +kernel)
theorem r_93_32 : xfetch 93 32 = some (.aload_n 0, 1) := by decide +kernel
theorem n_93_32 : ∀ l, xpr 93 32 l = l := xpr_no (by decide +kernel)
theorem r_93_33 : xfetch 93 33 = some (.getfield 12, 3) := by decide +kernel
theorem n_93_33 : ∀ l, xpr 93 33 l = l := xpr_no (by decide +kernel)
theorem r_93_36 : xfetch 93 36 = some (.getfield 48, 3) := by decide +kernel
theorem n_93_36 : ∀ l, xpr 93 36 l = l := xpr_no (by decide +kernel)
theorem r_93_39 : xfetch 93 39 = some (.bipush 8, 2) := by decide +kernel
theorem n_93_39 : ∀ l, xpr 93 39 l = l := xpr_no (by decide +kernel)
theorem r_93_41 : xfetch 93 41 = some (.if_icmp .lt 5, 3) := by decide +kernel
theorem n_93_41 : ∀ l, xpr 93 41 l = l := xpr_no (by decide +kernel)
theorem r_93_44 : xfetch 93 44 = some (.iconst 0, 1) := by decide +kernel
theorem n_93_44 : ∀ l, xpr 93 44 l = l := xpr_no (by decide +kernel)
theorem r_93_45 : xfetch 93 45 = some (.ireturn, 1) := by decide +kernel
theorem n_93_45 : ∀ l, xpr 93 45 l = l := xpr_no (by decide +kernel)
theorem r_93_46 : xfetch 93 46 = some (.aload_n 0, 1) := by decide +kernel
theorem n_93_46 : ∀ l, xpr 93 46 l = l := xpr_no (by decide +kernel)
theorem r_93_47 : xfetch 93 47 = some (.dup, 1) := by decide +kernel
theorem n_93_47 : ∀ l, xpr 93 47 l = l := xpr_no (by decide +kernel)
theorem r_93_48 : xfetch 93 48 = some (.getfield 26, 3) := by decide +kernel
theorem n_93_48 : ∀ l, xpr 93 48 l = l := xpr_no (by decide +kernel)
theorem r_93_51 : xfetch 93 51 = some (.iconst 1, 1) := by decide +kernel
theorem n_93_51 : ∀ l, xpr 93 51 l = l := xpr_no (by decide +kernel)
theorem r_93_52 : xfetch 93 52 = some (.iadd, 1) := by decide +kernel
theorem n_93_52 : ∀ l, xpr 93 52 l = l := xpr_no (by decide +kernel)
theorem r_93_53 : xfetch 93 53 = some (.putfield 26, 3) := by decide +kernel
theorem n_93_53 : ∀ l, xpr 93 53 l = l := xpr_no (by decide +kernel)
theorem r_93_56 : xfetch 93 56 = some (.aload_n 0, 1) := by decide +kernel
theorem n_93_56 : ∀ l, xpr 93 56 l = l := xpr_no (by decide +kernel)
theorem r_93_57 : xfetch 93 57 = some (.bipush 58, 2) := by decide +kernel
theorem n_93_57 : ∀ l, xpr 93 57 l = l := xpr_no (by decide +kernel)
theorem r_93_59 : xfetch 93 59 = some (.invokevirtual 51, 3) := by decide +kernel
theorem n_93_59 : ∀ l, xpr 93 59 l = l := xpr_no (by decide +kernel)
theorem r_93_62 : xfetch 93 62 = some (.ifCond .ne 5, 3) := by decide +kernel
theorem n_93_62 : ∀ l, xpr 93 62 l = l := xpr_no (by decide +kernel)
theorem r_93_65 : xfetch 93 65 = some (.iconst 0, 1) := by decide +kernel
theorem n_93_65 : ∀ l, xpr 93 65 l = l := xpr_no (by decide +kernel)
theorem r_93_66 : xfetch 93 66 = some (.ireturn, 1) := by decide +kernel
theorem n_93_66 : ∀ l, xpr 93 66 l = l := xpr_no (by decide +kernel)
theorem r_93_67 : xfetch 93 67 = some (.aload_n 0, 1) := by decide +kernel
theorem n_93_67 : ∀ l, xpr 93 67 l = l := xpr_no (by decide +kernel)
theorem r_93_68 : xfetch 93 68 = some (.aload_n 1, 1) := by decide +kernel
theorem n_93_68 : ∀ l, xpr 93 68 l = l := xpr_no (by decide +kernel)
theorem r_93_69 : xfetch 93 69 = some (.iload_n 2, 1) := by decide +kernel
theorem n_93_69 : ∀ l, xpr 93 69 l = l := xpr_no (by decide +kernel)
theorem r_93_70 : xfetch 93 70 = some (.invokevirtual 55, 3) := by decide +kernel
theorem n_93_70 : ∀ l, xpr 93 70 l = l := xpr_no (by decide +kernel)
theorem r_93_73 : xfetch 93 73 = some (.istore 4, 2) := by decide +kernel
theorem n_93_73 : ∀ l, xpr 93 73 l = l := xpr_no (by decide +kernel)
theorem r_93_75 : xfetch 93 75 = some (.iload 4, 2) := by decide +kernel
theorem n_93_75 : ∀ l, xpr 93 75 l = l := xpr_no (by decide +kernel)
theorem r_93_77 : xfetch 93 77 = some (.iconst (-1), 1) := by decide +kernel
theorem n_93_77 : ∀ l, xpr 93 77 l = l := xpr_no (by decide +kernel)
theorem r_93_78 : xfetch 93 78 = some (.if_icmp .ne 5, 3) := by decide +kernel
theorem n_93_78 : ∀ l, xpr 93 78 l = l := xpr_no (by decide +kernel)
theorem r_93_81 : xfetch 93 81 = some (.iconst 0, 1) := by decide +kernel
theorem n_93_81 : ∀ l, xpr 93 81 l = l := xpr_no (by decide +kernel)
theorem r_93_82 : xfetch 93 82 = some (.ireturn, 1) := by decide +kernel
theorem n_93_82 : ∀ l, xpr 93 82 l = l := xpr_no (by decide +kernel)
theorem r_93_83 : xfetch 93 83 = some (.aload_n 0, 1) := by decide +kernel
theorem n_93_83 : ∀ l, xpr 93 83 l = l := xpr_no (by decide +kernel)
theorem r_93_84 : xfetch 93 84 = some (.iload 4, 2) := by decide +kernel
theorem n_93_84 : ∀ l, xpr 93 84 l = l := xpr_no (by decide +kernel)
theorem r_93_86 : xfetch 93 86 = some (.invokevirtual 59, 3) := by decide +kernel
theorem n_93_86 : ∀ l, xpr 93 86 l = l := xpr_no (by decide +kernel)
theorem r_93_89 : xfetch 93 89 = some (.istore 5, 2) := by decide +kernel
theorem n_93_89 : ∀ l, xpr 93 89 l = l := xpr_no (by decide +kernel)
theorem r_93_91 : xfetch 93 91 = some (.iload 5, 2) := by decide +kernel
theorem n_93_91 : ∀ l, xpr 93 91 l = l := xpr_no (by decide +kernel)
theorem r_93_93 : xfetch 93 93 = some (.iconst (-1), 1) := by decide +kernel
theorem n_93_93 : ∀ l, xpr 93 93 l = l := xpr_no (by decide +kernel)
theorem r_93_94 : xfetch 93 94 = some (.if_icmp .ne 5, 3) := by decide +kernel
theorem n_93_94 : ∀ l, xpr 93 94 l = l := xpr_no (by decide +kernel)
theorem r_93_97 : xfetch 93 97 = some (.iconst 0, 1) := by decide +kernel
theorem n_93_97 : ∀ l, xpr 93 97 l = l := xpr_no (by decide +kernel)
theorem r_93_98 : xfetch 93 98 = some (.ireturn, 1) := by decide +kernel
theorem n_93_98 : ∀ l, xpr 93 98 l = l := xpr_no (by decide +kernel)
theorem r_93_99 : xfetch 93 99 = some (.aload_n 0, 1) := by decide +kernel
theorem n_93_99 : ∀ l, xpr 93 99 l = l := xpr_no (by decide +kernel)
theorem r_93_100 : xfetch 93 100 = some (.dup, 1) := by decide +kernel
theorem n_93_100 : ∀ l, xpr 93 100 l = l := xpr_no (by decide +kernel)
theorem r_93_101 : xfetch 93 101 = some (.getfield 29, 3) := by decide +kernel
theorem n_93_101 : ∀ l, xpr 93 101 l = l := xpr_no (by decide +kernel)
theorem r_93_104 : xfetch 93 104 = some (.iload 5, 2) := by decide +kernel
theorem n_93_104 : ∀ l, xpr 93 104 l = l := xpr_no (by decide +kernel)
theorem r_93_106 : xfetch 93 106 = some (.iload 4, 2) := by decide +kernel
theorem n_93_106 : ∀ l, xpr 93 106 l = l := xpr_no (by decide +kernel)
theorem r_93_108 : xfetch 93 108 = some (.bipush 100, 2) := by decide +kernel
theorem n_93_108 : ∀ l, xpr 93 108 l = l := xpr_no (by decide +kernel)
theorem r_93_110 : xfetch 93 110 = some (.if_icmp .lt 19, 3) := by decide +kernel
theorem n_93_110 : ∀ l, xpr 93 110 l = l := xpr_no (by decide +kernel)
theorem r_93_113 : xfetch 93 113 = some (.aload_n 1, 1) := by decide +kernel
theorem n_93_113 : ∀ l, xpr 93 113 l = l := xpr_no (by decide +kernel)
theorem r_93_114 : xfetch 93 114 = some (.iload 4, 2) := by decide +kernel
theorem n_93_114 : ∀ l, xpr 93 114 l = l := xpr_no (by decide +kernel)
theorem r_93_116 : xfetch 93 116 = some (.bipush 100, 2) := by decide +kernel
theorem n_93_116 : ∀ l, xpr 93 116 l = l := xpr_no (by decide +kernel)
theorem r_93_118 : xfetch 93 118 = some (.isub, 1) := by decide +kernel
theorem n_93_118 : ∀ l, xpr 93 118 l = l := xpr_no (by decide +kernel)
theorem r_93_119 : xfetch 93 119 = some (.aaload, 1) := by decide +kernel
theorem n_93_119 : ∀ l, xpr 93 119 l = l := xpr_no (by decide +kernel)
theorem r_93_120 : xfetch 93 120 = some (.getfield 62, 3) := by decide +kernel
theorem n_93_120 : ∀ l, xpr 93 120 l = l := xpr_no (by decide +kernel)
theorem r_93_123 : xfetch 93 123 = some (.getfield 67, 3) := by decide +kernel
theorem n_93_123 : ∀ l, xpr 93 123 l = l := xpr_no (by decide +kernel)
theorem r_93_126 : xfetch 93 126 = some (.goto 4, 3) := by decide +kernel
theorem n_93_126 : ∀ l, xpr 93 126 l = l := xpr_no (by decide +kernel)
theorem r_93_129 : xfetch 93 129 = some (.iconst 1, 1) := by decide +kernel
theorem n_93_129 : ∀ l, xpr 93 129 l = l := xpr_no (by decide +kernel)
theorem r_93_130 : xfetch 93 130 = some (.imul, 1) := by decide +kernel
theorem n_93_130 : ∀ l, xpr 93 130 l = l := xpr_no (by decide +kernel)
theorem r_93_131 : xfetch 93 131 = some (.iadd, 1) := by decide +kernel
theorem n_93_131 : ∀ l, xpr 93 131 l = l := xpr_no (by decide +kernel)
theorem r_93_132 : xfetch 93 132 = some (.putfield 29, 3) := by decide +kernel
theorem n_93_132 : ∀ l, xpr 93 132 l = l := xpr_no (by decide +kernel)
theorem r_93_135 : xfetch 93 135 = some (.aload_n 0, 1) := by decide +kernel
theorem n_93_135 : ∀ l, xpr 93 135 l = l := xpr_no (by decide +kernel)
theorem r_93_136 : xfetch 93 136 = some (.getfield 12, 3) := by decide +kernel
theorem n_93_136 : ∀ l, xpr 93 136 l = l := xpr_no (by decide +kernel)
theorem r_93_139 : xfetch 93 139 = some (.iload_n 3, 1) := by decide +kernel
theorem n_93_139 : ∀ l, xpr 93 139 l = l := xpr_no (by decide +kernel)
theorem r_93_140 : xfetch 93 140 = some (.iload 4, 2) := by decide +kernel
theorem n_93_140 : ∀ l, xpr 93 140 l = l := xpr_no (by decide +kernel)
theorem r_93_142 : xfetch 93 142 = some (.iload 5, 2) := by decide +kernel
theorem n_93_142 : ∀ l, xpr 93 142 l = l := xpr_no (by decide +kernel)
theorem r_93_144 : xfetch 93 144 = some (.invokevirtual 70, 3) := by decide +kernel
theorem n_93_144 : ∀ l, xpr 93 144 l = l := xpr_no (by decide +kernel)
theorem r_93_147 : xfetch 93 147 = some (.aload_n 0, 1) := by decide +kernel
theorem n_93_147 : ∀ l, xpr 93 147 l = l := xpr_no (by decide +kernel)
theorem r_93_148 : xfetch 93 148 = some (.getfield 29, 3) := by decide +kernel
theorem n_93_148 : ∀ l, xpr 93 148 l = l := xpr_no (by decide +kernel)
theorem r_93_151 : xfetch 93 151 = some (.bipush 40, 2) := by decide +kernel
theorem n_93_151 : ∀ l, xpr 93 151 l = l := xpr_no (by decide +kernel)
theorem r_93_153 : xfetch 93 153 = some (.if_icmp .gt 16, 3) := by decide +kernel
theorem n_93_153 : ∀ l, xpr 93 153 l = l := xpr_no (by decide +kernel)
theorem r_93_156 : xfetch 93 156 = some (.aload_n 0, 1) := by decide +kernel
theorem n_93_156 : ∀ l, xpr 93 156 l = l := xpr_no (by decide +kernel)
theorem r_93_157 : xfetch 93 157 = some (.bipush 59, 2) := by decide +kernel
theorem n_93_157 : ∀ l, xpr 93 157 l = l := xpr_no (by decide +kernel)
theorem r_93_159 : xfetch 93 159 = some (.invokevirtual 51, 3) := by decide +kernel
theorem n_93_159 : ∀ l, xpr 93 159 l = l := xpr_no (by decide +kernel)
theorem r_93_162 : xfetch 93 162 = some (.ifCond .eq 7, 3) := by decide +kernel
theorem n_93_162 : ∀ l, xpr 93 162 l = l := xpr_no (by decide +kernel)
theorem r_93_165 : xfetch 93 165 = some (.iconst 1, 1) := by decide +kernel
theorem n_93_165 : ∀ l, xpr 93 165 l = l := xpr_no (by decide +kernel)
theorem r_93_166 : xfetch 93 166 = some (.goto 4, 3) := by decide +kernel
theorem n_93_166 : ∀ l, xpr 93 166 l = l := xpr_no (by decide +kernel)
theorem r_93_169 : xfetch 93 169 = some (.iconst 0, 1) := by decide +kernel
theorem n_93_169 : ∀ l, xpr 93 169 l = l := xpr_no (by decide +kernel)
theorem r_93_170 : xfetch 93 170 = some (.ireturn, 1) := by decide +kernel
theorem n_93_170 : ∀ l, xpr 93 170 l = l := xpr_no (by decide +kernel)
theorem v_Text_readField_0 {S : Option (Nat × (Nat → Int32))} {s : zSt} {Q : Option Value ⊕ Nat → zSt → Prop} {x2 : Int} 
    (h : wp S 73 0 [(0, rf 36), (1, iv (zI s 36 3))] [] s (fun o2 s2 => zkI (fun y2 => (y2 < 97 → Q (rI 0) s2) ∧ (97 ≤ y2 → (122 < y2 → Q (rI 0) s2) ∧ (y2 ≤ 122 → wp S 55 0 [(0, rf 37), (1, iv y2)] [] s2 (fun o6 s6 => zkI (fun y6 => (y6 ≠ 0 → Q (rI 0) s6) ∧ (y6 = 0 → ((zI s6 37 1) < 8 → rng ((zI s6 36 3) + 1) ∧ (wp S 94 0 [(0, rf 36), (1, iv 58)] [] (zwI s6 36 3 ((zI s6 36 3) + 1)) (fun o13 s13 => zkI (fun y13 => (y13 ≠ 0 → wp S 95 0 [(0, rf 36), (1, rf 34), (2, iv x2)] [] s13 (fun o16 s16 => zkI (fun y16 => (y16 ≠ (-1) → wp S 100 0 [(0, rf 36), (1, iv y16)] [] s16 (fun o19 s19 => zkI (fun y19 => (y19 ≠ (-1) → (y16 < 100 → rng ((zI s19 36 4) + (y19 * 1)) ∧ (wp S 21 0 [(0, rf 37), (1, iv y2), (2, iv y16), (3, iv y19)] [] (zwI s19 36 4 ((zI s19 36 4) + (y19 * 1))) (fun o25 s25 => zkU ((40 < (zI s25 36 4) → Q (rI 0) s25) ∧ ((zI s25 36 4) ≤ 40 → wp S 94 0 [(0, rf 36), (1, iv 59)] [] s25 (fun o29 s29 => zkI (fun y29 => (y29 = 0 → Q (rI 0) s29) ∧ (y29 ≠ 0 → Q (rI 1) s29)) (fun e29 => False) o29))) (fun e25 => False) o25))) ∧ (100 ≤ y16 → (0 ≤ (y16 - 100) ∧ (y16 - 100) < 6) ∧ (rng ((zI s19 36 4) + (y19 * (zI s19 (67 + 11 * (y16 - 100)) 0))) ∧ (wp S 21 0 [(0, rf 37), (1, iv y2), (2, iv y16), (3, iv y19)] [] (zwI s19 36 4 ((zI s19 36 4) + (y19 * (zI s19 (67 + 11 * (y16 - 100)) 0)))) (fun o37 s37 => zkU ((40 < (zI s37 36 4) → Q (rI 0) s37) ∧ ((zI s37 36 4) ≤ 40 → wp S 94 0 [(0, rf 36), (1, iv 59)] [] s37 (fun o41 s41 => zkI (fun y41 => (y41 = 0 → Q (rI 0) s41) ∧ (y41 ≠ 0 → Q (rI 1) s41)) (fun e41 => False) o41))) (fun e37 => False) o37))))) ∧ (y19 = (-1) → Q (rI 0) s19)) (fun e19 => False) o19)) ∧ (y16 = (-1) → Q (rI 0) s16)) (fun e16 => False) o16)) ∧ (y13 = 0 → Q (rI 0) s13)) (fun e13 => False) o13))) ∧ (8 ≤ (zI s6 37 1) → Q (rI 0) s6))) (fun e6 => False) o6)))) (fun e2 => False) o2)) :
    wp S 93 0 [(0, rf 36), (1, rf 34), (2, iv x2)] [] s Q := by
  refine i_aload_n (a := 36) r_93_0 (n_93_0 _) rfl ?_
  refine i_aload_n (a := 36) r_93_1 (n_93_1 _) rfl ?_
  refine i_getI (a := 36) r_93_2 (n_93_2 _) rfl (by decide) lf_36 (fun q1 => ?_)
  refine wp_virt (b := 36) (rest := []) (Ls := [(0, rf 36), (1, iv (zI s 36 3))]) r_93_5 (n_93_5 _) rfl ⟨rfl, rfl, by decide, by decide⟩ rfl rfl lf_36 ⟨rfl, Nat.le_of_ble_eq_true rfl, Nat.le_of_ble_eq_true rfl⟩ rfl h ?_
  intro o2 s2 h
  rcases h with ⟨y2, q3, rfl, h⟩ | ⟨e2, rfl, h⟩
  · refine .inl ⟨some (iv y2), rfl, ?_⟩
    show wp S 93 8 [(0, rf 36), (1, rf 34), (2, iv x2)] [iv y2] s2 Q
    refine i_istore_n (l' := [(0, rf 36), (1, rf 34), (2, iv x2), (3, iv y2)]) r_93_8 (n_93_8 _) (by decide) rfl ?_
    refine i_iload_n (x := y2) r_93_9 (n_93_9 _) rfl ?_
    refine i_bipush r_93_10 (n_93_10 _) rfl ?_
    refine i_icmp (t := 44) r_93_12 (n_93_12 _) rfl (T_lt q3 ⟨by omega, by omega⟩) (fun c4 => ?_) (fun c4 => ?_)
    · replace h := h.1 c4
      refine i_iconst r_93_44 (n_93_44 _) ?_
      exact i_zreturn r_93_45 (n_93_45 _) rfl (by decide) h
    · replace h := h.2 c4
      refine i_iload_n (x := y2) r_93_15 (n_93_15 _) rfl ?_
      refine i_bipush r_93_16 (n_93_16 _) rfl ?_
      refine i_icmp (t := 44) r_93_18 (n_93_18 _) rfl (T_gt q3 ⟨by omega, by omega⟩) (fun c5 => ?_) (fun c5 => ?_)
      · replace h := h.1 c5
        refine i_iconst r_93_44 (n_93_44 _) ?_
        exact i_zreturn r_93_45 (n_93_45 _) rfl (by decide) h
      · replace h := h.2 c5
        refine i_aload_n (a := 36) r_93_21 (n_93_21 _) rfl ?_
        refine i_getR (a := 36) (b := 37) r_93_22 (n_93_22 _) rfl rfl rfl (by omega) lf_36 (by omega) ?_
        refine i_iload_n (x := y2) r_93_25 (n_93_25 _) rfl ?_
        refine wp_virt (b := 37) (rest := []) (Ls := [(0, rf 37), (1, iv y2)]) r_93_26 (n_93_26 _) rfl ⟨rfl, rfl, by decide, by decide⟩ rfl rfl lf_37 ⟨rfl, Nat.le_of_ble_eq_true rfl, Nat.le_of_ble_eq_true rfl⟩ rfl h ?_
        intro o6 s6 h
        rcases h with ⟨y6, q7, rfl, h⟩ | ⟨e6, rfl, h⟩
        · refine .inl ⟨some (iv y6), rfl, ?_⟩
          show wp S 93 29 [(0, rf 36), (1, rf 34), (2, iv x2), (3, iv y2)] [iv y6] s6 Q
          refine i_if (t := 44) r_93_29 (n_93_29 _) rfl (T_ne q7 ⟨by omega, by omega⟩) (fun c8 => ?_) (fun c8 => ?_)
          · replace h := h.1 c8
            refine i_iconst r_93_44 (n_93_44 _) ?_
            exact i_zreturn r_93_45 (n_93_45 _) rfl (by decide) h
          · replace h := h.2 c8
            refine i_aload_n (a := 36) r_93_32 (n_93_32 _) rfl ?_
            refine i_getR (a := 36) (b := 37) r_93_33 (n_93_33 _) rfl rfl rfl (by omega) lf_36 (by omega) ?_
            refine i_getI (a := 37) r_93_36 (n_93_36 _) rfl (by decide) lf_37 (fun q9 => ?_)
            refine i_bipush r_93_39 (n_93_39 _) rfl ?_
            refine i_icmp (t := 46) r_93_41 (n_93_41 _) rfl (T_lt q9 ⟨by omega, by omega⟩) (fun c10 => ?_) (fun c10 => ?_)
            · replace h := h.1 c10
              refine i_aload_n (a := 36) r_93_46 (n_93_46 _) rfl ?_
              refine i_dup r_93_47 (n_93_47 _) rfl ?_
              refine i_getI (a := 36) r_93_48 (n_93_48 _) rfl (by decide) lf_36 (fun q11 => ?_)
              refine i_iconst r_93_51 (n_93_51 _) ?_
              refine i_iadd r_93_52 (n_93_52 _) ?_
              obtain ⟨g12, h⟩ := h
              refine i_putI (a := 36) (x := (zI s6 36 3) + 1) r_93_53 (n_93_53 _) rfl (.inl rfl) rfl lf_36 g12 ?_
              refine i_aload_n (a := 36) r_93_56 (n_93_56 _) rfl ?_
              refine i_bipush r_93_57 (n_93_57 _) rfl ?_
              refine wp_virt (b := 36) (rest := []) (Ls := [(0, rf 36), (1, iv 58)]) r_93_59 (n_93_59 _) rfl ⟨rfl, rfl, by decide, by decide⟩ rfl rfl lf_36 ⟨rfl, Nat.le_of_ble_eq_true rfl, Nat.le_of_ble_eq_true rfl⟩ rfl h ?_
              intro o13 s13 h
              rcases h with ⟨y13, q14, rfl, h⟩ | ⟨e13, rfl, h⟩
              · refine .inl ⟨some (iv y13), rfl, ?_⟩
                show wp S 93 62 [(0, rf 36), (1, rf 34), (2, iv x2), (3, iv y2)] [iv y13] s13 Q
                refine i_if (t := 67) r_93_62 (n_93_62 _) rfl (T_ne q14 ⟨by omega, by omega⟩) (fun c15 => ?_) (fun c15 => ?_)
                · replace h := h.1 c15
                  refine i_aload_n (a := 36) r_93_67 (n_93_67 _) rfl ?_
                  refine i_aload_n (a := 34) r_93_68 (n_93_68 _) rfl ?_
                  refine i_iload_n (x := x2) r_93_69 (n_93_69 _) rfl ?_
                  refine wp_virt (b := 36) (rest := []) (Ls := [(0, rf 36), (1, rf 34), (2, iv x2)]) r_93_70 (n_93_70 _) rfl ⟨rfl, rfl, by decide, by decide⟩ rfl rfl lf_36 ⟨rfl, Nat.le_of_ble_eq_true rfl, Nat.le_of_ble_eq_true rfl⟩ rfl h ?_
                  intro o16 s16 h
                  rcases h with ⟨y16, q17, rfl, h⟩ | ⟨e16, rfl, h⟩
                  · refine .inl ⟨some (iv y16), rfl, ?_⟩
                    show wp S 93 73 [(0, rf 36), (1, rf 34), (2, iv x2), (3, iv y2)] [iv y16] s16 Q
                    refine i_istore (l' := [(0, rf 36), (1, rf 34), (2, iv x2), (3, iv y2), (4, iv y16)]) r_93_73 (n_93_73 _) (by decide) rfl ?_
                    refine i_iload (x := y16) r_93_75 (n_93_75 _) rfl ?_
                    refine i_iconst r_93_77 (n_93_77 _) ?_
                    refine i_icmp (t := 83) r_93_78 (n_93_78 _) rfl (T_ne q17 ⟨by omega, by omega⟩) (fun c18 => ?_) (fun c18 => ?_)
                    · replace h := h.1 c18
                      refine i_aload_n (a := 36) r_93_83 (n_93_83 _) rfl ?_
                      refine i_iload (x := y16) r_93_84 (n_93_84 _) rfl ?_
                      refine wp_virt (b := 36) (rest := []) (Ls := [(0, rf 36), (1, iv y16)]) r_93_86 (n_93_86 _) rfl ⟨rfl, rfl, by decide, by decide⟩ rfl rfl lf_36 ⟨rfl, Nat.le_of_ble_eq_true rfl, Nat.le_of_ble_eq_true rfl⟩ rfl h ?_
                      intro o19 s19 h
                      rcases h with ⟨y19, q20, rfl, h⟩ | ⟨e19, rfl, h⟩
                      · refine .inl ⟨some (iv y19), rfl, ?_⟩
                        show wp S 93 89 [(0, rf 36), (1, rf 34), (2, iv x2), (3, iv y2), (4, iv y16)] [iv y19] s19 Q
                        refine i_istore (l' := [(0, rf 36), (1, rf 34), (2, iv x2), (3, iv y2), (4, iv y16), (5, iv y19)]) r_93_89 (n_93_89 _) (by decide) rfl ?_
                        refine i_iload (x := y19) r_93_91 (n_93_91 _) rfl ?_
                        refine i_iconst r_93_93 (n_93_93 _) ?_
                        refine i_icmp (t := 99) r_93_94 (n_93_94 _) rfl (T_ne q20 ⟨by omega, by omega⟩) (fun c21 => ?_) (fun c21 => ?_)
                        · replace h := h.1 c21
                          refine i_aload_n (a := 36) r_93_99 (n_93_99 _) rfl ?_
                          refine i_dup r_93_100 (n_93_100 _) rfl ?_
                          refine i_getI (a := 36) r_93_101 (n_93_101 _) rfl (by decide) lf_36 (fun q22 => ?_)
                          refine i_iload (x := y19) r_93_104 (n_93_104 _) rfl ?_
                          refine i_iload (x := y16) r_93_106 (n_93_106 _) rfl ?_
                          refine i_bipush r_93_108 (n_93_108 _) rfl ?_
                          refine i_icmp (t := 129) r_93_110 (n_93_110 _) rfl (T_lt q17 ⟨by omega, by omega⟩) (fun c23 => ?_) (fun c23 => ?_)
                          · replace h := h.1 c23
                            refine i_iconst r_93_129 (n_93_129 _) ?_
                            refine i_imul r_93_130 (n_93_130 _) ?_
                            refine i_iadd r_93_131 (n_93_131 _) ?_
                            obtain ⟨g24, h⟩ := h
                            refine i_putI (a := 36) (x := (zI s19 36 4) + (y19 * 1)) r_93_132 (n_93_132 _) rfl (.inl rfl) rfl lf_36 g24 ?_
                            refine i_aload_n (a := 36) r_93_135 (n_93_135 _) rfl ?_
                            refine i_getR (a := 36) (b := 37) r_93_136 (n_93_136 _) rfl rfl rfl (by omega) lf_36 (by omega) ?_
                            refine i_iload_n (x := y2) r_93_139 (n_93_139 _) rfl ?_
                            refine i_iload (x := y16) r_93_140 (n_93_140 _) rfl ?_
                            refine i_iload (x := y19) r_93_142 (n_93_142 _) rfl ?_
                            refine wp_virt (b := 37) (rest := []) (Ls := [(0, rf 37), (1, iv y2), (2, iv y16), (3, iv y19)]) r_93_144 (n_93_144 _) rfl ⟨rfl, rfl, by decide, by decide⟩ rfl rfl lf_37 ⟨rfl, Nat.le_of_ble_eq_true rfl, Nat.le_of_ble_eq_true rfl⟩ rfl h ?_
                            intro o25 s25 h
                            rcases h with ⟨rfl, h⟩ | ⟨e25, rfl, h⟩
                            · refine .inl ⟨none, rfl, ?_⟩
                              refine i_aload_n (a := 36) r_93_147 (n_93_147 _) rfl ?_
                              refine i_getI (a := 36) r_93_148 (n_93_148 _) rfl (by decide) lf_36 (fun q27 => ?_)
                              refine i_bipush r_93_151 (n_93_151 _) rfl ?_
                              refine i_icmp (t := 169) r_93_153 (n_93_153 _) rfl (T_gt q27 ⟨by omega, by omega⟩) (fun c28 => ?_) (fun c28 => ?_)
                              · replace h := h.1 c28
                                refine i_iconst r_93_169 (n_93_169 _) ?_
                                exact i_zreturn r_93_170 (n_93_170 _) rfl (by decide) h
                              · replace h := h.2 c28
                                refine i_aload_n (a := 36) r_93_156 (n_93_156 _) rfl ?_
                                refine i_bipush r_93_157 (n_93_157 _) rfl ?_
                                refine wp_virt (b := 36) (rest := []) (Ls := [(0, rf 36), (1, iv 59)]) r_93_159 (n_93_159 _) rfl ⟨rfl, rfl, by decide, by decide⟩ rfl rfl lf_36 ⟨rfl, Nat.le_of_ble_eq_true rfl, Nat.le_of_ble_eq_true rfl⟩ rfl h ?_
                                intro o29 s29 h
                                rcases h with ⟨y29, q30, rfl, h⟩ | ⟨e29, rfl, h⟩
                                · refine .inl ⟨some (iv y29), rfl, ?_⟩
                                  show wp S 93 162 [(0, rf 36), (1, rf 34), (2, iv x2), (3, iv y2), (4, iv y16), (5, iv y19)] [iv y29] s29 Q
                                  refine i_if (t := 169) r_93_162 (n_93_162 _) rfl (T_eq q30 ⟨by omega, by omega⟩) (fun c31 => ?_) (fun c31 => ?_)
                                  · replace h := h.1 c31
                                    refine i_iconst r_93_169 (n_93_169 _) ?_
                                    exact i_zreturn r_93_170 (n_93_170 _) rfl (by decide) h
                                  · replace h := h.2 c31
                                    refine i_iconst r_93_165 (n_93_165 _) ?_
                                    refine i_goto (t := 170) r_93_166 (n_93_166 _) rfl ?_
                                    exact i_zreturn r_93_170 (n_93_170 _) rfl (by decide) h
                                · skip
                                  exact h.elim
                            · skip
                              exact h.elim
                          · replace h := h.2 c23
                            refine i_aload_n (a := 34) r_93_113 (n_93_113 _) rfl ?_
                            refine i_iload (x := y16) r_93_114 (n_93_114 _) rfl ?_
                            refine i_bipush r_93_116 (n_93_116 _) rfl ?_
                            refine i_isub r_93_118 (n_93_118 _) ?_
                            obtain ⟨g32, h⟩ := h
                            refine i_aaload (c := 4) (a := 34) (j := y16 - 100) (b := 62 + 11 * (y16 - 100)) r_93_119 (n_93_119 _) lf_34 ⟨by omega, by omega⟩ (by omega) (by omega) rfl (by omega) ?_
                            have t33 := e_4 (j := y16 - 100) lf_34 (by omega) (by omega)
                            rw [show 34 + 28 + 11 * (y16 - 100) = 62 + 11 * (y16 - 100) by omega] at t33
                            refine i_getR (a := 62 + 11 * (y16 - 100)) (b := 67 + 11 * (y16 - 100)) r_93_120 (n_93_120 _) rfl rfl rfl (by omega) t33 (by omega) ?_
                            have t34 := (t_4_4 t33)
                            rw [show (62 + 11 * (y16 - 100)) + 5 = 67 + 11 * (y16 - 100) by omega] at t34
                            refine i_getI (a := 67 + 11 * (y16 - 100)) r_93_123 (n_93_123 _) rfl (by decide) t34 (fun q35 => ?_)
                            refine i_goto (t := 130) r_93_126 (n_93_126 _) rfl ?_
                            refine i_imul r_93_130 (n_93_130 _) ?_
                            refine i_iadd r_93_131 (n_93_131 _) ?_
                            obtain ⟨g36, h⟩ := h
                            refine i_putI (a := 36) (x := (zI s19 36 4) + (y19 * (zI s19 (67 + 11 * (y16 - 100)) 0))) r_93_132 (n_93_132 _) rfl (.inl rfl) rfl lf_36 g36 ?_
                            refine i_aload_n (a := 36) r_93_135 (n_93_135 _) rfl ?_
                            refine i_getR (a := 36) (b := 37) r_93_136 (n_93_136 _) rfl rfl rfl (by omega) lf_36 (by omega) ?_
                            refine i_iload_n (x := y2) r_93_139 (n_93_139 _) rfl ?_
                            refine i_iload (x := y16) r_93_140 (n_93_140 _) rfl ?_
                            refine i_iload (x := y19) r_93_142 (n_93_142 _) rfl ?_
                            refine wp_virt (b := 37) (rest := []) (Ls := [(0, rf 37), (1, iv y2), (2, iv y16), (3, iv y19)]) r_93_144 (n_93_144 _) rfl ⟨rfl, rfl, by decide, by decide⟩ rfl rfl lf_37 ⟨rfl, Nat.le_of_ble_eq_true rfl, Nat.le_of_ble_eq_true rfl⟩ rfl h ?_
                            intro o37 s37 h
                            rcases h with ⟨rfl, h⟩ | ⟨e37, rfl, h⟩
                            · refine .inl ⟨none, rfl, ?_⟩
                              refine i_aload_n (a := 36) r_93_147 (n_93_147 _) rfl ?_
                              refine i_getI (a := 36) r_93_148 (n_93_148 _) rfl (by decide) lf_36 (fun q39 => ?_)
                              refine i_bipush r_93_151 (n_93_151 _) rfl ?_
                              refine i_icmp (t := 169) r_93_153 (n_93_153 _) rfl (T_gt q39 ⟨by omega, by omega⟩) (fun c40 => ?_) (fun c40 => ?_)
                              · replace h := h.1 c40
                                refine i_iconst r_93_169 (n_93_169 _) ?_
                                exact i_zreturn r_93_170 (n_93_170 _) rfl (by decide) h
                              · replace h := h.2 c40
                                refine i_aload_n (a := 36) r_93_156 (n_93_156 _) rfl ?_
                                refine i_bipush r_93_157 (n_93_157 _) rfl ?_
                                refine wp_virt (b := 36) (rest := []) (Ls := [(0, rf 36), (1, iv 59)]) r_93_159 (n_93_159 _) rfl ⟨rfl, rfl, by decide, by decide⟩ rfl rfl lf_36 ⟨rfl, Nat.le_of_ble_eq_true rfl, Nat.le_of_ble_eq_true rfl⟩ rfl h ?_
                                intro o41 s41 h
                                rcases h with ⟨y41, q42, rfl, h⟩ | ⟨e41, rfl, h⟩
                                · refine .inl ⟨some (iv y41), rfl, ?_⟩
                                  show wp S 93 162 [(0, rf 36), (1, rf 34), (2, iv x2), (3, iv y2), (4, iv y16), (5, iv y19)] [iv y41] s41 Q
                                  refine i_if (t := 169) r_93_162 (n_93_162 _) rfl (T_eq q42 ⟨by omega, by omega⟩) (fun c43 => ?_) (fun c43 => ?_)
                                  · replace h := h.1 c43
                                    refine i_iconst r_93_169 (n_93_169 _) ?_
                                    exact i_zreturn r_93_170 (n_93_170 _) rfl (by decide) h
                                  · replace h := h.2 c43
                                    refine i_iconst r_93_165 (n_93_165 _) ?_
                                    refine i_goto (t := 170) r_93_166 (n_93_166 _) rfl ?_
                                    exact i_zreturn r_93_170 (n_93_170 _) rfl (by decide) h
                                · skip
                                  exact h.elim
                            · skip
                              exact h.elim
                        · replace h := h.2 c21
                          refine i_iconst r_93_97 (n_93_97 _) ?_
                          exact i_zreturn r_93_98 (n_93_98 _) rfl (by decide) h
                      · skip
                        exact h.elim
                    · replace h := h.2 c18
                      refine i_iconst r_93_81 (n_93_81 _) ?_
                      exact i_zreturn r_93_82 (n_93_82 _) rfl (by decide) h
                  · skip
                    exact h.elim
                · replace h := h.2 c15
                  refine i_iconst r_93_65 (n_93_65 _) ?_
                  exact i_zreturn r_93_66 (n_93_66 _) rfl (by decide) h
              · skip
                exact h.elim
            · replace h := h.2 c10
              refine i_iconst r_93_44 (n_93_44 _) ?_
              exact i_zreturn r_93_45 (n_93_45 _) rfl (by decide) h
        · skip
          exact h.elim
  · skip
    exact h.elim
theorem r_94_0 : xfetch 94 0 = some (.aload_n 0, 1) := by decide +kernel
theorem n_94_0 : ∀ l, xpr 94 0 l = l := xpr_no (by decide +kernel)
theorem r_94_1 : xfetch 94 1 = some (.aload_n 0, 1) := by decide +kernel
theorem n_94_1 : ∀ l, xpr 94 1 l = l := xpr_no (by decide +kernel)
theorem r_94_2 : xfetch 94 2 = some (.getfield 26, 3) := by decide +kernel
theorem n_94_2 : ∀ l, xpr 94 2 l = l := xpr_no (by decide +kernel)
theorem r_94_5 : xfetch 94 5 = some (.invokevirtual 40, 3) := by decide +kernel
theorem n_94_5 : ∀ l, xpr 94 5 l = l := xpr_no (by decide +kernel)
theorem r_94_8 : xfetch 94 8 = some (.iload_n 1, 1) := by decide +kernel
theorem n_94_8 : ∀ l, xpr 94 8 l = l := xpr_no (by decide +kernel)
theorem r_94_9 : xfetch 94 9 = some (.if_icmp .eq 5, 3) := by decide +kernel
theorem n_94_9 : ∀ l, xpr 94 9 l = l := xpr_no (by decide +kernel)
theorem r_94_12 : xfetch 94 12 = some (.iconst 0, 1) := by decide +kernel
theorem n_94_12 : ∀ l, xpr 94 12 l = l := xpr_no (by decide +kernel)
theorem r_94_13 : xfetch 94 13 = some (.ireturn, 1) := by decide +kernel
theorem n_94_13 : ∀ l, xpr 94 13 l = l := xpr_no (by decide +kernel)
theorem r_94_14 : xfetch 94 14 = some (.aload_n 0, 1) := by decide +kernel
theorem n_94_14 : ∀ l, xpr 94 14 l = l := xpr_no (by decide +kernel)
theorem r_94_15 : xfetch 94 15 = some (.dup, 1) := by decide +kernel
theorem n_94_15 : ∀ l, xpr 94 15 l = l := xpr_no (by decide +kernel)
theorem r_94_16 : xfetch 94 16 = some (.getfield 26, 3) := by decide +kernel
theorem n_94_16 : ∀ l, xpr 94 16 l = l := xpr_no (by decide +kernel)
theorem r_94_19 : xfetch 94 19 = some (.iconst 1, 1) := by decide +kernel
theorem n_94_19 : ∀ l, xpr 94 19 l = l := xpr_no (by decide +kernel)
theorem r_94_20 : xfetch 94 20 = some (.iadd, 1) := by decide +kernel
theorem n_94_20 : ∀ l, xpr 94 20 l = l := xpr_no (by decide +kernel)
theorem r_94_21 : xfetch 94 21 = some (.putfield 26, 3) := by decide +kernel
theorem n_94_21 : ∀ l, xpr 94 21 l = l := xpr_no (by decide +kernel)
theorem r_94_24 : xfetch 94 24 = some (.iconst 1, 1) := by decide +kernel
theorem n_94_24 : ∀ l, xpr 94 24 l = l := xpr_no (by decide +kernel)
theorem r_94_25 : xfetch 94 25 = some (.ireturn, 1) := by decide +kernel
theorem n_94_25 : ∀ l, xpr 94 25 l = l := xpr_no (by decide +kernel)
theorem v_Text_takes_0 {S : Option (Nat × (Nat → Int32))} {s : zSt} {Q : Option Value ⊕ Nat → zSt → Prop} {x1 : Int} 
    (h : wp S 73 0 [(0, rf 36), (1, iv (zI s 36 3))] [] s (fun o2 s2 => zkI (fun y2 => rng x1 ∧ ((y2 = x1 → rng ((zI s2 36 3) + 1) ∧ (Q (rI 1) (zwI s2 36 3 ((zI s2 36 3) + 1)))) ∧ (y2 ≠ x1 → Q (rI 0) s2))) (fun e2 => False) o2)) :
    wp S 94 0 [(0, rf 36), (1, iv x1)] [] s Q := by
  refine i_aload_n (a := 36) r_94_0 (n_94_0 _) rfl ?_
  refine i_aload_n (a := 36) r_94_1 (n_94_1 _) rfl ?_
  refine i_getI (a := 36) r_94_2 (n_94_2 _) rfl (by decide) lf_36 (fun q1 => ?_)
  refine wp_virt (b := 36) (rest := []) (Ls := [(0, rf 36), (1, iv (zI s 36 3))]) r_94_5 (n_94_5 _) rfl ⟨rfl, rfl, by decide, by decide⟩ rfl rfl lf_36 ⟨rfl, Nat.le_of_ble_eq_true rfl, Nat.le_of_ble_eq_true rfl⟩ rfl h ?_
  intro o2 s2 h
  rcases h with ⟨y2, q3, rfl, h⟩ | ⟨e2, rfl, h⟩
  · refine .inl ⟨some (iv y2), rfl, ?_⟩
    show wp S 94 8 [(0, rf 36), (1, iv x1)] [iv y2] s2 Q
    refine i_iload_n (x := x1) r_94_8 (n_94_8 _) rfl ?_
    obtain ⟨g4, h⟩ := h
    refine i_icmp (t := 14) r_94_9 (n_94_9 _) rfl (T_eq q3 g4) (fun c5 => ?_) (fun c5 => ?_)
    · replace h := h.1 c5
      refine i_aload_n (a := 36) r_94_14 (n_94_14 _) rfl ?_
      refine i_dup r_94_15 (n_94_15 _) rfl ?_
      refine i_getI (a := 36) r_94_16 (n_94_16 _) rfl (by decide) lf_36 (fun q6 => ?_)
      refine i_iconst r_94_19 (n_94_19 _) ?_
      refine i_iadd r_94_20 (n_94_20 _) ?_
      obtain ⟨g7, h⟩ := h
      refine i_putI (a := 36) (x := (zI s2 36 3) + 1) r_94_21 (n_94_21 _) rfl (.inl rfl) rfl lf_36 g7 ?_
      refine i_iconst r_94_24 (n_94_24 _) ?_
      exact i_zreturn r_94_25 (n_94_25 _) rfl (by decide) h
    · replace h := h.2 c5
      refine i_iconst r_94_12 (n_94_12 _) ?_
      exact i_zreturn r_94_13 (n_94_13 _) rfl (by decide) h
  · skip
    exact h.elim
theorem r_95_0 : xfetch 95 0 = some (.aload_n 0, 1) := by decide +kernel
theorem n_95_0 : ∀ l, xpr 95 0 l = l := xpr_no (by decide +kernel)
theorem r_95_1 : xfetch 95 1 = some (.bipush 98, 2) := by decide +kernel
theorem n_95_1 : ∀ l, xpr 95 1 l = l := xpr_no (by decide +kernel)
theorem r_95_3 : xfetch 95 3 = some (.invokevirtual 51, 3) := by decide +kernel
theorem n_95_3 : ∀ l, xpr 95 3 l = l := xpr_no (by decide +kernel)
theorem r_95_6 : xfetch 95 6 = some (.ifCond .eq 6, 3) := by decide +kernel
theorem n_95_6 : ∀ l, xpr 95 6 l = l := xpr_no (by decide +kernel)
theorem r_95_9 : xfetch 95 9 = some (.bipush 7, 2) := by decide +kernel
theorem n_95_9 : ∀ l, xpr 95 9 l = l := xpr_no (by decide +kernel)
theorem r_95_11 : xfetch 95 11 = some (.ireturn, 1) := by decide +kernel
theorem n_95_11 : ∀ l, xpr 95 11 l = l := xpr_no (by decide +kernel)
theorem r_95_12 : xfetch 95 12 = some (.aload_n 0, 1) := by decide +kernel
theorem n_95_12 : ∀ l, xpr 95 12 l = l := xpr_no (by decide +kernel)
theorem r_95_13 : xfetch 95 13 = some (.bipush 105, 2) := by decide +kernel
theorem n_95_13 : ∀ l, xpr 95 13 l = l := xpr_no (by decide +kernel)
theorem r_95_15 : xfetch 95 15 = some (.invokevirtual 51, 3) := by decide +kernel
theorem n_95_15 : ∀ l, xpr 95 15 l = l := xpr_no (by decide +kernel)
theorem r_95_18 : xfetch 95 18 = some (.ifCond .eq 9, 3) := by decide +kernel
theorem n_95_18 : ∀ l, xpr 95 18 l = l := xpr_no (by decide +kernel)
theorem r_95_21 : xfetch 95 21 = some (.aload_n 0, 1) := by decide +kernel
theorem n_95_21 : ∀ l, xpr 95 21 l = l := xpr_no (by decide +kernel)
theorem r_95_22 : xfetch 95 22 = some (.iconst 1, 1) := by decide +kernel
theorem n_95_22 : ∀ l, xpr 95 22 l = l := xpr_no (by decide +kernel)
theorem r_95_23 : xfetch 95 23 = some (.invokevirtual 74, 3) := by decide +kernel
theorem n_95_23 : ∀ l, xpr 95 23 l = l := xpr_no (by decide +kernel)
theorem r_95_26 : xfetch 95 26 = some (.ireturn, 1) := by decide +kernel
theorem n_95_26 : ∀ l, xpr 95 26 l = l := xpr_no (by decide +kernel)
theorem r_95_27 : xfetch 95 27 = some (.aload_n 0, 1) := by decide +kernel
theorem n_95_27 : ∀ l, xpr 95 27 l = l := xpr_no (by decide +kernel)
theorem r_95_28 : xfetch 95 28 = some (.bipush 117, 2) := by decide +kernel
theorem n_95_28 : ∀ l, xpr 95 28 l = l := xpr_no (by decide +kernel)
theorem r_95_30 : xfetch 95 30 = some (.invokevirtual 51, 3) := by decide +kernel
theorem n_95_30 : ∀ l, xpr 95 30 l = l := xpr_no (by decide +kernel)
theorem r_95_33 : xfetch 95 33 = some (.ifCond .eq 9, 3) := by decide +kernel
theorem n_95_33 : ∀ l, xpr 95 33 l = l := xpr_no (by decide +kernel)
theorem r_95_36 : xfetch 95 36 = some (.aload_n 0, 1) := by decide +kernel
theorem n_95_36 : ∀ l, xpr 95 36 l = l := xpr_no (by decide +kernel)
theorem r_95_37 : xfetch 95 37 = some (.iconst 0, 1) := by decide +kernel
theorem n_95_37 : ∀ l, xpr 95 37 l = l := xpr_no (by decide +kernel)
theorem r_95_38 : xfetch 95 38 = some (.invokevirtual 74, 3) := by decide +kernel
theorem n_95_38 : ∀ l, xpr 95 38 l = l := xpr_no (by decide +kernel)
theorem r_95_41 : xfetch 95 41 = some (.ireturn, 1) := by decide +kernel
theorem n_95_41 : ∀ l, xpr 95 41 l = l := xpr_no (by decide +kernel)
theorem r_95_42 : xfetch 95 42 = some (.aload_n 0, 1) := by decide +kernel
theorem n_95_42 : ∀ l, xpr 95 42 l = l := xpr_no (by decide +kernel)
theorem r_95_43 : xfetch 95 43 = some (.bipush 35, 2) := by decide +kernel
theorem n_95_43 : ∀ l, xpr 95 43 l = l := xpr_no (by decide +kernel)
theorem r_95_45 : xfetch 95 45 = some (.invokevirtual 51, 3) := by decide +kernel
theorem n_95_45 : ∀ l, xpr 95 45 l = l := xpr_no (by decide +kernel)
theorem r_95_48 : xfetch 95 48 = some (.ifCond .eq 10, 3) := by decide +kernel
theorem n_95_48 : ∀ l, xpr 95 48 l = l := xpr_no (by decide +kernel)
theorem r_95_51 : xfetch 95 51 = some (.aload_n 0, 1) := by decide +kernel
theorem n_95_51 : ∀ l, xpr 95 51 l = l := xpr_no (by decide +kernel)
theorem r_95_52 : xfetch 95 52 = some (.aload_n 1, 1) := by decide +kernel
theorem n_95_52 : ∀ l, xpr 95 52 l = l := xpr_no (by decide +kernel)
theorem r_95_53 : xfetch 95 53 = some (.iload_n 2, 1) := by decide +kernel
theorem n_95_53 : ∀ l, xpr 95 53 l = l := xpr_no (by decide +kernel)
theorem r_95_54 : xfetch 95 54 = some (.invokevirtual 78, 3) := by decide +kernel
theorem n_95_54 : ∀ l, xpr 95 54 l = l := xpr_no (by decide +kernel)
theorem r_95_57 : xfetch 95 57 = some (.ireturn, 1) := by decide +kernel
theorem n_95_57 : ∀ l, xpr 95 57 l = l := xpr_no (by decide +kernel)
theorem r_95_58 : xfetch 95 58 = some (.aload_n 0, 1) := by decide +kernel
theorem n_95_58 : ∀ l, xpr 95 58 l = l := xpr_no (by decide +kernel)
theorem r_95_59 : xfetch 95 59 = some (.bipush 37, 2) := by decide +kernel
theorem n_95_59 : ∀ l, xpr 95 59 l = l := xpr_no (by decide +kernel)
theorem r_95_61 : xfetch 95 61 = some (.invokevirtual 51, 3) := by decide +kernel
theorem n_95_61 : ∀ l, xpr 95 61 l = l := xpr_no (by decide +kernel)
theorem r_95_64 : xfetch 95 64 = some (.ifCond .eq 10, 3) := by decide +kernel
theorem n_95_64 : ∀ l, xpr 95 64 l = l := xpr_no (by decide +kernel)
theorem r_95_67 : xfetch 95 67 = some (.aload_n 0, 1) := by decide +kernel
theorem n_95_67 : ∀ l, xpr 95 67 l = l := xpr_no (by decide +kernel)
theorem r_95_68 : xfetch 95 68 = some (.invokevirtual 81, 3) := by decide +kernel
theorem n_95_68 : ∀ l, xpr 95 68 l = l := xpr_no (by decide +kernel)
theorem r_95_71 : xfetch 95 71 = some (.goto 4, 3) := by decide +kernel
theorem n_95_71 : ∀ l, xpr 95 71 l = l := xpr_no (by decide +kernel)
theorem r_95_74 : xfetch 95 74 = some (.iconst (-1), 1) := by decide +kernel
theorem n_95_74 : ∀ l, xpr 95 74 l = l := xpr_no (by decide +kernel)
theorem r_95_75 : xfetch 95 75 = some (.ireturn, 1) := by decide +kernel
theorem n_95_75 : ∀ l, xpr 95 75 l = l := xpr_no (by decide +kernel)
theorem v_Text_readType_0 {S : Option (Nat × (Nat → Int32))} {s : zSt} {Q : Option Value ⊕ Nat → zSt → Prop} {x2 : Int} 
    (h : wp S 94 0 [(0, rf 36), (1, iv 98)] [] s (fun o1 s1 => zkI (fun y1 => (y1 = 0 → wp S 94 0 [(0, rf 36), (1, iv 105)] [] s1 (fun o4 s4 => zkI (fun y4 => (y4 = 0 → wp S 94 0 [(0, rf 36), (1, iv 117)] [] s4 (fun o7 s7 => zkI (fun y7 => (y7 = 0 → wp S 94 0 [(0, rf 36), (1, iv 35)] [] s7 (fun o10 s10 => zkI (fun y10 => (y10 = 0 → wp S 94 0 [(0, rf 36), (1, iv 37)] [] s10 (fun o13 s13 => zkI (fun y13 => (y13 = 0 → Q (rI (-1)) s13) ∧ (y13 ≠ 0 → wp S 99 0 [(0, rf 36)] [] s13 (fun o16 s16 => zkI (fun y16 => Q (rI y16) s16) (fun e16 => False) o16))) (fun e13 => False) o13)) ∧ (y10 ≠ 0 → wp S 97 0 [(0, rf 36), (1, rf 34), (2, iv x2)] [] s10 (fun o18 s18 => zkI (fun y18 => Q (rI y18) s18) (fun e18 => False) o18))) (fun e10 => False) o10)) ∧ (y7 ≠ 0 → wp S 96 0 [(0, rf 36), (1, iv 0)] [] s7 (fun o20 s20 => zkI (fun y20 => Q (rI y20) s20) (fun e20 => False) o20))) (fun e7 => False) o7)) ∧ (y4 ≠ 0 → wp S 96 0 [(0, rf 36), (1, iv 1)] [] s4 (fun o22 s22 => zkI (fun y22 => Q (rI y22) s22) (fun e22 => False) o22))) (fun e4 => False) o4)) ∧ (y1 ≠ 0 → Q (rI 7) s1)) (fun e1 => False) o1)) :
    wp S 95 0 [(0, rf 36), (1, rf 34), (2, iv x2)] [] s Q := by
  refine i_aload_n (a := 36) r_95_0 (n_95_0 _) rfl ?_
  refine i_bipush r_95_1 (n_95_1 _) rfl ?_
  refine wp_virt (b := 36) (rest := []) (Ls := [(0, rf 36), (1, iv 98)]) r_95_3 (n_95_3 _) rfl ⟨rfl, rfl, by decide, by decide⟩ rfl rfl lf_36 ⟨rfl, Nat.le_of_ble_eq_true rfl, Nat.le_of_ble_eq_true rfl⟩ rfl h ?_
  intro o1 s1 h
  rcases h with ⟨y1, q2, rfl, h⟩ | ⟨e1, rfl, h⟩
  · refine .inl ⟨some (iv y1), rfl, ?_⟩
    show wp S 95 6 [(0, rf 36), (1, rf 34), (2, iv x2)] [iv y1] s1 Q
    refine i_if (t := 12) r_95_6 (n_95_6 _) rfl (T_eq q2 ⟨by omega, by omega⟩) (fun c3 => ?_) (fun c3 => ?_)
    · replace h := h.1 c3
      refine i_aload_n (a := 36) r_95_12 (n_95_12 _) rfl ?_
      refine i_bipush r_95_13 (n_95_13 _) rfl ?_
      refine wp_virt (b := 36) (rest := []) (Ls := [(0, rf 36), (1, iv 105)]) r_95_15 (n_95_15 _) rfl ⟨rfl, rfl, by decide, by decide⟩ rfl rfl lf_36 ⟨rfl, Nat.le_of_ble_eq_true rfl, Nat.le_of_ble_eq_true rfl⟩ rfl h ?_
      intro o4 s4 h
      rcases h with ⟨y4, q5, rfl, h⟩ | ⟨e4, rfl, h⟩
      · refine .inl ⟨some (iv y4), rfl, ?_⟩
        show wp S 95 18 [(0, rf 36), (1, rf 34), (2, iv x2)] [iv y4] s4 Q
        refine i_if (t := 27) r_95_18 (n_95_18 _) rfl (T_eq q5 ⟨by omega, by omega⟩) (fun c6 => ?_) (fun c6 => ?_)
        · replace h := h.1 c6
          refine i_aload_n (a := 36) r_95_27 (n_95_27 _) rfl ?_
          refine i_bipush r_95_28 (n_95_28 _) rfl ?_
          refine wp_virt (b := 36) (rest := []) (Ls := [(0, rf 36), (1, iv 117)]) r_95_30 (n_95_30 _) rfl ⟨rfl, rfl, by decide, by decide⟩ rfl rfl lf_36 ⟨rfl, Nat.le_of_ble_eq_true rfl, Nat.le_of_ble_eq_true rfl⟩ rfl h ?_
          intro o7 s7 h
          rcases h with ⟨y7, q8, rfl, h⟩ | ⟨e7, rfl, h⟩
          · refine .inl ⟨some (iv y7), rfl, ?_⟩
            show wp S 95 33 [(0, rf 36), (1, rf 34), (2, iv x2)] [iv y7] s7 Q
            refine i_if (t := 42) r_95_33 (n_95_33 _) rfl (T_eq q8 ⟨by omega, by omega⟩) (fun c9 => ?_) (fun c9 => ?_)
            · replace h := h.1 c9
              refine i_aload_n (a := 36) r_95_42 (n_95_42 _) rfl ?_
              refine i_bipush r_95_43 (n_95_43 _) rfl ?_
              refine wp_virt (b := 36) (rest := []) (Ls := [(0, rf 36), (1, iv 35)]) r_95_45 (n_95_45 _) rfl ⟨rfl, rfl, by decide, by decide⟩ rfl rfl lf_36 ⟨rfl, Nat.le_of_ble_eq_true rfl, Nat.le_of_ble_eq_true rfl⟩ rfl h ?_
              intro o10 s10 h
              rcases h with ⟨y10, q11, rfl, h⟩ | ⟨e10, rfl, h⟩
              · refine .inl ⟨some (iv y10), rfl, ?_⟩
                show wp S 95 48 [(0, rf 36), (1, rf 34), (2, iv x2)] [iv y10] s10 Q
                refine i_if (t := 58) r_95_48 (n_95_48 _) rfl (T_eq q11 ⟨by omega, by omega⟩) (fun c12 => ?_) (fun c12 => ?_)
                · replace h := h.1 c12
                  refine i_aload_n (a := 36) r_95_58 (n_95_58 _) rfl ?_
                  refine i_bipush r_95_59 (n_95_59 _) rfl ?_
                  refine wp_virt (b := 36) (rest := []) (Ls := [(0, rf 36), (1, iv 37)]) r_95_61 (n_95_61 _) rfl ⟨rfl, rfl, by decide, by decide⟩ rfl rfl lf_36 ⟨rfl, Nat.le_of_ble_eq_true rfl, Nat.le_of_ble_eq_true rfl⟩ rfl h ?_
                  intro o13 s13 h
                  rcases h with ⟨y13, q14, rfl, h⟩ | ⟨e13, rfl, h⟩
                  · refine .inl ⟨some (iv y13), rfl, ?_⟩
                    show wp S 95 64 [(0, rf 36), (1, rf 34), (2, iv x2)] [iv y13] s13 Q
                    refine i_if (t := 74) r_95_64 (n_95_64 _) rfl (T_eq q14 ⟨by omega, by omega⟩) (fun c15 => ?_) (fun c15 => ?_)
                    · replace h := h.1 c15
                      refine i_iconst r_95_74 (n_95_74 _) ?_
                      exact i_ireturn r_95_75 (n_95_75 _) rfl h
                    · replace h := h.2 c15
                      refine i_aload_n (a := 36) r_95_67 (n_95_67 _) rfl ?_
                      refine wp_virt (b := 36) (rest := []) (Ls := [(0, rf 36)]) r_95_68 (n_95_68 _) rfl ⟨rfl, rfl, by decide, by decide⟩ rfl rfl lf_36 ⟨rfl, Nat.le_of_ble_eq_true rfl, Nat.le_of_ble_eq_true rfl⟩ rfl h ?_
                      intro o16 s16 h
                      rcases h with ⟨y16, q17, rfl, h⟩ | ⟨e16, rfl, h⟩
                      · refine .inl ⟨some (iv y16), rfl, ?_⟩
                        show wp S 95 71 [(0, rf 36), (1, rf 34), (2, iv x2)] [iv y16] s16 Q
                        refine i_goto (t := 75) r_95_71 (n_95_71 _) rfl ?_
                        exact i_ireturn r_95_75 (n_95_75 _) rfl h
                      · skip
                        exact h.elim
                  · skip
                    exact h.elim
                · replace h := h.2 c12
                  refine i_aload_n (a := 36) r_95_51 (n_95_51 _) rfl ?_
                  refine i_aload_n (a := 34) r_95_52 (n_95_52 _) rfl ?_
                  refine i_iload_n (x := x2) r_95_53 (n_95_53 _) rfl ?_
                  refine wp_virt (b := 36) (rest := []) (Ls := [(0, rf 36), (1, rf 34), (2, iv x2)]) r_95_54 (n_95_54 _) rfl ⟨rfl, rfl, by decide, by decide⟩ rfl rfl lf_36 ⟨rfl, Nat.le_of_ble_eq_true rfl, Nat.le_of_ble_eq_true rfl⟩ rfl h ?_
                  intro o18 s18 h
                  rcases h with ⟨y18, q19, rfl, h⟩ | ⟨e18, rfl, h⟩
                  · refine .inl ⟨some (iv y18), rfl, ?_⟩
                    show wp S 95 57 [(0, rf 36), (1, rf 34), (2, iv x2)] [iv y18] s18 Q
                    exact i_ireturn r_95_57 (n_95_57 _) rfl h
                  · skip
                    exact h.elim
              · skip
                exact h.elim
            · replace h := h.2 c9
              refine i_aload_n (a := 36) r_95_36 (n_95_36 _) rfl ?_
              refine i_iconst r_95_37 (n_95_37 _) ?_
              refine wp_virt (b := 36) (rest := []) (Ls := [(0, rf 36), (1, iv 0)]) r_95_38 (n_95_38 _) rfl ⟨rfl, rfl, by decide, by decide⟩ rfl rfl lf_36 ⟨rfl, Nat.le_of_ble_eq_true rfl, Nat.le_of_ble_eq_true rfl⟩ rfl h ?_
              intro o20 s20 h
              rcases h with ⟨y20, q21, rfl, h⟩ | ⟨e20, rfl, h⟩
              · refine .inl ⟨some (iv y20), rfl, ?_⟩
                show wp S 95 41 [(0, rf 36), (1, rf 34), (2, iv x2)] [iv y20] s20 Q
                exact i_ireturn r_95_41 (n_95_41 _) rfl h
              · skip
                exact h.elim
          · skip
            exact h.elim
        · replace h := h.2 c6
          refine i_aload_n (a := 36) r_95_21 (n_95_21 _) rfl ?_
          refine i_iconst r_95_22 (n_95_22 _) ?_
          refine wp_virt (b := 36) (rest := []) (Ls := [(0, rf 36), (1, iv 1)]) r_95_23 (n_95_23 _) rfl ⟨rfl, rfl, by decide, by decide⟩ rfl rfl lf_36 ⟨rfl, Nat.le_of_ble_eq_true rfl, Nat.le_of_ble_eq_true rfl⟩ rfl h ?_
          intro o22 s22 h
          rcases h with ⟨y22, q23, rfl, h⟩ | ⟨e22, rfl, h⟩
          · refine .inl ⟨some (iv y22), rfl, ?_⟩
            show wp S 95 26 [(0, rf 36), (1, rf 34), (2, iv x2)] [iv y22] s22 Q
            exact i_ireturn r_95_26 (n_95_26 _) rfl h
          · skip
            exact h.elim
      · skip
        exact h.elim
    · replace h := h.2 c3
      refine i_bipush r_95_9 (n_95_9 _) rfl ?_
      exact i_ireturn r_95_11 (n_95_11 _) rfl h
  · skip
    exact h.elim
theorem r_96_0 : xfetch 96 0 = some (.iload_n 1, 1) := by decide +kernel
theorem n_96_0 : ∀ l, xpr 96 0 l = l := xpr_no (by decide +kernel)
theorem r_96_1 : xfetch 96 1 = some (.ifCond .eq 7, 3) := by decide +kernel
theorem n_96_1 : ∀ l, xpr 96 1 l = l := xpr_no (by decide +kernel)
theorem r_96_4 : xfetch 96 4 = some (.iconst 0, 1) := by decide +kernel
theorem n_96_4 : ∀ l, xpr 96 4 l = l := xpr_no (by decide +kernel)
theorem r_96_5 : xfetch 96 5 = some (.goto 4, 3) := by decide +kernel
theorem n_96_5 : ∀ l, xpr 96 5 l = l := xpr_no (by decide +kernel)
theorem r_96_8 : xfetch 96 8 = some (.iconst 1, 1) := by decide +kernel
theorem n_96_8 : ∀ l, xpr 96 8 l = l := xpr_no (by decide +kernel)
theorem r_96_9 : xfetch 96 9 = some (.istore_n 2, 1) := by decide +kernel
theorem r_96_10 : xfetch 96 10 = some (.aload_n 0, 1) := by decide +kernel
theorem n_96_10 : ∀ l, xpr 96 10 l = l := xpr_no (by decide +kernel)
theorem r_96_11 : xfetch 96 11 = some (.bipush 56, 2) := by decide +kernel
theorem n_96_11 : ∀ l, xpr 96 11 l = l := xpr_no (by decide +kernel)
theorem r_96_13 : xfetch 96 13 = some (.invokevirtual 51, 3) := by decide +kernel
theorem n_96_13 : ∀ l, xpr 96 13 l = l := xpr_no (by decide +kernel)
theorem r_96_16 : xfetch 96 16 = some (.ifCond .eq 7, 3) := by decide +kernel
theorem n_96_16 : ∀ l, xpr 96 16 l = l := xpr_no (by decide +kernel)
theorem r_96_19 : xfetch 96 19 = some (.iconst 0, 1) := by decide +kernel
theorem n_96_19 : ∀ l, xpr 96 19 l = l := xpr_no (by decide +kernel)
theorem r_96_20 : xfetch 96 20 = some (.iload_n 2, 1) := by decide +kernel
theorem n_96_20 : ∀ l, xpr 96 20 l = l := xpr_no (by decide +kernel)
theorem r_96_21 : xfetch 96 21 = some (.iadd, 1) := by decide +kernel
theorem n_96_21 : ∀ l, xpr 96 21 l = l := xpr_no (by decide +kernel)
theorem r_96_22 : xfetch 96 22 = some (.ireturn, 1) := by decide +kernel
theorem n_96_22 : ∀ l, xpr 96 22 l = l := xpr_no (by decide +kernel)
theorem r_96_23 : xfetch 96 23 = some (.aload_n 0, 1) := by decide +kernel
theorem n_96_23 : ∀ l, xpr 96 23 l = l := xpr_no (by decide +kernel)
theorem r_96_24 : xfetch 96 24 = some (.bipush 49, 2) := by decide +kernel
theorem n_96_24 : ∀ l, xpr 96 24 l = l := xpr_no (by decide +kernel)
theorem r_96_26 : xfetch 96 26 = some (.invokevirtual 51, 3) := by decide +kernel
theorem n_96_26 : ∀ l, xpr 96 26 l = l := xpr_no (by decide +kernel)
theorem r_96_29 : xfetch 96 29 = some (.ifCond .eq 20, 3) := by decide +kernel
theorem n_96_29 : ∀ l, xpr 96 29 l = l := xpr_no (by decide +kernel)
theorem r_96_32 : xfetch 96 32 = some (.aload_n 0, 1) := by decide +kernel
theorem n_96_32 : ∀ l, xpr 96 32 l = l := xpr_no (by decide +kernel)
theorem r_96_33 : xfetch 96 33 = some (.bipush 54, 2) := by decide +kernel
theorem n_96_33 : ∀ l, xpr 96 33 l = l := xpr_no (by decide +kernel)
theorem r_96_35 : xfetch 96 35 = some (.invokevirtual 51, 3) := by decide +kernel
theorem n_96_35 : ∀ l, xpr 96 35 l = l := xpr_no (by decide +kernel)
theorem r_96_38 : xfetch 96 38 = some (.ifCond .eq 9, 3) := by decide +kernel
theorem n_96_38 : ∀ l, xpr 96 38 l = l := xpr_no (by decide +kernel)
theorem r_96_41 : xfetch 96 41 = some (.iconst 2, 1) := by decide +kernel
theorem n_96_41 : ∀ l, xpr 96 41 l = l := xpr_no (by decide +kernel)
theorem r_96_42 : xfetch 96 42 = some (.iload_n 2, 1) := by decide +kernel
theorem n_96_42 : ∀ l, xpr 96 42 l = l := xpr_no (by decide +kernel)
theorem r_96_43 : xfetch 96 43 = some (.iadd, 1) := by decide +kernel
theorem n_96_43 : ∀ l, xpr 96 43 l = l := xpr_no (by decide +kernel)
theorem r_96_44 : xfetch 96 44 = some (.goto 4, 3) := by decide +kernel
theorem n_96_44 : ∀ l, xpr 96 44 l = l := xpr_no (by decide +kernel)
theorem r_96_47 : xfetch 96 47 = some (.iconst (-1), 1) := by decide +kernel
theorem n_96_47 : ∀ l, xpr 96 47 l = l := xpr_no (by decide +kernel)
theorem r_96_48 : xfetch 96 48 = some (.ireturn, 1) := by decide +kernel
theorem n_96_48 : ∀ l, xpr 96 48 l = l := xpr_no (by decide +kernel)
theorem r_96_49 : xfetch 96 49 = some (.aload_n 0, 1) := by decide +kernel
theorem n_96_49 : ∀ l, xpr 96 49 l = l := xpr_no (by decide +kernel)
theorem r_96_50 : xfetch 96 50 = some (.bipush 51, 2) := by decide +kernel
theorem n_96_50 : ∀ l, xpr 96 50 l = l := xpr_no (by decide +kernel)
theorem r_96_52 : xfetch 96 52 = some (.invokevirtual 51, 3) := by decide +kernel
theorem n_96_52 : ∀ l, xpr 96 52 l = l := xpr_no (by decide +kernel)
theorem r_96_55 : xfetch 96 55 = some (.ifCond .eq 20, 3) := by decide +kernel
theorem n_96_55 : ∀ l, xpr 96 55 l = l := xpr_no (by decide +kernel)
theorem r_96_58 : xfetch 96 58 = some (.aload_n 0, 1) := by decide +kernel
theorem n_96_58 : ∀ l, xpr 96 58 l = l := xpr_no (by decide +kernel)
theorem r_96_59 : xfetch 96 59 = some (.bipush 50, 2) := by decide +kernel
theorem n_96_59 : ∀ l, xpr 96 59 l = l := xpr_no (by decide +kernel)
theorem r_96_61 : xfetch 96 61 = some (.invokevirtual 51, 3) := by decide +kernel
theorem n_96_61 : ∀ l, xpr 96 61 l = l := xpr_no (by decide +kernel)
theorem r_96_64 : xfetch 96 64 = some (.ifCond .eq 9, 3) := by decide +kernel
theorem n_96_64 : ∀ l, xpr 96 64 l = l := xpr_no (by decide +kernel)
theorem r_96_67 : xfetch 96 67 = some (.iconst 4, 1) := by decide +kernel
theorem n_96_67 : ∀ l, xpr 96 67 l = l := xpr_no (by decide +kernel)
theorem r_96_68 : xfetch 96 68 = some (.iload_n 2, 1) := by decide +kernel
theorem n_96_68 : ∀ l, xpr 96 68 l = l := xpr_no (by decide +kernel)
theorem r_96_69 : xfetch 96 69 = some (.iadd, 1) := by decide +kernel
theorem n_96_69 : ∀ l, xpr 96 69 l = l := xpr_no (by decide +kernel)
theorem r_96_70 : xfetch 96 70 = some (.goto 4, 3) := by decide +kernel
theorem n_96_70 : ∀ l, xpr 96 70 l = l := xpr_no (by decide +kernel)
theorem r_96_73 : xfetch 96 73 = some (.iconst (-1), 1) := by decide +kernel
theorem n_96_73 : ∀ l, xpr 96 73 l = l := xpr_no (by decide +kernel)
theorem r_96_74 : xfetch 96 74 = some (.ireturn, 1) := by decide +kernel
theorem n_96_74 : ∀ l, xpr 96 74 l = l := xpr_no (by decide +kernel)
theorem r_96_75 : xfetch 96 75 = some (.iload_n 1, 1) := by decide +kernel
theorem n_96_75 : ∀ l, xpr 96 75 l = l := xpr_no (by decide +kernel)
theorem r_96_76 : xfetch 96 76 = some (.ifCond .eq 26, 3) := by decide +kernel
theorem n_96_76 : ∀ l, xpr 96 76 l = l := xpr_no (by decide +kernel)
theorem r_96_79 : xfetch 96 79 = some (.aload_n 0, 1) := by decide +kernel
theorem n_96_79 : ∀ l, xpr 96 79 l = l := xpr_no (by decide +kernel)
theorem r_96_80 : xfetch 96 80 = some (.bipush 54, 2) := by decide +kernel
theorem n_96_80 : ∀ l, xpr 96 80 l = l := xpr_no (by decide +kernel)
theorem r_96_82 : xfetch 96 82 = some (.invokevirtual 51, 3) := by decide +kernel
theorem n_96_82 : ∀ l, xpr 96 82 l = l := xpr_no (by decide +kernel)
theorem r_96_85 : xfetch 96 85 = some (.ifCond .eq 17, 3) := by decide +kernel
theorem n_96_85 : ∀ l, xpr 96 85 l = l := xpr_no (by decide +kernel)
theorem r_96_88 : xfetch 96 88 = some (.aload_n 0, 1) := by decide +kernel
theorem n_96_88 : ∀ l, xpr 96 88 l = l := xpr_no (by decide +kernel)
theorem r_96_89 : xfetch 96 89 = some (.bipush 52, 2) := by decide +kernel
theorem n_96_89 : ∀ l, xpr 96 89 l = l := xpr_no (by decide +kernel)
theorem r_96_91 : xfetch 96 91 = some (.invokevirtual 51, 3) := by decide +kernel
theorem n_96_91 : ∀ l, xpr 96 91 l = l := xpr_no (by decide +kernel)
theorem r_96_94 : xfetch 96 94 = some (.ifCond .eq 8, 3) := by decide +kernel
theorem n_96_94 : ∀ l, xpr 96 94 l = l := xpr_no (by decide +kernel)
theorem r_96_97 : xfetch 96 97 = some (.bipush 6, 2) := by decide +kernel
theorem n_96_97 : ∀ l, xpr 96 97 l = l := xpr_no (by decide +kernel)
theorem r_96_99 : xfetch 96 99 = some (.goto 4, 3) := by decide +kernel
theorem n_96_99 : ∀ l, xpr 96 99 l = l := xpr_no (by decide +kernel)
theorem r_96_102 : xfetch 96 102 = some (.iconst (-1), 1) := by decide +kernel
theorem n_96_102 : ∀ l, xpr 96 102 l = l := xpr_no (by decide +kernel)
theorem r_96_103 : xfetch 96 103 = some (.ireturn, 1) := by decide +kernel
theorem n_96_103 : ∀ l, xpr 96 103 l = l := xpr_no (by decide +kernel)
theorem v_Text_readSize_0 {S : Option (Nat × (Nat → Int32))} {s : zSt} {Q : Option Value ⊕ Nat → zSt → Prop} {x1 : Int} 
    (h : rng x1 ∧ ((x1 = 0 → wp S 96 9 [(0, rf 36), (1, iv x1)] [iv 1] s Q) ∧ (x1 ≠ 0 → wp S 96 9 [(0, rf 36), (1, iv x1)] [iv 0] s Q))) :
    wp S 96 0 [(0, rf 36), (1, iv x1)] [] s Q := by
  refine i_iload_n (x := x1) r_96_0 (n_96_0 _) rfl ?_
  obtain ⟨g1, h⟩ := h
  refine i_if (t := 8) r_96_1 (n_96_1 _) rfl (T_eq g1 ⟨by omega, by omega⟩) (fun c2 => ?_) (fun c2 => ?_)
  · replace h := h.1 c2
    refine i_iconst r_96_8 (n_96_8 _) ?_
    exact wp_pr (l' := [(0, rf 36), (1, iv x1)]) rfl h
  · replace h := h.2 c2
    refine i_iconst r_96_4 (n_96_4 _) ?_
    refine i_goto (t := 9) r_96_5 (n_96_5 _) rfl ?_
    exact wp_pr (l' := [(0, rf 36), (1, iv x1)]) rfl h
theorem v_Text_readSize_9 {S : Option (Nat × (Nat → Int32))} {s : zSt} {Q : Option Value ⊕ Nat → zSt → Prop} {x1 : Int} {x90 : Int} 
    (h : wp S 94 0 [(0, rf 36), (1, iv 56)] [] s (fun o1 s1 => zkI (fun y1 => (y1 = 0 → wp S 94 0 [(0, rf 36), (1, iv 49)] [] s1 (fun o4 s4 => zkI (fun y4 => (y4 = 0 → wp S 94 0 [(0, rf 36), (1, iv 51)] [] s4 (fun o7 s7 => zkI (fun y7 => (y7 = 0 → rng x1 ∧ ((x1 = 0 → Q (rI (-1)) s7) ∧ (x1 ≠ 0 → wp S 94 0 [(0, rf 36), (1, iv 54)] [] s7 (fun o12 s12 => zkI (fun y12 => (y12 = 0 → Q (rI (-1)) s12) ∧ (y12 ≠ 0 → wp S 94 0 [(0, rf 36), (1, iv 52)] [] s12 (fun o15 s15 => zkI (fun y15 => (y15 = 0 → Q (rI (-1)) s15) ∧ (y15 ≠ 0 → Q (rI 6) s15)) (fun e15 => False) o15))) (fun e12 => False) o12)))) ∧ (y7 ≠ 0 → wp S 94 0 [(0, rf 36), (1, iv 50)] [] s7 (fun o18 s18 => zkI (fun y18 => (y18 = 0 → Q (rI (-1)) s18) ∧ (y18 ≠ 0 → Q (rI (4 + x90)) s18)) (fun e18 => False) o18))) (fun e7 => False) o7)) ∧ (y4 ≠ 0 → wp S 94 0 [(0, rf 36), (1, iv 54)] [] s4 (fun o21 s21 => zkI (fun y21 => (y21 = 0 → Q (rI (-1)) s21) ∧ (y21 ≠ 0 → Q (rI (2 + x90)) s21)) (fun e21 => False) o21))) (fun e4 => False) o4)) ∧ (y1 ≠ 0 → Q (rI (0 + x90)) s1)) (fun e1 => False) o1)) :
    wp S 96 9 [(0, rf 36), (1, iv x1)] [iv x90] s Q := by
  refine i_istore_n (l' := [(0, rf 36), (1, iv x1), (2, iv x90)]) r_96_9 rfl (by decide) rfl ?_
  refine i_aload_n (a := 36) r_96_10 (n_96_10 _) rfl ?_
  refine i_bipush r_96_11 (n_96_11 _) rfl ?_
  refine wp_virt (b := 36) (rest := []) (Ls := [(0, rf 36), (1, iv 56)]) r_96_13 (n_96_13 _) rfl ⟨rfl, rfl, by decide, by decide⟩ rfl rfl lf_36 ⟨rfl, Nat.le_of_ble_eq_true rfl, Nat.le_of_ble_eq_true rfl⟩ rfl h ?_
  intro o1 s1 h
  rcases h with ⟨y1, q2, rfl, h⟩ | ⟨e1, rfl, h⟩
  · refine .inl ⟨some (iv y1), rfl, ?_⟩
    show wp S 96 16 [(0, rf 36), (1, iv x1), (2, iv x90)] [iv y1] s1 Q
    refine i_if (t := 23) r_96_16 (n_96_16 _) rfl (T_eq q2 ⟨by omega, by omega⟩) (fun c3 => ?_) (fun c3 => ?_)
    · replace h := h.1 c3
      refine i_aload_n (a := 36) r_96_23 (n_96_23 _) rfl ?_
      refine i_bipush r_96_24 (n_96_24 _) rfl ?_
      refine wp_virt (b := 36) (rest := []) (Ls := [(0, rf 36), (1, iv 49)]) r_96_26 (n_96_26 _) rfl ⟨rfl, rfl, by decide, by decide⟩ rfl rfl lf_36 ⟨rfl, Nat.le_of_ble_eq_true rfl, Nat.le_of_ble_eq_true rfl⟩ rfl h ?_
      intro o4 s4 h
      rcases h with ⟨y4, q5, rfl, h⟩ | ⟨e4, rfl, h⟩
      · refine .inl ⟨some (iv y4), rfl, ?_⟩
        show wp S 96 29 [(0, rf 36), (1, iv x1), (2, iv x90)] [iv y4] s4 Q
        refine i_if (t := 49) r_96_29 (n_96_29 _) rfl (T_eq q5 ⟨by omega, by omega⟩) (fun c6 => ?_) (fun c6 => ?_)
        · replace h := h.1 c6
          refine i_aload_n (a := 36) r_96_49 (n_96_49 _) rfl ?_
          refine i_bipush r_96_50 (n_96_50 _) rfl ?_
          refine wp_virt (b := 36) (rest := []) (Ls := [(0, rf 36), (1, iv 51)]) r_96_52 (n_96_52 _) rfl ⟨rfl, rfl, by decide, by decide⟩ rfl rfl lf_36 ⟨rfl, Nat.le_of_ble_eq_true rfl, Nat.le_of_ble_eq_true rfl⟩ rfl h ?_
          intro o7 s7 h
          rcases h with ⟨y7, q8, rfl, h⟩ | ⟨e7, rfl, h⟩
          · refine .inl ⟨some (iv y7), rfl, ?_⟩
            show wp S 96 55 [(0, rf 36), (1, iv x1), (2, iv x90)] [iv y7] s7 Q
            refine i_if (t := 75) r_96_55 (n_96_55 _) rfl (T_eq q8 ⟨by omega, by omega⟩) (fun c9 => ?_) (fun c9 => ?_)
            · replace h := h.1 c9
              refine i_iload_n (x := x1) r_96_75 (n_96_75 _) rfl ?_
              obtain ⟨g10, h⟩ := h
              refine i_if (t := 102) r_96_76 (n_96_76 _) rfl (T_eq g10 ⟨by omega, by omega⟩) (fun c11 => ?_) (fun c11 => ?_)
              · replace h := h.1 c11
                refine i_iconst r_96_102 (n_96_102 _) ?_
                exact i_ireturn r_96_103 (n_96_103 _) rfl h
              · replace h := h.2 c11
                refine i_aload_n (a := 36) r_96_79 (n_96_79 _) rfl ?_
                refine i_bipush r_96_80 (n_96_80 _) rfl ?_
                refine wp_virt (b := 36) (rest := []) (Ls := [(0, rf 36), (1, iv 54)]) r_96_82 (n_96_82 _) rfl ⟨rfl, rfl, by decide, by decide⟩ rfl rfl lf_36 ⟨rfl, Nat.le_of_ble_eq_true rfl, Nat.le_of_ble_eq_true rfl⟩ rfl h ?_
                intro o12 s12 h
                rcases h with ⟨y12, q13, rfl, h⟩ | ⟨e12, rfl, h⟩
                · refine .inl ⟨some (iv y12), rfl, ?_⟩
                  show wp S 96 85 [(0, rf 36), (1, iv x1), (2, iv x90)] [iv y12] s12 Q
                  refine i_if (t := 102) r_96_85 (n_96_85 _) rfl (T_eq q13 ⟨by omega, by omega⟩) (fun c14 => ?_) (fun c14 => ?_)
                  · replace h := h.1 c14
                    refine i_iconst r_96_102 (n_96_102 _) ?_
                    exact i_ireturn r_96_103 (n_96_103 _) rfl h
                  · replace h := h.2 c14
                    refine i_aload_n (a := 36) r_96_88 (n_96_88 _) rfl ?_
                    refine i_bipush r_96_89 (n_96_89 _) rfl ?_
                    refine wp_virt (b := 36) (rest := []) (Ls := [(0, rf 36), (1, iv 52)]) r_96_91 (n_96_91 _) rfl ⟨rfl, rfl, by decide, by decide⟩ rfl rfl lf_36 ⟨rfl, Nat.le_of_ble_eq_true rfl, Nat.le_of_ble_eq_true rfl⟩ rfl h ?_
                    intro o15 s15 h
                    rcases h with ⟨y15, q16, rfl, h⟩ | ⟨e15, rfl, h⟩
                    · refine .inl ⟨some (iv y15), rfl, ?_⟩
                      show wp S 96 94 [(0, rf 36), (1, iv x1), (2, iv x90)] [iv y15] s15 Q
                      refine i_if (t := 102) r_96_94 (n_96_94 _) rfl (T_eq q16 ⟨by omega, by omega⟩) (fun c17 => ?_) (fun c17 => ?_)
                      · replace h := h.1 c17
                        refine i_iconst r_96_102 (n_96_102 _) ?_
                        exact i_ireturn r_96_103 (n_96_103 _) rfl h
                      · replace h := h.2 c17
                        refine i_bipush r_96_97 (n_96_97 _) rfl ?_
                        refine i_goto (t := 103) r_96_99 (n_96_99 _) rfl ?_
                        exact i_ireturn r_96_103 (n_96_103 _) rfl h
                    · skip
                      exact h.elim
                · skip
                  exact h.elim
            · replace h := h.2 c9
              refine i_aload_n (a := 36) r_96_58 (n_96_58 _) rfl ?_
              refine i_bipush r_96_59 (n_96_59 _) rfl ?_
              refine wp_virt (b := 36) (rest := []) (Ls := [(0, rf 36), (1, iv 50)]) r_96_61 (n_96_61 _) rfl ⟨rfl, rfl, by decide, by decide⟩ rfl rfl lf_36 ⟨rfl, Nat.le_of_ble_eq_true rfl, Nat.le_of_ble_eq_true rfl⟩ rfl h ?_
              intro o18 s18 h
              rcases h with ⟨y18, q19, rfl, h⟩ | ⟨e18, rfl, h⟩
              · refine .inl ⟨some (iv y18), rfl, ?_⟩
                show wp S 96 64 [(0, rf 36), (1, iv x1), (2, iv x90)] [iv y18] s18 Q
                refine i_if (t := 73) r_96_64 (n_96_64 _) rfl (T_eq q19 ⟨by omega, by omega⟩) (fun c20 => ?_) (fun c20 => ?_)
                · replace h := h.1 c20
                  refine i_iconst r_96_73 (n_96_73 _) ?_
                  exact i_ireturn r_96_74 (n_96_74 _) rfl h
                · replace h := h.2 c20
                  refine i_iconst r_96_67 (n_96_67 _) ?_
                  refine i_iload_n (x := x90) r_96_68 (n_96_68 _) rfl ?_
                  refine i_iadd r_96_69 (n_96_69 _) ?_
                  refine i_goto (t := 74) r_96_70 (n_96_70 _) rfl ?_
                  exact i_ireturn r_96_74 (n_96_74 _) rfl h
              · skip
                exact h.elim
          · skip
            exact h.elim
        · replace h := h.2 c6
          refine i_aload_n (a := 36) r_96_32 (n_96_32 _) rfl ?_
          refine i_bipush r_96_33 (n_96_33 _) rfl ?_
          refine wp_virt (b := 36) (rest := []) (Ls := [(0, rf 36), (1, iv 54)]) r_96_35 (n_96_35 _) rfl ⟨rfl, rfl, by decide, by decide⟩ rfl rfl lf_36 ⟨rfl, Nat.le_of_ble_eq_true rfl, Nat.le_of_ble_eq_true rfl⟩ rfl h ?_
          intro o21 s21 h
          rcases h with ⟨y21, q22, rfl, h⟩ | ⟨e21, rfl, h⟩
          · refine .inl ⟨some (iv y21), rfl, ?_⟩
            show wp S 96 38 [(0, rf 36), (1, iv x1), (2, iv x90)] [iv y21] s21 Q
            refine i_if (t := 47) r_96_38 (n_96_38 _) rfl (T_eq q22 ⟨by omega, by omega⟩) (fun c23 => ?_) (fun c23 => ?_)
            · replace h := h.1 c23
              refine i_iconst r_96_47 (n_96_47 _) ?_
              exact i_ireturn r_96_48 (n_96_48 _) rfl h
            · replace h := h.2 c23
              refine i_iconst r_96_41 (n_96_41 _) ?_
              refine i_iload_n (x := x90) r_96_42 (n_96_42 _) rfl ?_
              refine i_iadd r_96_43 (n_96_43 _) ?_
              refine i_goto (t := 48) r_96_44 (n_96_44 _) rfl ?_
              exact i_ireturn r_96_48 (n_96_48 _) rfl h
          · skip
            exact h.elim
      · skip
        exact h.elim
    · replace h := h.2 c3
      refine i_iconst r_96_19 (n_96_19 _) ?_
      refine i_iload_n (x := x90) r_96_20 (n_96_20 _) rfl ?_
      refine i_iadd r_96_21 (n_96_21 _) ?_
      exact i_ireturn r_96_22 (n_96_22 _) rfl h
  · skip
    exact h.elim
theorem r_97_0 : xfetch 97 0 = some (.aload_n 0, 1) := by decide +kernel
theorem n_97_0 : ∀ l, xpr 97 0 l = l := xpr_no (by decide +kernel)
theorem r_97_1 : xfetch 97 1 = some (.invokevirtual 85, 3) := by decide +kernel
theorem n_97_1 : ∀ l, xpr 97 1 l = l := xpr_no (by decide +kernel)
theorem r_97_4 : xfetch 97 4 = some (.istore_n 3, 1) := by decide +kernel
theorem n_97_4 : ∀ l, xpr 97 4 l = l := xpr_no (by decide +kernel)
theorem r_97_5 : xfetch 97 5 = some (.iload_n 3, 1) := by decide +kernel
theorem n_97_5 : ∀ l, xpr 97 5 l = l := xpr_no (by decide +kernel)
theorem r_97_6 : xfetch 97 6 = some (.iconst (-1), 1) := by decide +kernel
theorem n_97_6 : ∀ l, xpr 97 6 l = l := xpr_no (by decide +kernel)
theorem r_97_7 : xfetch 97 7 = some (.if_icmp .eq 21, 3) := by decide +kernel
theorem n_97_7 : ∀ l, xpr 97 7 l = l := xpr_no (by decide +kernel)
theorem r_97_10 : xfetch 97 10 = some (.iload_n 3, 1) := by decide +kernel
theorem n_97_10 : ∀ l, xpr 97 10 l = l := xpr_no (by decide +kernel)
theorem r_97_11 : xfetch 97 11 = some (.iload_n 2, 1) := by decide +kernel
theorem n_97_11 : ∀ l, xpr 97 11 l = l := xpr_no (by decide +kernel)
theorem r_97_12 : xfetch 97 12 = some (.if_icmp .ge 16, 3) := by decide +kernel
theorem n_97_12 : ∀ l, xpr 97 12 l = l := xpr_no (by decide +kernel)
theorem r_97_15 : xfetch 97 15 = some (.aload_n 1, 1) := by decide +kernel
theorem n_97_15 : ∀ l, xpr 97 15 l = l := xpr_no (by decide +kernel)
theorem r_97_16 : xfetch 97 16 = some (.iload_n 3, 1) := by decide +kernel
theorem n_97_16 : ∀ l, xpr 97 16 l = l := xpr_no (by decide +kernel)
theorem r_97_17 : xfetch 97 17 = some (.aaload, 1) := by decide +kernel
theorem n_97_17 : ∀ l, xpr 97 17 l = l := xpr_no (by decide +kernel)
theorem r_97_18 : xfetch 97 18 = some (.getfield 62, 3) := by decide +kernel
theorem n_97_18 : ∀ l, xpr 97 18 l = l := xpr_no (by decide +kernel)
theorem r_97_21 : xfetch 97 21 = some (.getfield 67, 3) := by decide +kernel
theorem n_97_21 : ∀ l, xpr 97 21 l = l := xpr_no (by decide +kernel)
theorem r_97_24 : xfetch 97 24 = some (.iconst 1, 1) := by decide +kernel
theorem n_97_24 : ∀ l, xpr 97 24 l = l := xpr_no (by decide +kernel)
theorem r_97_25 : xfetch 97 25 = some (.if_icmp .ge 5, 3) := by decide +kernel
theorem n_97_25 : ∀ l, xpr 97 25 l = l := xpr_no (by decide +kernel)
theorem r_97_28 : xfetch 97 28 = some (.iconst (-1), 1) := by decide +kernel
theorem n_97_28 : ∀ l, xpr 97 28 l = l := xpr_no (by decide +kernel)
theorem r_97_29 : xfetch 97 29 = some (.ireturn, 1) := by decide +kernel
theorem n_97_29 : ∀ l, xpr 97 29 l = l := xpr_no (by decide +kernel)
theorem r_97_30 : xfetch 97 30 = some (.aload_n 0, 1) := by decide +kernel
theorem n_97_30 : ∀ l, xpr 97 30 l = l := xpr_no (by decide +kernel)
theorem r_97_31 : xfetch 97 31 = some (.dup, 1) := by decide +kernel
theorem n_97_31 : ∀ l, xpr 97 31 l = l := xpr_no (by decide +kernel)
theorem r_97_32 : xfetch 97 32 = some (.getfield 26, 3) := by decide +kernel
theorem n_97_32 : ∀ l, xpr 97 32 l = l := xpr_no (by decide +kernel)
theorem r_97_35 : xfetch 97 35 = some (.iconst 1, 1) := by decide +kernel
theorem n_97_35 : ∀ l, xpr 97 35 l = l := xpr_no (by decide +kernel)
theorem r_97_36 : xfetch 97 36 = some (.iadd, 1) := by decide +kernel
theorem n_97_36 : ∀ l, xpr 97 36 l = l := xpr_no (by decide +kernel)
theorem r_97_37 : xfetch 97 37 = some (.putfield 26, 3) := by decide +kernel
theorem n_97_37 : ∀ l, xpr 97 37 l = l := xpr_no (by decide +kernel)
theorem r_97_40 : xfetch 97 40 = some (.bipush 100, 2) := by decide +kernel
theorem n_97_40 : ∀ l, xpr 97 40 l = l := xpr_no (by decide +kernel)
theorem r_97_42 : xfetch 97 42 = some (.iload_n 3, 1) := by decide +kernel
theorem n_97_42 : ∀ l, xpr 97 42 l = l := xpr_no (by decide +kernel)
theorem r_97_43 : xfetch 97 43 = some (.iadd, 1) := by decide +kernel
theorem n_97_43 : ∀ l, xpr 97 43 l = l := xpr_no (by decide +kernel)
theorem r_97_44 : xfetch 97 44 = some (.ireturn, 1) := by decide +kernel
theorem n_97_44 : ∀ l, xpr 97 44 l = l := xpr_no (by decide +kernel)
theorem v_Text_readRecord_0 {S : Option (Nat × (Nat → Int32))} {s : zSt} {Q : Option Value ⊕ Nat → zSt → Prop} {x2 : Int} 
    (h : wp S 98 0 [(0, rf 36)] [] s (fun o1 s1 => zkI (fun y1 => (y1 = (-1) → Q (rI (-1)) s1) ∧ (y1 ≠ (-1) → rng x2 ∧ ((x2 ≤ y1 → Q (rI (-1)) s1) ∧ (y1 < x2 → (0 ≤ y1 ∧ y1 < 6) ∧ ((1 ≤ (zI s1 (67 + 11 * y1) 0) → rng ((zI s1 36 3) + 1) ∧ (Q (rI (100 + y1)) (zwI s1 36 3 ((zI s1 36 3) + 1)))) ∧ ((zI s1 (67 + 11 * y1) 0) < 1 → Q (rI (-1)) s1)))))) (fun e1 => False) o1)) :
    wp S 97 0 [(0, rf 36), (1, rf 34), (2, iv x2)] [] s Q := by
  refine i_aload_n (a := 36) r_97_0 (n_97_0 _) rfl ?_
  refine wp_virt (b := 36) (rest := []) (Ls := [(0, rf 36)]) r_97_1 (n_97_1 _) rfl ⟨rfl, rfl, by decide, by decide⟩ rfl rfl lf_36 ⟨rfl, Nat.le_of_ble_eq_true rfl, Nat.le_of_ble_eq_true rfl⟩ rfl h ?_
  intro o1 s1 h
  rcases h with ⟨y1, q2, rfl, h⟩ | ⟨e1, rfl, h⟩
  · refine .inl ⟨some (iv y1), rfl, ?_⟩
    show wp S 97 4 [(0, rf 36), (1, rf 34), (2, iv x2)] [iv y1] s1 Q
    refine i_istore_n (l' := [(0, rf 36), (1, rf 34), (2, iv x2), (3, iv y1)]) r_97_4 (n_97_4 _) (by decide) rfl ?_
    refine i_iload_n (x := y1) r_97_5 (n_97_5 _) rfl ?_
    refine i_iconst r_97_6 (n_97_6 _) ?_
    refine i_icmp (t := 28) r_97_7 (n_97_7 _) rfl (T_eq q2 ⟨by omega, by omega⟩) (fun c3 => ?_) (fun c3 => ?_)
    · replace h := h.1 c3
      refine i_iconst r_97_28 (n_97_28 _) ?_
      exact i_ireturn r_97_29 (n_97_29 _) rfl h
    · replace h := h.2 c3
      refine i_iload_n (x := y1) r_97_10 (n_97_10 _) rfl ?_
      refine i_iload_n (x := x2) r_97_11 (n_97_11 _) rfl ?_
      obtain ⟨g4, h⟩ := h
      refine i_icmp (t := 28) r_97_12 (n_97_12 _) rfl (T_ge q2 g4) (fun c5 => ?_) (fun c5 => ?_)
      · replace h := h.1 c5
        refine i_iconst r_97_28 (n_97_28 _) ?_
        exact i_ireturn r_97_29 (n_97_29 _) rfl h
      · replace h := h.2 c5
        refine i_aload_n (a := 34) r_97_15 (n_97_15 _) rfl ?_
        refine i_iload_n (x := y1) r_97_16 (n_97_16 _) rfl ?_
        obtain ⟨g6, h⟩ := h
        refine i_aaload (c := 4) (a := 34) (j := y1) (b := 62 + 11 * y1) r_97_17 (n_97_17 _) lf_34 ⟨by omega, by omega⟩ (by omega) (by omega) rfl (by omega) ?_
        have t7 := e_4 (j := y1) lf_34 (by omega) (by omega)
        rw [show 34 + 28 + 11 * y1 = 62 + 11 * y1 by omega] at t7
        refine i_getR (a := 62 + 11 * y1) (b := 67 + 11 * y1) r_97_18 (n_97_18 _) rfl rfl rfl (by omega) t7 (by omega) ?_
        have t8 := (t_4_4 t7)
        rw [show (62 + 11 * y1) + 5 = 67 + 11 * y1 by omega] at t8
        refine i_getI (a := 67 + 11 * y1) r_97_21 (n_97_21 _) rfl (by decide) t8 (fun q9 => ?_)
        refine i_iconst r_97_24 (n_97_24 _) ?_
        refine i_icmp (t := 30) r_97_25 (n_97_25 _) rfl (T_ge q9 ⟨by omega, by omega⟩) (fun c10 => ?_) (fun c10 => ?_)
        · replace h := h.1 c10
          refine i_aload_n (a := 36) r_97_30 (n_97_30 _) rfl ?_
          refine i_dup r_97_31 (n_97_31 _) rfl ?_
          refine i_getI (a := 36) r_97_32 (n_97_32 _) rfl (by decide) lf_36 (fun q11 => ?_)
          refine i_iconst r_97_35 (n_97_35 _) ?_
          refine i_iadd r_97_36 (n_97_36 _) ?_
          obtain ⟨g12, h⟩ := h
          refine i_putI (a := 36) (x := (zI s1 36 3) + 1) r_97_37 (n_97_37 _) rfl (.inl rfl) rfl lf_36 g12 ?_
          refine i_bipush r_97_40 (n_97_40 _) rfl ?_
          refine i_iload_n (x := y1) r_97_42 (n_97_42 _) rfl ?_
          refine i_iadd r_97_43 (n_97_43 _) ?_
          exact i_ireturn r_97_44 (n_97_44 _) rfl h
        · replace h := h.2 c10
          refine i_iconst r_97_28 (n_97_28 _) ?_
          exact i_ireturn r_97_29 (n_97_29 _) rfl h
  · skip
    exact h.elim
theorem r_98_0 : xfetch 98 0 = some (.aload_n 0, 1) := by decide +kernel
theorem n_98_0 : ∀ l, xpr 98 0 l = l := xpr_no (by decide +kernel)
theorem r_98_1 : xfetch 98 1 = some (.aload_n 0, 1) := by decide +kernel
theorem n_98_1 : ∀ l, xpr 98 1 l = l := xpr_no (by decide +kernel)
theorem r_98_2 : xfetch 98 2 = some (.getfield 26, 3) := by decide +kernel
theorem n_98_2 : ∀ l, xpr 98 2 l = l := xpr_no (by decide +kernel)
theorem r_98_5 : xfetch 98 5 = some (.invokevirtual 40, 3) := by decide +kernel
theorem n_98_5 : ∀ l, xpr 98 5 l = l := xpr_no (by decide +kernel)
theorem r_98_8 : xfetch 98 8 = some (.istore_n 1, 1) := by decide +kernel
theorem n_98_8 : ∀ l, xpr 98 8 l = l := xpr_no (by decide +kernel)
theorem r_98_9 : xfetch 98 9 = some (.iload_n 1, 1) := by decide +kernel
theorem n_98_9 : ∀ l, xpr 98 9 l = l := xpr_no (by decide +kernel)
theorem r_98_10 : xfetch 98 10 = some (.bipush 48, 2) := by decide +kernel
theorem n_98_10 : ∀ l, xpr 98 10 l = l := xpr_no (by decide +kernel)
theorem r_98_12 : xfetch 98 12 = some (.if_icmp .lt 16, 3) := by decide +kernel
theorem n_98_12 : ∀ l, xpr 98 12 l = l := xpr_no (by decide +kernel)
theorem r_98_15 : xfetch 98 15 = some (.iload_n 1, 1) := by decide +kernel
theorem n_98_15 : ∀ l, xpr 98 15 l = l := xpr_no (by decide +kernel)
theorem r_98_16 : xfetch 98 16 = some (.bipush 57, 2) := by decide +kernel
theorem n_98_16 : ∀ l, xpr 98 16 l = l := xpr_no (by decide +kernel)
theorem r_98_18 : xfetch 98 18 = some (.if_icmp .gt 10, 3) := by decide +kernel
theorem n_98_18 : ∀ l, xpr 98 18 l = l := xpr_no (by decide +kernel)
theorem r_98_21 : xfetch 98 21 = some (.iload_n 1, 1) := by decide +kernel
theorem n_98_21 : ∀ l, xpr 98 21 l = l := xpr_no (by decide +kernel)
theorem r_98_22 : xfetch 98 22 = some (.bipush 48, 2) := by decide +kernel
theorem n_98_22 : ∀ l, xpr 98 22 l = l := xpr_no (by decide +kernel)
theorem r_98_24 : xfetch 98 24 = some (.isub, 1) := by decide +kernel
theorem n_98_24 : ∀ l, xpr 98 24 l = l := xpr_no (by decide +kernel)
theorem r_98_25 : xfetch 98 25 = some (.goto 4, 3) := by decide +kernel
theorem n_98_25 : ∀ l, xpr 98 25 l = l := xpr_no (by decide +kernel)
theorem r_98_28 : xfetch 98 28 = some (.iconst (-1), 1) := by decide +kernel
theorem n_98_28 : ∀ l, xpr 98 28 l = l := xpr_no (by decide +kernel)
theorem r_98_29 : xfetch 98 29 = some (.ireturn, 1) := by decide +kernel
theorem n_98_29 : ∀ l, xpr 98 29 l = l := xpr_no (by decide +kernel)
theorem v_Text_digit_0 {S : Option (Nat × (Nat → Int32))} {s : zSt} {Q : Option Value ⊕ Nat → zSt → Prop}  
    (h : wp S 73 0 [(0, rf 36), (1, iv (zI s 36 3))] [] s (fun o2 s2 => zkI (fun y2 => (y2 < 48 → Q (rI (-1)) s2) ∧ (48 ≤ y2 → (57 < y2 → Q (rI (-1)) s2) ∧ (y2 ≤ 57 → Q (rI (y2 - 48)) s2))) (fun e2 => False) o2)) :
    wp S 98 0 [(0, rf 36)] [] s Q := by
  refine i_aload_n (a := 36) r_98_0 (n_98_0 _) rfl ?_
  refine i_aload_n (a := 36) r_98_1 (n_98_1 _) rfl ?_
  refine i_getI (a := 36) r_98_2 (n_98_2 _) rfl (by decide) lf_36 (fun q1 => ?_)
  refine wp_virt (b := 36) (rest := []) (Ls := [(0, rf 36), (1, iv (zI s 36 3))]) r_98_5 (n_98_5 _) rfl ⟨rfl, rfl, by decide, by decide⟩ rfl rfl lf_36 ⟨rfl, Nat.le_of_ble_eq_true rfl, Nat.le_of_ble_eq_true rfl⟩ rfl h ?_
  intro o2 s2 h
  rcases h with ⟨y2, q3, rfl, h⟩ | ⟨e2, rfl, h⟩
  · refine .inl ⟨some (iv y2), rfl, ?_⟩
    show wp S 98 8 [(0, rf 36)] [iv y2] s2 Q
    refine i_istore_n (l' := [(0, rf 36), (1, iv y2)]) r_98_8 (n_98_8 _) (by decide) rfl ?_
    refine i_iload_n (x := y2) r_98_9 (n_98_9 _) rfl ?_
    refine i_bipush r_98_10 (n_98_10 _) rfl ?_
    refine i_icmp (t := 28) r_98_12 (n_98_12 _) rfl (T_lt q3 ⟨by omega, by omega⟩) (fun c4 => ?_) (fun c4 => ?_)
    · replace h := h.1 c4
      refine i_iconst r_98_28 (n_98_28 _) ?_
      exact i_ireturn r_98_29 (n_98_29 _) rfl h
    · replace h := h.2 c4
      refine i_iload_n (x := y2) r_98_15 (n_98_15 _) rfl ?_
      refine i_bipush r_98_16 (n_98_16 _) rfl ?_
      refine i_icmp (t := 28) r_98_18 (n_98_18 _) rfl (T_gt q3 ⟨by omega, by omega⟩) (fun c5 => ?_) (fun c5 => ?_)
      · replace h := h.1 c5
        refine i_iconst r_98_28 (n_98_28 _) ?_
        exact i_ireturn r_98_29 (n_98_29 _) rfl h
      · replace h := h.2 c5
        refine i_iload_n (x := y2) r_98_21 (n_98_21 _) rfl ?_
        refine i_bipush r_98_22 (n_98_22 _) rfl ?_
        refine i_isub r_98_24 (n_98_24 _) ?_
        refine i_goto (t := 29) r_98_25 (n_98_25 _) rfl ?_
        exact i_ireturn r_98_29 (n_98_29 _) rfl h
  · skip
    exact h.elim
theorem r_99_0 : xfetch 99 0 = some (.aload_n 0, 1) := by decide +kernel
theorem n_99_0 : ∀ l, xpr 99 0 l = l := xpr_no (by decide +kernel)
theorem r_99_1 : xfetch 99 1 = some (.invokevirtual 85, 3) := by decide +kernel
theorem n_99_1 : ∀ l, xpr 99 1 l = l := xpr_no (by decide +kernel)
theorem r_99_4 : xfetch 99 4 = some (.istore_n 1, 1) := by decide +kernel
theorem n_99_4 : ∀ l, xpr 99 4 l = l := xpr_no (by decide +kernel)
theorem r_99_5 : xfetch 99 5 = some (.iload_n 1, 1) := by decide +kernel
theorem n_99_5 : ∀ l, xpr 99 5 l = l := xpr_no (by decide +kernel)
theorem r_99_6 : xfetch 99 6 = some (.iconst 1, 1) := by decide +kernel
theorem n_99_6 : ∀ l, xpr 99 6 l = l := xpr_no (by decide +kernel)
theorem r_99_7 : xfetch 99 7 = some (.if_icmp .ge 5, 3) := by decide +kernel
theorem n_99_7 : ∀ l, xpr 99 7 l = l := xpr_no (by decide +kernel)
theorem r_99_10 : xfetch 99 10 = some (.iconst (-1), 1) := by decide +kernel
theorem n_99_10 : ∀ l, xpr 99 10 l = l := xpr_no (by decide +kernel)
theorem r_99_11 : xfetch 99 11 = some (.ireturn, 1) := by decide +kernel
theorem n_99_11 : ∀ l, xpr 99 11 l = l := xpr_no (by decide +kernel)
theorem r_99_12 : xfetch 99 12 = some (.aload_n 0, 1) := by decide +kernel
theorem n_99_12 : ∀ l, xpr 99 12 l = l := xpr_no (by decide +kernel)
theorem r_99_13 : xfetch 99 13 = some (.dup, 1) := by decide +kernel
theorem n_99_13 : ∀ l, xpr 99 13 l = l := xpr_no (by decide +kernel)
theorem r_99_14 : xfetch 99 14 = some (.getfield 26, 3) := by decide +kernel
theorem n_99_14 : ∀ l, xpr 99 14 l = l := xpr_no (by decide +kernel)
theorem r_99_17 : xfetch 99 17 = some (.iconst 1, 1) := by decide +kernel
theorem n_99_17 : ∀ l, xpr 99 17 l = l := xpr_no (by decide +kernel)
theorem r_99_18 : xfetch 99 18 = some (.iadd, 1) := by decide +kernel
theorem n_99_18 : ∀ l, xpr 99 18 l = l := xpr_no (by decide +kernel)
theorem r_99_19 : xfetch 99 19 = some (.putfield 26, 3) := by decide +kernel
theorem n_99_19 : ∀ l, xpr 99 19 l = l := xpr_no (by decide +kernel)
theorem r_99_22 : xfetch 99 22 = some (.aload_n 0, 1) := by decide +kernel
theorem n_99_22 : ∀ l, xpr 99 22 l = l := xpr_no (by decide +kernel)
theorem r_99_23 : xfetch 99 23 = some (.invokevirtual 85, 3) := by decide +kernel
theorem n_99_23 : ∀ l, xpr 99 23 l = l := xpr_no (by decide +kernel)
theorem r_99_26 : xfetch 99 26 = some (.istore_n 2, 1) := by decide +kernel
theorem n_99_26 : ∀ l, xpr 99 26 l = l := xpr_no (by decide +kernel)
theorem r_99_27 : xfetch 99 27 = some (.iload_n 2, 1) := by decide +kernel
theorem n_99_27 : ∀ l, xpr 99 27 l = l := xpr_no (by decide +kernel)
theorem r_99_28 : xfetch 99 28 = some (.iconst (-1), 1) := by decide +kernel
theorem n_99_28 : ∀ l, xpr 99 28 l = l := xpr_no (by decide +kernel)
theorem r_99_29 : xfetch 99 29 = some (.if_icmp .eq 31, 3) := by decide +kernel
theorem n_99_29 : ∀ l, xpr 99 29 l = l := xpr_no (by decide +kernel)
theorem r_99_32 : xfetch 99 32 = some (.iload_n 1, 1) := by decide +kernel
theorem n_99_32 : ∀ l, xpr 99 32 l = l := xpr_no (by decide +kernel)
theorem r_99_33 : xfetch 99 33 = some (.bipush 10, 2) := by decide +kernel
theorem n_99_33 : ∀ l, xpr 99 33 l = l := xpr_no (by decide +kernel)
theorem r_99_35 : xfetch 99 35 = some (.imul, 1) := by decide +kernel
theorem n_99_35 : ∀ l, xpr 99 35 l = l := xpr_no (by decide +kernel)
theorem r_99_36 : xfetch 99 36 = some (.iload_n 2, 1) := by decide +kernel
theorem n_99_36 : ∀ l, xpr 99 36 l = l := xpr_no (by decide +kernel)
theorem r_99_37 : xfetch 99 37 = some (.iadd, 1) := by decide +kernel
theorem n_99_37 : ∀ l, xpr 99 37 l = l := xpr_no (by decide +kernel)
theorem r_99_38 : xfetch 99 38 = some (.bipush 16, 2) := by decide +kernel
theorem n_99_38 : ∀ l, xpr 99 38 l = l := xpr_no (by decide +kernel)
theorem r_99_40 : xfetch 99 40 = some (.if_icmp .gt 20, 3) := by decide +kernel
theorem n_99_40 : ∀ l, xpr 99 40 l = l := xpr_no (by decide +kernel)
theorem r_99_43 : xfetch 99 43 = some (.aload_n 0, 1) := by decide +kernel
theorem n_99_43 : ∀ l, xpr 99 43 l = l := xpr_no (by decide +kernel)
theorem r_99_44 : xfetch 99 44 = some (.dup, 1) := by decide +kernel
theorem n_99_44 : ∀ l, xpr 99 44 l = l := xpr_no (by decide +kernel)
theorem r_99_45 : xfetch 99 45 = some (.getfield 26, 3) := by decide +kernel
theorem n_99_45 : ∀ l, xpr 99 45 l = l := xpr_no (by decide +kernel)
theorem r_99_48 : xfetch 99 48 = some (.iconst 1, 1) := by decide +kernel
theorem n_99_48 : ∀ l, xpr 99 48 l = l := xpr_no (by decide +kernel)
theorem r_99_49 : xfetch 99 49 = some (.iadd, 1) := by decide +kernel
theorem n_99_49 : ∀ l, xpr 99 49 l = l := xpr_no (by decide +kernel)
theorem r_99_50 : xfetch 99 50 = some (.putfield 26, 3) := by decide +kernel
theorem n_99_50 : ∀ l, xpr 99 50 l = l := xpr_no (by decide +kernel)
theorem r_99_53 : xfetch 99 53 = some (.iload_n 1, 1) := by decide +kernel
theorem n_99_53 : ∀ l, xpr 99 53 l = l := xpr_no (by decide +kernel)
theorem r_99_54 : xfetch 99 54 = some (.bipush 10, 2) := by decide +kernel
theorem n_99_54 : ∀ l, xpr 99 54 l = l := xpr_no (by decide +kernel)
theorem r_99_56 : xfetch 99 56 = some (.imul, 1) := by decide +kernel
theorem n_99_56 : ∀ l, xpr 99 56 l = l := xpr_no (by decide +kernel)
theorem r_99_57 : xfetch 99 57 = some (.iload_n 2, 1) := by decide +kernel
theorem n_99_57 : ∀ l, xpr 99 57 l = l := xpr_no (by decide +kernel)
theorem r_99_58 : xfetch 99 58 = some (.iadd, 1) := by decide +kernel
theorem n_99_58 : ∀ l, xpr 99 58 l = l := xpr_no (by decide +kernel)
theorem r_99_59 : xfetch 99 59 = some (.istore_n 1, 1) := by decide +kernel
theorem n_99_59 : ∀ l, xpr 99 59 l = l := xpr_no (by decide +kernel)
theorem r_99_60 : xfetch 99 60 = some (.bipush 20, 2) := by decide +kernel
theorem n_99_60 : ∀ l, xpr 99 60 l = l := xpr_no (by decide +kernel)
theorem r_99_62 : xfetch 99 62 = some (.iload_n 1, 1) := by decide +kernel
theorem n_99_62 : ∀ l, xpr 99 62 l = l := xpr_no (by decide +kernel)
theorem r_99_63 : xfetch 99 63 = some (.iadd, 1) := by decide +kernel
theorem n_99_63 : ∀ l, xpr 99 63 l = l := xpr_no (by decide +kernel)
theorem r_99_64 : xfetch 99 64 = some (.ireturn, 1) := by decide +kernel
theorem n_99_64 : ∀ l, xpr 99 64 l = l := xpr_no (by decide +kernel)
theorem v_Text_readWidth_0 {S : Option (Nat × (Nat → Int32))} {s : zSt} {Q : Option Value ⊕ Nat → zSt → Prop}  
    (h : wp S 98 0 [(0, rf 36)] [] s (fun o1 s1 => zkI (fun y1 => (1 ≤ y1 → rng ((zI s1 36 3) + 1) ∧ (wp S 98 0 [(0, rf 36)] [] (zwI s1 36 3 ((zI s1 36 3) + 1)) (fun o6 s6 => zkI (fun y6 => (y6 = (-1) → Q (rI (20 + y1)) s6) ∧ (y6 ≠ (-1) → rng ((y1 * 10) + y6) ∧ ((16 < ((y1 * 10) + y6) → Q (rI (20 + y1)) s6) ∧ (((y1 * 10) + y6) ≤ 16 → rng ((zI s6 36 3) + 1) ∧ (Q (rI (20 + ((y1 * 10) + y6))) (zwI s6 36 3 ((zI s6 36 3) + 1))))))) (fun e6 => False) o6))) ∧ (y1 < 1 → Q (rI (-1)) s1)) (fun e1 => False) o1)) :
    wp S 99 0 [(0, rf 36)] [] s Q := by
  refine i_aload_n (a := 36) r_99_0 (n_99_0 _) rfl ?_
  refine wp_virt (b := 36) (rest := []) (Ls := [(0, rf 36)]) r_99_1 (n_99_1 _) rfl ⟨rfl, rfl, by decide, by decide⟩ rfl rfl lf_36 ⟨rfl, Nat.le_of_ble_eq_true rfl, Nat.le_of_ble_eq_true rfl⟩ rfl h ?_
  intro o1 s1 h
  rcases h with ⟨y1, q2, rfl, h⟩ | ⟨e1, rfl, h⟩
  · refine .inl ⟨some (iv y1), rfl, ?_⟩
    show wp S 99 4 [(0, rf 36)] [iv y1] s1 Q
    refine i_istore_n (l' := [(0, rf 36), (1, iv y1)]) r_99_4 (n_99_4 _) (by decide) rfl ?_
    refine i_iload_n (x := y1) r_99_5 (n_99_5 _) rfl ?_
    refine i_iconst r_99_6 (n_99_6 _) ?_
    refine i_icmp (t := 12) r_99_7 (n_99_7 _) rfl (T_ge q2 ⟨by omega, by omega⟩) (fun c3 => ?_) (fun c3 => ?_)
    · replace h := h.1 c3
      refine i_aload_n (a := 36) r_99_12 (n_99_12 _) rfl ?_
      refine i_dup r_99_13 (n_99_13 _) rfl ?_
      refine i_getI (a := 36) r_99_14 (n_99_14 _) rfl (by decide) lf_36 (fun q4 => ?_)
      refine i_iconst r_99_17 (n_99_17 _) ?_
      refine i_iadd r_99_18 (n_99_18 _) ?_
      obtain ⟨g5, h⟩ := h
      refine i_putI (a := 36) (x := (zI s1 36 3) + 1) r_99_19 (n_99_19 _) rfl (.inl rfl) rfl lf_36 g5 ?_
      refine i_aload_n (a := 36) r_99_22 (n_99_22 _) rfl ?_
      refine wp_virt (b := 36) (rest := []) (Ls := [(0, rf 36)]) r_99_23 (n_99_23 _) rfl ⟨rfl, rfl, by decide, by decide⟩ rfl rfl lf_36 ⟨rfl, Nat.le_of_ble_eq_true rfl, Nat.le_of_ble_eq_true rfl⟩ rfl h ?_
      intro o6 s6 h
      rcases h with ⟨y6, q7, rfl, h⟩ | ⟨e6, rfl, h⟩
      · refine .inl ⟨some (iv y6), rfl, ?_⟩
        show wp S 99 26 [(0, rf 36), (1, iv y1)] [iv y6] s6 Q
        refine i_istore_n (l' := [(0, rf 36), (1, iv y1), (2, iv y6)]) r_99_26 (n_99_26 _) (by decide) rfl ?_
        refine i_iload_n (x := y6) r_99_27 (n_99_27 _) rfl ?_
        refine i_iconst r_99_28 (n_99_28 _) ?_
        refine i_icmp (t := 60) r_99_29 (n_99_29 _) rfl (T_eq q7 ⟨by omega, by omega⟩) (fun c8 => ?_) (fun c8 => ?_)
        · replace h := h.1 c8
          refine i_bipush r_99_60 (n_99_60 _) rfl ?_
          refine i_iload_n (x := y1) r_99_62 (n_99_62 _) rfl ?_
          refine i_iadd r_99_63 (n_99_63 _) ?_
          exact i_ireturn r_99_64 (n_99_64 _) rfl h
        · replace h := h.2 c8
          refine i_iload_n (x := y1) r_99_32 (n_99_32 _) rfl ?_
          refine i_bipush r_99_33 (n_99_33 _) rfl ?_
          refine i_imul r_99_35 (n_99_35 _) ?_
          refine i_iload_n (x := y6) r_99_36 (n_99_36 _) rfl ?_
          refine i_iadd r_99_37 (n_99_37 _) ?_
          refine i_bipush r_99_38 (n_99_38 _) rfl ?_
          obtain ⟨g9, h⟩ := h
          refine i_icmp (t := 60) r_99_40 (n_99_40 _) rfl (T_gt g9 ⟨by omega, by omega⟩) (fun c10 => ?_) (fun c10 => ?_)
          · replace h := h.1 c10
            refine i_bipush r_99_60 (n_99_60 _) rfl ?_
            refine i_iload_n (x := y1) r_99_62 (n_99_62 _) rfl ?_
            refine i_iadd r_99_63 (n_99_63 _) ?_
            exact i_ireturn r_99_64 (n_99_64 _) rfl h
          · replace h := h.2 c10
            refine i_aload_n (a := 36) r_99_43 (n_99_43 _) rfl ?_
            refine i_dup r_99_44 (n_99_44 _) rfl ?_
            refine i_getI (a := 36) r_99_45 (n_99_45 _) rfl (by decide) lf_36 (fun q11 => ?_)
            refine i_iconst r_99_48 (n_99_48 _) ?_
            refine i_iadd r_99_49 (n_99_49 _) ?_
            obtain ⟨g12, h⟩ := h
            refine i_putI (a := 36) (x := (zI s6 36 3) + 1) r_99_50 (n_99_50 _) rfl (.inl rfl) rfl lf_36 g12 ?_
            refine i_iload_n (x := y1) r_99_53 (n_99_53 _) rfl ?_
            refine i_bipush r_99_54 (n_99_54 _) rfl ?_
            refine i_imul r_99_56 (n_99_56 _) ?_
            refine i_iload_n (x := y6) r_99_57 (n_99_57 _) rfl ?_
            refine i_iadd r_99_58 (n_99_58 _) ?_
            refine i_istore_n (l' := [(0, rf 36), (1, iv ((y1 * 10) + y6)), (2, iv y6)]) r_99_59 (n_99_59 _) (by decide) rfl ?_
            refine i_bipush r_99_60 (n_99_60 _) rfl ?_
            refine i_iload_n (x := (y1 * 10) + y6) r_99_62 (n_99_62 _) rfl ?_
            refine i_iadd r_99_63 (n_99_63 _) ?_
            exact i_ireturn r_99_64 (n_99_64 _) rfl h
      · skip
        exact h.elim
    · replace h := h.2 c3
      refine i_iconst r_99_10 (n_99_10 _) ?_
      exact i_ireturn r_99_11 (n_99_11 _) rfl h
  · skip
    exact h.elim
theorem r_100_0 : xfetch 100 0 = some (.iload_n 1, 1) := by decide +kernel
theorem n_100_0 : ∀ l, xpr 100 0 l = l := xpr_no (by decide +kernel)
theorem r_100_1 : xfetch 100 1 = some (.invokestatic 88, 3) := by decide +kernel
theorem n_100_1 : ∀ l, xpr 100 1 l = l := xpr_no (by decide +kernel)
theorem r_100_4 : xfetch 100 4 = some (.ifCond .ne 12, 3) := by decide +kernel
theorem n_100_4 : ∀ l, xpr 100 4 l = l := xpr_no (by decide +kernel)
theorem r_100_7 : xfetch 100 7 = some (.aload_n 0, 1) := by decide +kernel
theorem n_100_7 : ∀ l, xpr 100 7 l = l := xpr_no (by decide +kernel)
theorem r_100_8 : xfetch 100 8 = some (.bipush 91, 2) := by decide +kernel
theorem n_100_8 : ∀ l, xpr 100 8 l = l := xpr_no (by decide +kernel)
theorem r_100_10 : xfetch 100 10 = some (.invokevirtual 51, 3) := by decide +kernel
theorem n_100_10 : ∀ l, xpr 100 10 l = l := xpr_no (by decide +kernel)
theorem r_100_13 : xfetch 100 13 = some (.ifCond .ne 5, 3) := by decide +kernel
theorem n_100_13 : ∀ l, xpr 100 13 l = l := xpr_no (by decide +kernel)
theorem r_100_16 : xfetch 100 16 = some (.iconst 1, 1) := by decide +kernel
theorem n_100_16 : ∀ l, xpr 100 16 l = l := xpr_no (by decide +kernel)
theorem r_100_17 : xfetch 100 17 = some (.ireturn, 1) := by decide +kernel
theorem n_100_17 : ∀ l, xpr 100 17 l = l := xpr_no (by decide +kernel)
theorem r_100_18 : xfetch 100 18 = some (.aload_n 0, 1) := by decide +kernel
theorem n_100_18 : ∀ l, xpr 100 18 l = l := xpr_no (by decide +kernel)
theorem r_100_19 : xfetch 100 19 = some (.invokevirtual 85, 3) := by decide +kernel
theorem n_100_19 : ∀ l, xpr 100 19 l = l := xpr_no (by decide +kernel)
theorem r_100_22 : xfetch 100 22 = some (.istore_n 2, 1) := by decide +kernel
theorem n_100_22 : ∀ l, xpr 100 22 l = l := xpr_no (by decide +kernel)
theorem r_100_23 : xfetch 100 23 = some (.iload_n 2, 1) := by decide +kernel
theorem n_100_23 : ∀ l, xpr 100 23 l = l := xpr_no (by decide +kernel)
theorem r_100_24 : xfetch 100 24 = some (.iconst 1, 1) := by decide +kernel
theorem n_100_24 : ∀ l, xpr 100 24 l = l := xpr_no (by decide +kernel)
theorem r_100_25 : xfetch 100 25 = some (.if_icmp .lt 8, 3) := by decide +kernel
theorem n_100_25 : ∀ l, xpr 100 25 l = l := xpr_no (by decide +kernel)
theorem r_100_28 : xfetch 100 28 = some (.iload_n 2, 1) := by decide +kernel
theorem n_100_28 : ∀ l, xpr 100 28 l = l := xpr_no (by decide +kernel)
theorem r_100_29 : xfetch 100 29 = some (.iconst 4, 1) := by decide +kernel
theorem n_100_29 : ∀ l, xpr 100 29 l = l := xpr_no (by decide +kernel)
theorem r_100_30 : xfetch 100 30 = some (.if_icmp .le 5, 3) := by decide +kernel
theorem n_100_30 : ∀ l, xpr 100 30 l = l := xpr_no (by decide +kernel)
theorem r_100_33 : xfetch 100 33 = some (.iconst (-1), 1) := by decide +kernel
theorem n_100_33 : ∀ l, xpr 100 33 l = l := xpr_no (by decide +kernel)
theorem r_100_34 : xfetch 100 34 = some (.ireturn, 1) := by decide +kernel
theorem n_100_34 : ∀ l, xpr 100 34 l = l := xpr_no (by decide +kernel)
theorem r_100_35 : xfetch 100 35 = some (.aload_n 0, 1) := by decide +kernel
theorem n_100_35 : ∀ l, xpr 100 35 l = l := xpr_no (by decide +kernel)
theorem r_100_36 : xfetch 100 36 = some (.dup, 1) := by decide +kernel
theorem n_100_36 : ∀ l, xpr 100 36 l = l := xpr_no (by decide +kernel)
theorem r_100_37 : xfetch 100 37 = some (.getfield 26, 3) := by decide +kernel
theorem n_100_37 : ∀ l, xpr 100 37 l = l := xpr_no (by decide +kernel)
theorem r_100_40 : xfetch 100 40 = some (.iconst 1, 1) := by decide +kernel
theorem n_100_40 : ∀ l, xpr 100 40 l = l := xpr_no (by decide +kernel)
theorem r_100_41 : xfetch 100 41 = some (.iadd, 1) := by decide +kernel
theorem n_100_41 : ∀ l, xpr 100 41 l = l := xpr_no (by decide +kernel)
theorem r_100_42 : xfetch 100 42 = some (.putfield 26, 3) := by decide +kernel
theorem n_100_42 : ∀ l, xpr 100 42 l = l := xpr_no (by decide +kernel)
theorem r_100_45 : xfetch 100 45 = some (.aload_n 0, 1) := by decide +kernel
theorem n_100_45 : ∀ l, xpr 100 45 l = l := xpr_no (by decide +kernel)
theorem r_100_46 : xfetch 100 46 = some (.bipush 93, 2) := by decide +kernel
theorem n_100_46 : ∀ l, xpr 100 46 l = l := xpr_no (by decide +kernel)
theorem r_100_48 : xfetch 100 48 = some (.invokevirtual 51, 3) := by decide +kernel
theorem n_100_48 : ∀ l, xpr 100 48 l = l := xpr_no (by decide +kernel)
theorem r_100_51 : xfetch 100 51 = some (.ifCond .eq 7, 3) := by decide +kernel
theorem n_100_51 : ∀ l, xpr 100 51 l = l := xpr_no (by decide +kernel)
theorem r_100_54 : xfetch 100 54 = some (.iload_n 2, 1) := by decide +kernel
theorem n_100_54 : ∀ l, xpr 100 54 l = l := xpr_no (by decide +kernel)
theorem r_100_55 : xfetch 100 55 = some (.goto 4, 3) := by decide +kernel
theorem n_100_55 : ∀ l, xpr 100 55 l = l := xpr_no (by decide +kernel)
theorem r_100_58 : xfetch 100 58 = some (.iconst (-1), 1) := by decide +kernel
theorem n_100_58 : ∀ l, xpr 100 58 l = l := xpr_no (by decide +kernel)
theorem r_100_59 : xfetch 100 59 = some (.ireturn, 1) := by decide +kernel
theorem n_100_59 : ∀ l, xpr 100 59 l = l := xpr_no (by decide +kernel)
theorem v_Text_readCount_0 {S : Option (Nat × (Nat → Int32))} {s : zSt} {Q : Option Value ⊕ Nat → zSt → Prop} {x1 : Int} 
    (h : wp S 46 0 [(0, iv x1)] [] s (fun o1 s1 => zkI (fun y1 => (y1 ≠ 0 → Q (rI 1) s1) ∧ (y1 = 0 → wp S 94 0 [(0, rf 36), (1, iv 91)] [] s1 (fun o4 s4 => zkI (fun y4 => (y4 ≠ 0 → wp S 98 0 [(0, rf 36)] [] s4 (fun o7 s7 => zkI (fun y7 => (y7 < 1 → Q (rI (-1)) s7) ∧ (1 ≤ y7 → (y7 ≤ 4 → rng ((zI s7 36 3) + 1) ∧ (wp S 94 0 [(0, rf 36), (1, iv 93)] [] (zwI s7 36 3 ((zI s7 36 3) + 1)) (fun o13 s13 => zkI (fun y13 => (y13 = 0 → Q (rI (-1)) s13) ∧ (y13 ≠ 0 → Q (rI y7) s13)) (fun e13 => False) o13))) ∧ (4 < y7 → Q (rI (-1)) s7))) (fun e7 => False) o7)) ∧ (y4 = 0 → Q (rI 1) s4)) (fun e4 => False) o4))) (fun e1 => False) o1)) :
    wp S 100 0 [(0, rf 36), (1, iv x1)] [] s Q := by
  refine i_iload_n (x := x1) r_100_0 (n_100_0 _) rfl ?_
  refine wp_stat (rest := []) (Ls := [(0, iv x1)]) r_100_1 (n_100_1 _) rfl ⟨rfl, by decide, by decide, by decide⟩ rfl rfl ⟨rfl, Nat.le_of_ble_eq_true rfl, Nat.le_of_ble_eq_true rfl⟩ rfl h ?_
  intro o1 s1 h
  rcases h with ⟨y1, q2, rfl, h⟩ | ⟨e1, rfl, h⟩
  · refine .inl ⟨some (iv y1), rfl, ?_⟩
    show wp S 100 4 [(0, rf 36), (1, iv x1)] [iv y1] s1 Q
    refine i_if (t := 16) r_100_4 (n_100_4 _) rfl (T_ne q2 ⟨by omega, by omega⟩) (fun c3 => ?_) (fun c3 => ?_)
    · replace h := h.1 c3
      refine i_iconst r_100_16 (n_100_16 _) ?_
      exact i_ireturn r_100_17 (n_100_17 _) rfl h
    · replace h := h.2 c3
      refine i_aload_n (a := 36) r_100_7 (n_100_7 _) rfl ?_
      refine i_bipush r_100_8 (n_100_8 _) rfl ?_
      refine wp_virt (b := 36) (rest := []) (Ls := [(0, rf 36), (1, iv 91)]) r_100_10 (n_100_10 _) rfl ⟨rfl, rfl, by decide, by decide⟩ rfl rfl lf_36 ⟨rfl, Nat.le_of_ble_eq_true rfl, Nat.le_of_ble_eq_true rfl⟩ rfl h ?_
      intro o4 s4 h
      rcases h with ⟨y4, q5, rfl, h⟩ | ⟨e4, rfl, h⟩
      · refine .inl ⟨some (iv y4), rfl, ?_⟩
        show wp S 100 13 [(0, rf 36), (1, iv x1)] [iv y4] s4 Q
        refine i_if (t := 18) r_100_13 (n_100_13 _) rfl (T_ne q5 ⟨by omega, by omega⟩) (fun c6 => ?_) (fun c6 => ?_)
        · replace h := h.1 c6
          refine i_aload_n (a := 36) r_100_18 (n_100_18 _) rfl ?_
          refine wp_virt (b := 36) (rest := []) (Ls := [(0, rf 36)]) r_100_19 (n_100_19 _) rfl ⟨rfl, rfl, by decide, by decide⟩ rfl rfl lf_36 ⟨rfl, Nat.le_of_ble_eq_true rfl, Nat.le_of_ble_eq_true rfl⟩ rfl h ?_
          intro o7 s7 h
          rcases h with ⟨y7, q8, rfl, h⟩ | ⟨e7, rfl, h⟩
          · refine .inl ⟨some (iv y7), rfl, ?_⟩
            show wp S 100 22 [(0, rf 36), (1, iv x1)] [iv y7] s7 Q
            refine i_istore_n (l' := [(0, rf 36), (1, iv x1), (2, iv y7)]) r_100_22 (n_100_22 _) (by decide) rfl ?_
            refine i_iload_n (x := y7) r_100_23 (n_100_23 _) rfl ?_
            refine i_iconst r_100_24 (n_100_24 _) ?_
            refine i_icmp (t := 33) r_100_25 (n_100_25 _) rfl (T_lt q8 ⟨by omega, by omega⟩) (fun c9 => ?_) (fun c9 => ?_)
            · replace h := h.1 c9
              refine i_iconst r_100_33 (n_100_33 _) ?_
              exact i_ireturn r_100_34 (n_100_34 _) rfl h
            · replace h := h.2 c9
              refine i_iload_n (x := y7) r_100_28 (n_100_28 _) rfl ?_
              refine i_iconst r_100_29 (n_100_29 _) ?_
              refine i_icmp (t := 35) r_100_30 (n_100_30 _) rfl (T_le q8 ⟨by omega, by omega⟩) (fun c10 => ?_) (fun c10 => ?_)
              · replace h := h.1 c10
                refine i_aload_n (a := 36) r_100_35 (n_100_35 _) rfl ?_
                refine i_dup r_100_36 (n_100_36 _) rfl ?_
                refine i_getI (a := 36) r_100_37 (n_100_37 _) rfl (by decide) lf_36 (fun q11 => ?_)
                refine i_iconst r_100_40 (n_100_40 _) ?_
                refine i_iadd r_100_41 (n_100_41 _) ?_
                obtain ⟨g12, h⟩ := h
                refine i_putI (a := 36) (x := (zI s7 36 3) + 1) r_100_42 (n_100_42 _) rfl (.inl rfl) rfl lf_36 g12 ?_
                refine i_aload_n (a := 36) r_100_45 (n_100_45 _) rfl ?_
                refine i_bipush r_100_46 (n_100_46 _) rfl ?_
                refine wp_virt (b := 36) (rest := []) (Ls := [(0, rf 36), (1, iv 93)]) r_100_48 (n_100_48 _) rfl ⟨rfl, rfl, by decide, by decide⟩ rfl rfl lf_36 ⟨rfl, Nat.le_of_ble_eq_true rfl, Nat.le_of_ble_eq_true rfl⟩ rfl h ?_
                intro o13 s13 h
                rcases h with ⟨y13, q14, rfl, h⟩ | ⟨e13, rfl, h⟩
                · refine .inl ⟨some (iv y13), rfl, ?_⟩
                  show wp S 100 51 [(0, rf 36), (1, iv x1), (2, iv y7)] [iv y13] s13 Q
                  refine i_if (t := 58) r_100_51 (n_100_51 _) rfl (T_eq q14 ⟨by omega, by omega⟩) (fun c15 => ?_) (fun c15 => ?_)
                  · replace h := h.1 c15
                    refine i_iconst r_100_58 (n_100_58 _) ?_
                    exact i_ireturn r_100_59 (n_100_59 _) rfl h
                  · replace h := h.2 c15
                    refine i_iload_n (x := y7) r_100_54 (n_100_54 _) rfl ?_
                    refine i_goto (t := 59) r_100_55 (n_100_55 _) rfl ?_
                    exact i_ireturn r_100_59 (n_100_59 _) rfl h
                · skip
                  exact h.elim
              · replace h := h.2 c10
                refine i_iconst r_100_33 (n_100_33 _) ?_
                exact i_ireturn r_100_34 (n_100_34 _) rfl h
          · skip
            exact h.elim
        · replace h := h.2 c6
          refine i_iconst r_100_16 (n_100_16 _) ?_
          exact i_ireturn r_100_17 (n_100_17 _) rfl h
      · skip
        exact h.elim
  · skip
    exact h.elim
theorem r_102_0 : xfetch 102 0 = some (.aload_n 0, 1) := by decide +kernel
theorem n_102_0 : ∀ l, xpr 102 0 l = l := xpr_no (by decide +kernel)
theorem r_102_1 : xfetch 102 1 = some (.iload_n 1, 1) := by decide +kernel
theorem n_102_1 : ∀ l, xpr 102 1 l = l := xpr_no (by decide +kernel)
theorem r_102_2 : xfetch 102 2 = some (.invokevirtual 95, 3) := by decide +kernel
theorem n_102_2 : ∀ l, xpr 102 2 l = l := xpr_no (by decide +kernel)
theorem r_102_5 : xfetch 102 5 = some (.iload_n 2, 1) := by decide +kernel
theorem n_102_5 : ∀ l, xpr 102 5 l = l := xpr_no (by decide +kernel)
theorem r_102_6 : xfetch 102 6 = some (.iconst 1, 1) := by decide +kernel
theorem n_102_6 : ∀ l, xpr 102 6 l = l := xpr_no (by decide +kernel)
theorem r_102_7 : xfetch 102 7 = some (.if_icmp .lt 9, 3) := by decide +kernel
theorem n_102_7 : ∀ l, xpr 102 7 l = l := xpr_no (by decide +kernel)
theorem r_102_10 : xfetch 102 10 = some (.iload_n 2, 1) := by decide +kernel
theorem n_102_10 : ∀ l, xpr 102 10 l = l := xpr_no (by decide +kernel)
theorem r_102_11 : xfetch 102 11 = some (.bipush 12, 2) := by decide +kernel
theorem n_102_11 : ∀ l, xpr 102 11 l = l := xpr_no (by decide +kernel)
theorem r_102_13 : xfetch 102 13 = some (.if_icmp .le 13, 3) := by decide +kernel
theorem n_102_13 : ∀ l, xpr 102 13 l = l := xpr_no (by decide +kernel)
theorem r_102_16 : xfetch 102 16 = some (.new 102, 3) := by decide +kernel
theorem n_102_16 : ∀ l, xpr 102 16 l = l := xpr_no (by decide +kernel)
theorem r_102_26 : xfetch 102 26 = some (.iload_n 3, 1) := by decide +kernel
theorem n_102_26 : ∀ l, xpr 102 26 l = l := xpr_no (by decide +kernel)
theorem r_102_27 : xfetch 102 27 = some (.invokestatic 229, 3) := by decide +kernel
theorem n_102_27 : ∀ l, xpr 102 27 l = l := xpr_no (by decide +kernel)
theorem r_102_30 : xfetch 102 30 = some (.iload 4, 2) := by decide +kernel
theorem n_102_30 : ∀ l, xpr 102 30 l = l := xpr_no (by decide +kernel)
theorem r_102_32 : xfetch 102 32 = some (.invokestatic 232, 3) := by decide +kernel
theorem n_102_32 : ∀ l, xpr 102 32 l = l := xpr_no (by decide +kernel)
theorem r_102_35 : xfetch 102 35 = some (.aload_n 0, 1) := by decide +kernel
theorem n_102_35 : ∀ l, xpr 102 35 l = l := xpr_no (by decide +kernel)
theorem r_102_36 : xfetch 102 36 = some (.iload_n 1, 1) := by decide +kernel
theorem n_102_36 : ∀ l, xpr 102 36 l = l := xpr_no (by decide +kernel)
theorem r_102_37 : xfetch 102 37 = some (.invokevirtual 235, 3) := by decide +kernel
theorem n_102_37 : ∀ l, xpr 102 37 l = l := xpr_no (by decide +kernel)
theorem r_102_40 : xfetch 102 40 = some (.aload_n 0, 1) := by decide +kernel
theorem n_102_40 : ∀ l, xpr 102 40 l = l := xpr_no (by decide +kernel)
theorem r_102_41 : xfetch 102 41 = some (.invokevirtual 238, 3) := by decide +kernel
theorem n_102_41 : ∀ l, xpr 102 41 l = l := xpr_no (by decide +kernel)
theorem r_102_44 : xfetch 102 44 = some (.istore 5, 2) := by decide +kernel
theorem n_102_44 : ∀ l, xpr 102 44 l = l := xpr_no (by decide +kernel)
theorem r_102_46 : xfetch 102 46 = some (.iload 5, 2) := by decide +kernel
theorem n_102_46 : ∀ l, xpr 102 46 l = l := xpr_no (by decide +kernel)
theorem r_102_48 : xfetch 102 48 = some (.iconst (-1), 1) := by decide +kernel
theorem n_102_48 : ∀ l, xpr 102 48 l = l := xpr_no (by decide +kernel)
theorem r_102_49 : xfetch 102 49 = some (.if_icmp .ne 13, 3) := by decide +kernel
theorem n_102_49 : ∀ l, xpr 102 49 l = l := xpr_no (by decide +kernel)
theorem r_102_52 : xfetch 102 52 = some (.new 137, 3) := by decide +kernel
theorem n_102_52 : ∀ l, xpr 102 52 l = l := xpr_no (by decide +kernel)
theorem r_102_62 : xfetch 102 62 = some (.aload_n 0, 1) := by decide +kernel
theorem n_102_62 : ∀ l, xpr 102 62 l = l := xpr_no (by decide +kernel)
theorem r_102_63 : xfetch 102 63 = some (.getfield 51, 3) := by decide +kernel
theorem n_102_63 : ∀ l, xpr 102 63 l = l := xpr_no (by decide +kernel)
theorem r_102_66 : xfetch 102 66 = some (.aload_n 0, 1) := by decide +kernel
theorem n_102_66 : ∀ l, xpr 102 66 l = l := xpr_no (by decide +kernel)
theorem r_102_67 : xfetch 102 67 = some (.getfield 18, 3) := by decide +kernel
theorem n_102_67 : ∀ l, xpr 102 67 l = l := xpr_no (by decide +kernel)
theorem r_102_70 : xfetch 102 70 = some (.iload_n 1, 1) := by decide +kernel
theorem n_102_70 : ∀ l, xpr 102 70 l = l := xpr_no (by decide +kernel)
theorem r_102_71 : xfetch 102 71 = some (.aaload, 1) := by decide +kernel
theorem n_102_71 : ∀ l, xpr 102 71 l = l := xpr_no (by decide +kernel)
theorem r_102_72 : xfetch 102 72 = some (.iload_n 2, 1) := by decide +kernel
theorem n_102_72 : ∀ l, xpr 102 72 l = l := xpr_no (by decide +kernel)
theorem r_102_73 : xfetch 102 73 = some (.iload_n 3, 1) := by decide +kernel
theorem n_102_73 : ∀ l, xpr 102 73 l = l := xpr_no (by decide +kernel)
theorem r_102_74 : xfetch 102 74 = some (.invokevirtual 244, 3) := by decide +kernel
theorem n_102_74 : ∀ l, xpr 102 74 l = l := xpr_no (by decide +kernel)
theorem r_102_77 : xfetch 102 77 = some (.aload_n 0, 1) := by decide +kernel
theorem n_102_77 : ∀ l, xpr 102 77 l = l := xpr_no (by decide +kernel)
theorem r_102_78 : xfetch 102 78 = some (.aload_n 0, 1) := by decide +kernel
theorem n_102_78 : ∀ l, xpr 102 78 l = l := xpr_no (by decide +kernel)
theorem r_102_79 : xfetch 102 79 = some (.getfield 51, 3) := by decide +kernel
theorem n_102_79 : ∀ l, xpr 102 79 l = l := xpr_no (by decide +kernel)
theorem r_102_82 : xfetch 102 82 = some (.getfield 248, 3) := by decide +kernel
theorem n_102_82 : ∀ l, xpr 102 82 l = l := xpr_no (by decide +kernel)
theorem r_102_85 : xfetch 102 85 = some (.invokevirtual 251, 3) := by decide +kernel
theorem n_102_85 : ∀ l, xpr 102 85 l = l := xpr_no (by decide +kernel)
theorem r_102_88 : xfetch 102 88 = some (.istore 6, 2) := by decide +kernel
theorem n_102_88 : ∀ l, xpr 102 88 l = l := xpr_no (by decide +kernel)
theorem r_102_90 : xfetch 102 90 = some (.iload 6, 2) := by decide +kernel
theorem n_102_90 : ∀ l, xpr 102 90 l = l := xpr_no (by decide +kernel)
theorem r_102_92 : xfetch 102 92 = some (.iconst (-1), 1) := by decide +kernel
theorem n_102_92 : ∀ l, xpr 102 92 l = l := xpr_no (by decide +kernel)
theorem r_102_93 : xfetch 102 93 = some (.if_icmp .ne 13, 3) := by decide +kernel
theorem n_102_93 : ∀ l, xpr 102 93 l = l := xpr_no (by decide +kernel)
theorem r_102_96 : xfetch 102 96 = some (.new 137, 3) := by decide +kernel
theorem n_102_96 : ∀ l, xpr 102 96 l = l := xpr_no (by decide +kernel)
theorem r_102_106 : xfetch 102 106 = some (.aload_n 0, 1) := by decide +kernel
theorem n_102_106 : ∀ l, xpr 102 106 l = l := xpr_no (by decide +kernel)
theorem r_102_107 : xfetch 102 107 = some (.invokevirtual 77, 3) := by decide +kernel
theorem n_102_107 : ∀ l, xpr 102 107 l = l := xpr_no (by decide +kernel)
theorem r_102_110 : xfetch 102 110 = some (.aload_n 0, 1) := by decide +kernel
theorem n_102_110 : ∀ l, xpr 102 110 l = l := xpr_no (by decide +kernel)
theorem r_102_111 : xfetch 102 111 = some (.getfield 10, 3) := by decide +kernel
theorem n_102_111 : ∀ l, xpr 102 111 l = l := xpr_no (by decide +kernel)
theorem r_102_114 : xfetch 102 114 = some (.getfield 256, 3) := by decide +kernel
theorem n_102_114 : ∀ l, xpr 102 114 l = l := xpr_no (by decide +kernel)
theorem r_102_117 : xfetch 102 117 = some (.iload 5, 2) := by decide +kernel
theorem n_102_117 : ∀ l, xpr 102 117 l = l := xpr_no (by decide +kernel)
theorem r_102_119 : xfetch 102 119 = some (.aaload, 1) := by decide +kernel
theorem n_102_119 : ∀ l, xpr 102 119 l = l := xpr_no (by decide +kernel)
theorem r_102_120 : xfetch 102 120 = some (.astore 7, 2) := by decide +kernel
theorem n_102_120 : ∀ l, xpr 102 120 l = l := xpr_no (by decide +kernel)
theorem r_102_122 : xfetch 102 122 = some (.aload 7, 2) := by decide +kernel
theorem n_102_122 : ∀ l, xpr 102 122 l = l := xpr_no (by decide +kernel)
theorem r_102_124 : xfetch 102 124 = some (.iconst 1, 1) := by decide +kernel
theorem n_102_124 : ∀ l, xpr 102 124 l = l := xpr_no (by decide +kernel)
theorem r_102_125 : xfetch 102 125 = some (.putfield 260, 3) := by decide +kernel
theorem n_102_125 : ∀ l, xpr 102 125 l = l := xpr_no (by decide +kernel)
theorem r_102_128 : xfetch 102 128 = some (.aload 7, 2) := by decide +kernel
theorem n_102_128 : ∀ l, xpr 102 128 l = l := xpr_no (by decide +kernel)
theorem r_102_130 : xfetch 102 130 = some (.iload_n 1, 1) := by decide +kernel
theorem n_102_130 : ∀ l, xpr 102 130 l = l := xpr_no (by decide +kernel)
theorem r_102_131 : xfetch 102 131 = some (.putfield 266, 3) := by decide +kernel
theorem n_102_131 : ∀ l, xpr 102 131 l = l := xpr_no (by decide +kernel)
theorem r_102_134 : xfetch 102 134 = some (.aload 7, 2) := by decide +kernel
theorem n_102_134 : ∀ l, xpr 102 134 l = l := xpr_no (by decide +kernel)
theorem r_102_136 : xfetch 102 136 = some (.iload_n 2, 1) := by decide +kernel
theorem n_102_136 : ∀ l, xpr 102 136 l = l := xpr_no (by decide +kernel)
theorem r_102_137 : xfetch 102 137 = some (.putfield 269, 3) := by decide +kernel
theorem n_102_137 : ∀ l, xpr 102 137 l = l := xpr_no (by decide +kernel)
theorem r_102_140 : xfetch 102 140 = some (.aload 7, 2) := by decide +kernel
theorem n_102_140 : ∀ l, xpr 102 140 l = l := xpr_no (by decide +kernel)
theorem r_102_142 : xfetch 102 142 = some (.iload_n 3, 1) := by decide +kernel
theorem n_102_142 : ∀ l, xpr 102 142 l = l := xpr_no (by decide +kernel)
theorem r_102_143 : xfetch 102 143 = some (.putfield 272, 3) := by decide +kernel
theorem n_102_143 : ∀ l, xpr 102 143 l = l := xpr_no (by decide +kernel)
theorem r_102_146 : xfetch 102 146 = some (.aload 7, 2) := by decide +kernel
theorem n_102_146 : ∀ l, xpr 102 146 l = l := xpr_no (by decide +kernel)
theorem r_102_148 : xfetch 102 148 = some (.iload 4, 2) := by decide +kernel
theorem n_102_148 : ∀ l, xpr 102 148 l = l := xpr_no (by decide +kernel)
theorem r_102_150 : xfetch 102 150 = some (.putfield 275, 3) := by decide +kernel
theorem n_102_150 : ∀ l, xpr 102 150 l = l := xpr_no (by decide +kernel)
theorem r_102_153 : xfetch 102 153 = some (.aload 7, 2) := by decide +kernel
theorem n_102_153 : ∀ l, xpr 102 153 l = l := xpr_no (by decide +kernel)
theorem r_102_155 : xfetch 102 155 = some (.iload 6, 2) := by decide +kernel
theorem n_102_155 : ∀ l, xpr 102 155 l = l := xpr_no (by decide +kernel)
theorem r_102_157 : xfetch 102 157 = some (.putfield 277, 3) := by decide +kernel
theorem n_102_157 : ∀ l, xpr 102 157 l = l := xpr_no (by decide +kernel)
theorem r_102_160 : xfetch 102 160 = some (.aload 7, 2) := by decide +kernel
theorem n_102_160 : ∀ l, xpr 102 160 l = l := xpr_no (by decide +kernel)
theorem r_102_162 : xfetch 102 162 = some (.aload_n 0, 1) := by decide +kernel
theorem n_102_162 : ∀ l, xpr 102 162 l = l := xpr_no (by decide +kernel)
theorem r_102_163 : xfetch 102 163 = some (.getfield 51, 3) := by decide +kernel
theorem n_102_163 : ∀ l, xpr 102 163 l = l := xpr_no (by decide +kernel)
theorem r_102_166 : xfetch 102 166 = some (.getfield 248, 3) := by decide +kernel
theorem n_102_166 : ∀ l, xpr 102 166 l = l := xpr_no (by decide +kernel)
theorem r_102_169 : xfetch 102 169 = some (.putfield 280, 3) := by decide +kernel
theorem n_102_169 : ∀ l, xpr 102 169 l = l := xpr_no (by decide +kernel)
theorem r_102_172 : xfetch 102 172 = some (.aload_n 0, 1) := by decide +kernel
theorem n_102_172 : ∀ l, xpr 102 172 l = l := xpr_no (by decide +kernel)
theorem r_102_173 : xfetch 102 173 = some (.iload 6, 2) := by decide +kernel
theorem n_102_173 : ∀ l, xpr 102 173 l = l := xpr_no (by decide +kernel)
theorem r_102_175 : xfetch 102 175 = some (.aload_n 0, 1) := by decide +kernel
theorem n_102_175 : ∀ l, xpr 102 175 l = l := xpr_no (by decide +kernel)
theorem r_102_176 : xfetch 102 176 = some (.getfield 51, 3) := by decide +kernel
theorem n_102_176 : ∀ l, xpr 102 176 l = l := xpr_no (by decide +kernel)
theorem r_102_179 : xfetch 102 179 = some (.getfield 248, 3) := by decide +kernel
theorem n_102_179 : ∀ l, xpr 102 179 l = l := xpr_no (by decide +kernel)
theorem r_102_182 : xfetch 102 182 = some (.invokevirtual 281, 3) := by decide +kernel
theorem n_102_182 : ∀ l, xpr 102 182 l = l := xpr_no (by decide +kernel)
theorem r_102_185 : xfetch 102 185 = some (.iload 5, 2) := by decide +kernel
theorem n_102_185 : ∀ l, xpr 102 185 l = l := xpr_no (by decide +kernel)
theorem r_102_187 : xfetch 102 187 = some (.ireturn, 1) := by decide +kernel
theorem n_102_187 : ∀ l, xpr 102 187 l = l := xpr_no (by decide +kernel)
theorem v_RL_newTable_0 {S : Option (Nat × (Nat → Int32))} {s : zSt} {Q : Option Value ⊕ Nat → zSt → Prop} {x1 : Int} {x2 : Int} {x3 : Int} {x4 : Int} 
    (h : wp S 54 0 [(0, rf 2), (1, iv x1)] [] s (fun o1 s1 => zkU (rng x2 ∧ ((x2 < 1 → Q (rT 0) (zbump s1)) ∧ (1 ≤ x2 → (x2 ≤ 12 → wp S 103 0 [(0, iv x3)] [] s1 (fun o6 s6 => zkU (wp S 104 0 [(0, iv x4)] [] s6 (fun o8 s8 => zkU (wp S 105 0 [(0, rf 2), (1, iv x1)] [] s8 (fun o10 s10 => zkU (wp S 106 0 [(0, rf 2)] [] s10 (fun o12 s12 => zkI (fun y12 => (y12 ≠ (-1) → (0 ≤ x1 ∧ x1 < 6) ∧ (wp S 107 0 [(0, rf 53), (1, rf (62 + 11 * x1)), (2, iv x2), (3, iv x3)] [] s12 (fun o17 s17 => zkU (wp S 108 0 [(0, rf 2), (1, iv (zI s17 53 4))] [] s17 (fun o20 s20 => zkI (fun y20 => (y20 ≠ (-1) → wp S 18 0 [(0, rf 2)] [] s20 (fun o23 s23 => zkU ((0 ≤ y12 ∧ y12 < 3) ∧ (rng x1 ∧ (rng x3 ∧ (rng x4 ∧ (wp S 109 0 [(0, rf 2), (1, iv y20), (2, iv (zI (zwI (zwI (zwI (zwI (zwI (zwI (zwI s23 (31 + y12) 0 1) (31 + y12) 1 x1) (31 + y12) 2 x2) (31 + y12) 3 x3) (31 + y12) 4 x4) (31 + y12) 5 y20) (31 + y12) 6 (zI (zwI (zwI (zwI (zwI (zwI (zwI s23 (31 + y12) 0 1) (31 + y12) 1 x1) (31 + y12) 2 x2) (31 + y12) 3 x3) (31 + y12) 4 x4) (31 + y12) 5 y20) 53 4)) 53 4))] [] (zwI (zwI (zwI (zwI (zwI (zwI (zwI s23 (31 + y12) 0 1) (31 + y12) 1 x1) (31 + y12) 2 x2) (31 + y12) 3 x3) (31 + y12) 4 x4) (31 + y12) 5 y20) (31 + y12) 6 (zI (zwI (zwI (zwI (zwI (zwI (zwI s23 (31 + y12) 0 1) (31 + y12) 1 x1) (31 + y12) 2 x2) (31 + y12) 3 x3) (31 + y12) 4 x4) (31 + y12) 5 y20) 53 4)) (fun o32 s32 => zkU (Q (rI y12) s32) (fun e32 => False) o32)))))) (fun e23 => False) o23)) ∧ (y20 = (-1) → Q (rT 1) (zbump s20))) (fun e20 => False) o20)) (fun e17 => False) o17))) ∧ (y12 = (-1) → Q (rT 1) (zbump s12))) (fun e12 => False) o12)) (fun e10 => Q (rT e10) s10) o10)) (fun e8 => Q (rT e8) s8) o8)) (fun e6 => Q (rT e6) s6) o6)) ∧ (12 < x2 → Q (rT 0) (zbump s1))))) (fun e1 => Q (rT e1) s1) o1)) :
    wp S 102 0 [(0, rf 2), (1, iv x1), (2, iv x2), (3, iv x3), (4, iv x4)] [] s Q := by
  refine i_aload_n (a := 2) r_102_0 (n_102_0 _) rfl ?_
  refine i_iload_n (x := x1) r_102_1 (n_102_1 _) rfl ?_
  refine wp_virt (b := 2) (rest := []) (Ls := [(0, rf 2), (1, iv x1)]) r_102_2 (n_102_2 _) rfl ⟨rfl, rfl, by decide, by decide⟩ rfl rfl lf_2 ⟨rfl, Nat.le_of_ble_eq_true rfl, Nat.le_of_ble_eq_true rfl⟩ rfl h ?_
  intro o1 s1 h
  rcases h with ⟨rfl, h⟩ | ⟨e1, rfl, h⟩
  · refine .inl ⟨none, rfl, ?_⟩
    refine i_iload_n (x := x2) r_102_5 (n_102_5 _) rfl ?_
    refine i_iconst r_102_6 (n_102_6 _) ?_
    obtain ⟨g3, h⟩ := h
    refine i_icmp (t := 16) r_102_7 (n_102_7 _) rfl (T_lt g3 ⟨by omega, by omega⟩) (fun c4 => ?_) (fun c4 => ?_)
    · replace h := h.1 c4
      exact i_throw r_102_16 (n_102_16 _) rfl (by decide) h
    · replace h := h.2 c4
      refine i_iload_n (x := x2) r_102_10 (n_102_10 _) rfl ?_
      refine i_bipush r_102_11 (n_102_11 _) rfl ?_
      refine i_icmp (t := 26) r_102_13 (n_102_13 _) rfl (T_le g3 ⟨by omega, by omega⟩) (fun c5 => ?_) (fun c5 => ?_)
      · replace h := h.1 c5
        refine i_iload_n (x := x3) r_102_26 (n_102_26 _) rfl ?_
        refine wp_stat (rest := []) (Ls := [(0, iv x3)]) r_102_27 (n_102_27 _) rfl ⟨rfl, by decide, by decide, by decide⟩ rfl rfl ⟨rfl, Nat.le_of_ble_eq_true rfl, Nat.le_of_ble_eq_true rfl⟩ rfl h ?_
        intro o6 s6 h
        rcases h with ⟨rfl, h⟩ | ⟨e6, rfl, h⟩
        · refine .inl ⟨none, rfl, ?_⟩
          refine i_iload (x := x4) r_102_30 (n_102_30 _) rfl ?_
          refine wp_stat (rest := []) (Ls := [(0, iv x4)]) r_102_32 (n_102_32 _) rfl ⟨rfl, by decide, by decide, by decide⟩ rfl rfl ⟨rfl, Nat.le_of_ble_eq_true rfl, Nat.le_of_ble_eq_true rfl⟩ rfl h ?_
          intro o8 s8 h
          rcases h with ⟨rfl, h⟩ | ⟨e8, rfl, h⟩
          · refine .inl ⟨none, rfl, ?_⟩
            refine i_aload_n (a := 2) r_102_35 (n_102_35 _) rfl ?_
            refine i_iload_n (x := x1) r_102_36 (n_102_36 _) rfl ?_
            refine wp_virt (b := 2) (rest := []) (Ls := [(0, rf 2), (1, iv x1)]) r_102_37 (n_102_37 _) rfl ⟨rfl, rfl, by decide, by decide⟩ rfl rfl lf_2 ⟨rfl, Nat.le_of_ble_eq_true rfl, Nat.le_of_ble_eq_true rfl⟩ rfl h ?_
            intro o10 s10 h
            rcases h with ⟨rfl, h⟩ | ⟨e10, rfl, h⟩
            · refine .inl ⟨none, rfl, ?_⟩
              refine i_aload_n (a := 2) r_102_40 (n_102_40 _) rfl ?_
              refine wp_virt (b := 2) (rest := []) (Ls := [(0, rf 2)]) r_102_41 (n_102_41 _) rfl ⟨rfl, rfl, by decide, by decide⟩ rfl rfl lf_2 ⟨rfl, Nat.le_of_ble_eq_true rfl, Nat.le_of_ble_eq_true rfl⟩ rfl h ?_
              intro o12 s12 h
              rcases h with ⟨y12, q13, rfl, h⟩ | ⟨e12, rfl, h⟩
              · refine .inl ⟨some (iv y12), rfl, ?_⟩
                show wp S 102 44 [(0, rf 2), (1, iv x1), (2, iv x2), (3, iv x3), (4, iv x4)] [iv y12] s12 Q
                refine i_istore (l' := [(0, rf 2), (1, iv x1), (2, iv x2), (3, iv x3), (4, iv x4), (5, iv y12)]) r_102_44 (n_102_44 _) (by decide) rfl ?_
                refine i_iload (x := y12) r_102_46 (n_102_46 _) rfl ?_
                refine i_iconst r_102_48 (n_102_48 _) ?_
                refine i_icmp (t := 62) r_102_49 (n_102_49 _) rfl (T_ne q13 ⟨by omega, by omega⟩) (fun c14 => ?_) (fun c14 => ?_)
                · replace h := h.1 c14
                  refine i_aload_n (a := 2) r_102_62 (n_102_62 _) rfl ?_
                  refine i_getR (a := 2) (b := 53) r_102_63 (n_102_63 _) rfl rfl rfl (by omega) lf_2 (by omega) ?_
                  refine i_aload_n (a := 2) r_102_66 (n_102_66 _) rfl ?_
                  refine i_getR (a := 2) (b := 34) r_102_67 (n_102_67 _) rfl rfl rfl (by omega) lf_2 (by omega) ?_
                  refine i_iload_n (x := x1) r_102_70 (n_102_70 _) rfl ?_
                  obtain ⟨g15, h⟩ := h
                  refine i_aaload (c := 4) (a := 34) (j := x1) (b := 62 + 11 * x1) r_102_71 (n_102_71 _) lf_34 ⟨by omega, by omega⟩ (by omega) (by omega) rfl (by omega) ?_
                  have t16 := e_4 (j := x1) lf_34 (by omega) (by omega)
                  rw [show 34 + 28 + 11 * x1 = 62 + 11 * x1 by omega] at t16
                  refine i_iload_n (x := x2) r_102_72 (n_102_72 _) rfl ?_
                  refine i_iload_n (x := x3) r_102_73 (n_102_73 _) rfl ?_
                  refine wp_virt (b := 53) (rest := []) (Ls := [(0, rf 53), (1, rf (62 + 11 * x1)), (2, iv x2), (3, iv x3)]) r_102_74 (n_102_74 _) rfl ⟨rfl, rfl, by decide, by decide⟩ rfl rfl lf_53 ⟨rfl, Nat.le_of_ble_eq_true rfl, Nat.le_of_ble_eq_true rfl⟩ rfl h ?_
                  intro o17 s17 h
                  rcases h with ⟨rfl, h⟩ | ⟨e17, rfl, h⟩
                  · refine .inl ⟨none, rfl, ?_⟩
                    refine i_aload_n (a := 2) r_102_77 (n_102_77 _) rfl ?_
                    refine i_aload_n (a := 2) r_102_78 (n_102_78 _) rfl ?_
                    refine i_getR (a := 2) (b := 53) r_102_79 (n_102_79 _) rfl rfl rfl (by omega) lf_2 (by omega) ?_
                    refine i_getI (a := 53) r_102_82 (n_102_82 _) rfl (by decide) lf_53 (fun q19 => ?_)
                    refine wp_virt (b := 2) (rest := []) (Ls := [(0, rf 2), (1, iv (zI s17 53 4))]) r_102_85 (n_102_85 _) rfl ⟨rfl, rfl, by decide, by decide⟩ rfl rfl lf_2 ⟨rfl, Nat.le_of_ble_eq_true rfl, Nat.le_of_ble_eq_true rfl⟩ rfl h ?_
                    intro o20 s20 h
                    rcases h with ⟨y20, q21, rfl, h⟩ | ⟨e20, rfl, h⟩
                    · refine .inl ⟨some (iv y20), rfl, ?_⟩
                      show wp S 102 88 [(0, rf 2), (1, iv x1), (2, iv x2), (3, iv x3), (4, iv x4), (5, iv y12)] [iv y20] s20 Q
                      refine i_istore (l' := [(0, rf 2), (1, iv x1), (2, iv x2), (3, iv x3), (4, iv x4), (5, iv y12), (6, iv y20)]) r_102_88 (n_102_88 _) (by decide) rfl ?_
                      refine i_iload (x := y20) r_102_90 (n_102_90 _) rfl ?_
                      refine i_iconst r_102_92 (n_102_92 _) ?_
                      refine i_icmp (t := 106) r_102_93 (n_102_93 _) rfl (T_ne q21 ⟨by omega, by omega⟩) (fun c22 => ?_) (fun c22 => ?_)
                      · replace h := h.1 c22
                        refine i_aload_n (a := 2) r_102_106 (n_102_106 _) rfl ?_
                        refine wp_virt (b := 2) (rest := []) (Ls := [(0, rf 2)]) r_102_107 (n_102_107 _) rfl ⟨rfl, rfl, by decide, by decide⟩ rfl rfl lf_2 ⟨rfl, Nat.le_of_ble_eq_true rfl, Nat.le_of_ble_eq_true rfl⟩ rfl h ?_
                        intro o23 s23 h
                        rcases h with ⟨rfl, h⟩ | ⟨e23, rfl, h⟩
                        · refine .inl ⟨none, rfl, ?_⟩
                          refine i_aload_n (a := 2) r_102_110 (n_102_110 _) rfl ?_
                          refine i_getR (a := 2) (b := 3) r_102_111 (n_102_111 _) rfl rfl rfl (by omega) lf_2 (by omega) ?_
                          refine i_getR (a := 3) (b := 5) r_102_114 (n_102_114 _) rfl rfl rfl (by omega) lf_3 (by omega) ?_
                          refine i_iload (x := y12) r_102_117 (n_102_117 _) rfl ?_
                          obtain ⟨g25, h⟩ := h
                          refine i_aaload (c := 6) (a := 5) (j := y12) (b := 31 + y12) r_102_119 (n_102_119 _) lf_5 ⟨by omega, by omega⟩ (by omega) (by omega) rfl (by omega) ?_
                          have t26 := e_6 (j := y12) lf_5 (by omega) (by omega)
                          rw [show 5 + 26 + 1 * y12 = 31 + y12 by omega] at t26
                          refine i_astore (l' := [(0, rf 2), (1, iv x1), (2, iv x2), (3, iv x3), (4, iv x4), (5, iv y12), (6, iv y20), (7, rf (31 + y12))]) r_102_120 (n_102_120 _) (by decide) rfl ?_
                          refine i_aload (a := 31 + y12) r_102_122 (n_102_122 _) rfl ?_
                          refine i_iconst r_102_124 (n_102_124 _) ?_
                          refine i_putI (a := 31 + y12) (x := 1) r_102_125 (n_102_125 _) rfl (.inr ⟨rfl, by decide⟩) rfl t26 ⟨by omega, by omega⟩ ?_
                          refine i_aload (a := 31 + y12) r_102_128 (n_102_128 _) rfl ?_
                          refine i_iload_n (x := x1) r_102_130 (n_102_130 _) rfl ?_
                          obtain ⟨g27, h⟩ := h
                          refine i_putI (a := 31 + y12) (x := x1) r_102_131 (n_102_131 _) rfl (.inl rfl) rfl t26 g27 ?_
                          refine i_aload (a := 31 + y12) r_102_134 (n_102_134 _) rfl ?_
                          refine i_iload_n (x := x2) r_102_136 (n_102_136 _) rfl ?_
                          refine i_putI (a := 31 + y12) (x := x2) r_102_137 (n_102_137 _) rfl (.inl rfl) rfl t26 g3 ?_
                          refine i_aload (a := 31 + y12) r_102_140 (n_102_140 _) rfl ?_
                          refine i_iload_n (x := x3) r_102_142 (n_102_142 _) rfl ?_
                          obtain ⟨g28, h⟩ := h
                          refine i_putI (a := 31 + y12) (x := x3) r_102_143 (n_102_143 _) rfl (.inl rfl) rfl t26 g28 ?_
                          refine i_aload (a := 31 + y12) r_102_146 (n_102_146 _) rfl ?_
                          refine i_iload (x := x4) r_102_148 (n_102_148 _) rfl ?_
                          obtain ⟨g29, h⟩ := h
                          refine i_putI (a := 31 + y12) (x := x4) r_102_150 (n_102_150 _) rfl (.inl rfl) rfl t26 g29 ?_
                          refine i_aload (a := 31 + y12) r_102_153 (n_102_153 _) rfl ?_
                          refine i_iload (x := y20) r_102_155 (n_102_155 _) rfl ?_
                          refine i_putI (a := 31 + y12) (x := y20) r_102_157 (n_102_157 _) rfl (.inl rfl) rfl t26 q21 ?_
                          refine i_aload (a := 31 + y12) r_102_160 (n_102_160 _) rfl ?_
                          refine i_aload_n (a := 2) r_102_162 (n_102_162 _) rfl ?_
                          refine i_getR (a := 2) (b := 53) r_102_163 (n_102_163 _) rfl rfl rfl (by omega) lf_2 (by omega) ?_
                          refine i_getI (a := 53) r_102_166 (n_102_166 _) rfl (by decide) lf_53 (fun q30 => ?_)
                          refine i_putI (a := 31 + y12) (x := zI (zwI (zwI (zwI (zwI (zwI (zwI s23 (31 + y12) 0 1) (31 + y12) 1 x1) (31 + y12) 2 x2) (31 + y12) 3 x3) (31 + y12) 4 x4) (31 + y12) 5 y20) 53 4) r_102_169 (n_102_169 _) rfl (.inl rfl) rfl t26 q30 ?_
                          refine i_aload_n (a := 2) r_102_172 (n_102_172 _) rfl ?_
                          refine i_iload (x := y20) r_102_173 (n_102_173 _) rfl ?_
                          refine i_aload_n (a := 2) r_102_175 (n_102_175 _) rfl ?_
                          refine i_getR (a := 2) (b := 53) r_102_176 (n_102_176 _) rfl rfl rfl (by omega) lf_2 (by omega) ?_
                          refine i_getI (a := 53) r_102_179 (n_102_179 _) rfl (by decide) lf_53 (fun q31 => ?_)
                          refine wp_virt (b := 2) (rest := []) (Ls := [(0, rf 2), (1, iv y20), (2, iv (zI (zwI (zwI (zwI (zwI (zwI (zwI (zwI s23 (31 + y12) 0 1) (31 + y12) 1 x1) (31 + y12) 2 x2) (31 + y12) 3 x3) (31 + y12) 4 x4) (31 + y12) 5 y20) (31 + y12) 6 (zI (zwI (zwI (zwI (zwI (zwI (zwI s23 (31 + y12) 0 1) (31 + y12) 1 x1) (31 + y12) 2 x2) (31 + y12) 3 x3) (31 + y12) 4 x4) (31 + y12) 5 y20) 53 4)) 53 4))]) r_102_182 (n_102_182 _) rfl ⟨rfl, rfl, by decide, by decide⟩ rfl rfl lf_2 ⟨rfl, Nat.le_of_ble_eq_true rfl, Nat.le_of_ble_eq_true rfl⟩ rfl h ?_
                          intro o32 s32 h
                          rcases h with ⟨rfl, h⟩ | ⟨e32, rfl, h⟩
                          · refine .inl ⟨none, rfl, ?_⟩
                            refine i_iload (x := y12) r_102_185 (n_102_185 _) rfl ?_
                            exact i_ireturn r_102_187 (n_102_187 _) rfl h
                          · skip
                            exact h.elim
                        · skip
                          exact h.elim
                      · replace h := h.2 c22
                        exact i_throw r_102_96 (n_102_96 _) rfl (by decide) h
                    · skip
                      exact h.elim
                  · skip
                    exact h.elim
                · replace h := h.2 c14
                  exact i_throw r_102_52 (n_102_52 _) rfl (by decide) h
              · skip
                exact h.elim
            · skip
              exact .inr ⟨e10, rfl, .inl ⟨rfl, h⟩⟩
          · skip
            exact .inr ⟨e8, rfl, rfl, .inl ⟨rfl, h⟩⟩
        · skip
          exact .inr ⟨e6, rfl, rfl, .inl ⟨rfl, h⟩⟩
      · replace h := h.2 c5
        exact i_throw r_102_16 (n_102_16 _) rfl (by decide) h
  · skip
    exact .inr ⟨e1, rfl, .inl ⟨rfl, h⟩⟩
theorem r_103_0 : xfetch 103 0 = some (.iload_n 0, 1) := by decide +kernel
theorem n_103_0 : ∀ l, xpr 103 0 l = l := xpr_no (by decide +kernel)
theorem r_103_1 : xfetch 103 1 = some (.ifCond .lt 9, 3) := by decide +kernel
theorem n_103_1 : ∀ l, xpr 103 1 l = l := xpr_no (by decide +kernel)
theorem r_103_4 : xfetch 103 4 = some (.iload_n 0, 1) := by decide +kernel
theorem n_103_4 : ∀ l, xpr 103 4 l = l := xpr_no (by decide +kernel)
theorem r_103_5 : xfetch 103 5 = some (.bipush 8, 2) := by decide +kernel
theorem n_103_5 : ∀ l, xpr 103 5 l = l := xpr_no (by decide +kernel)
theorem r_103_7 : xfetch 103 7 = some (.if_icmp .le 14, 3) := by decide +kernel
theorem n_103_7 : ∀ l, xpr 103 7 l = l := xpr_no (by decide +kernel)
theorem r_103_10 : xfetch 103 10 = some (.new 102, 3) := by decide +kernel
theorem n_103_10 : ∀ l, xpr 103 10 l = l := xpr_no (by decide +kernel)
theorem r_103_21 : xfetch 103 21 = some (.return_, 1) := by decide +kernel
theorem n_103_21 : ∀ l, xpr 103 21 l = l := xpr_no (by decide +kernel)
theorem v_RL_checkLayout_0 {S : Option (Nat × (Nat → Int32))} {s : zSt} {Q : Option Value ⊕ Nat → zSt → Prop} {x0 : Int} 
    (h : rng x0 ∧ ((x0 < 0 → Q (rT 0) (zbump s)) ∧ (0 ≤ x0 → (x0 ≤ 8 → Q rU s) ∧ (8 < x0 → Q (rT 0) (zbump s))))) :
    wp S 103 0 [(0, iv x0)] [] s Q := by
  refine i_iload_n (x := x0) r_103_0 (n_103_0 _) rfl ?_
  obtain ⟨g1, h⟩ := h
  refine i_if (t := 10) r_103_1 (n_103_1 _) rfl (T_lt g1 ⟨by omega, by omega⟩) (fun c2 => ?_) (fun c2 => ?_)
  · replace h := h.1 c2
    exact i_throw r_103_10 (n_103_10 _) rfl (by decide) h
  · replace h := h.2 c2
    refine i_iload_n (x := x0) r_103_4 (n_103_4 _) rfl ?_
    refine i_bipush r_103_5 (n_103_5 _) rfl ?_
    refine i_icmp (t := 21) r_103_7 (n_103_7 _) rfl (T_le g1 ⟨by omega, by omega⟩) (fun c3 => ?_) (fun c3 => ?_)
    · replace h := h.1 c3
      exact i_return r_103_21 (n_103_21 _) rfl h
    · replace h := h.2 c3
      exact i_throw r_103_10 (n_103_10 _) rfl (by decide) h
theorem r_104_0 : xfetch 104 0 = some (.iload_n 0, 1) := by decide +kernel
theorem n_104_0 : ∀ l, xpr 104 0 l = l := xpr_no (by decide +kernel)
theorem r_104_1 : xfetch 104 1 = some (.ifCond .lt 8, 3) := by decide +kernel
theorem n_104_1 : ∀ l, xpr 104 1 l = l := xpr_no (by decide +kernel)
theorem r_104_4 : xfetch 104 4 = some (.iload_n 0, 1) := by decide +kernel
theorem n_104_4 : ∀ l, xpr 104 4 l = l := xpr_no (by decide +kernel)
theorem r_104_5 : xfetch 104 5 = some (.iconst 1, 1) := by decide +kernel
theorem n_104_5 : ∀ l, xpr 104 5 l = l := xpr_no (by decide +kernel)
theorem r_104_6 : xfetch 104 6 = some (.if_icmp .le 14, 3) := by decide +kernel
theorem n_104_6 : ∀ l, xpr 104 6 l = l := xpr_no (by decide +kernel)
theorem r_104_9 : xfetch 104 9 = some (.new 102, 3) := by decide +kernel
theorem n_104_9 : ∀ l, xpr 104 9 l = l := xpr_no (by decide +kernel)
theorem r_104_20 : xfetch 104 20 = some (.return_, 1) := by decide +kernel
theorem n_104_20 : ∀ l, xpr 104 20 l = l := xpr_no (by decide +kernel)
theorem v_RL_checkOrder_0 {S : Option (Nat × (Nat → Int32))} {s : zSt} {Q : Option Value ⊕ Nat → zSt → Prop} {x0 : Int} 
    (h : rng x0 ∧ ((x0 < 0 → Q (rT 0) (zbump s)) ∧ (0 ≤ x0 → (x0 ≤ 1 → Q rU s) ∧ (1 < x0 → Q (rT 0) (zbump s))))) :
    wp S 104 0 [(0, iv x0)] [] s Q := by
  refine i_iload_n (x := x0) r_104_0 (n_104_0 _) rfl ?_
  obtain ⟨g1, h⟩ := h
  refine i_if (t := 9) r_104_1 (n_104_1 _) rfl (T_lt g1 ⟨by omega, by omega⟩) (fun c2 => ?_) (fun c2 => ?_)
  · replace h := h.1 c2
    exact i_throw r_104_9 (n_104_9 _) rfl (by decide) h
  · replace h := h.2 c2
    refine i_iload_n (x := x0) r_104_4 (n_104_4 _) rfl ?_
    refine i_iconst r_104_5 (n_104_5 _) ?_
    refine i_icmp (t := 20) r_104_6 (n_104_6 _) rfl (T_le g1 ⟨by omega, by omega⟩) (fun c3 => ?_) (fun c3 => ?_)
    · replace h := h.1 c3
      exact i_return r_104_20 (n_104_20 _) rfl h
    · replace h := h.2 c3
      exact i_throw r_104_9 (n_104_9 _) rfl (by decide) h
theorem r_105_0 : xfetch 105 0 = some (.aload_n 0, 1) := by decide +kernel
theorem n_105_0 : ∀ l, xpr 105 0 l = l := xpr_no (by decide +kernel)
theorem r_105_1 : xfetch 105 1 = some (.getfield 10, 3) := by decide +kernel
theorem n_105_1 : ∀ l, xpr 105 1 l = l := xpr_no (by decide +kernel)
theorem r_105_4 : xfetch 105 4 = some (.getfield 83, 3) := by decide +kernel
theorem n_105_4 : ∀ l, xpr 105 4 l = l := xpr_no (by decide +kernel)
theorem r_105_7 : xfetch 105 7 = some (.iload_n 1, 1) := by decide +kernel
theorem n_105_7 : ∀ l, xpr 105 7 l = l := xpr_no (by decide +kernel)
theorem r_105_8 : xfetch 105 8 = some (.aaload, 1) := by decide +kernel
theorem n_105_8 : ∀ l, xpr 105 8 l = l := xpr_no (by decide +kernel)
theorem r_105_9 : xfetch 105 9 = some (.getfield 133, 3) := by decide +kernel
theorem n_105_9 : ∀ l, xpr 105 9 l = l := xpr_no (by decide +kernel)
theorem r_105_12 : xfetch 105 12 = some (.iconst 1, 1) := by decide +kernel
theorem n_105_12 : ∀ l, xpr 105 12 l = l := xpr_no (by decide +kernel)
theorem r_105_13 : xfetch 105 13 = some (.if_icmp .ge 14, 3) := by decide +kernel
theorem n_105_13 : ∀ l, xpr 105 13 l = l := xpr_no (by decide +kernel)
theorem r_105_16 : xfetch 105 16 = some (.new 137, 3) := by decide +kernel
theorem n_105_16 : ∀ l, xpr 105 16 l = l := xpr_no (by decide +kernel)
theorem r_105_27 : xfetch 105 27 = some (.return_, 1) := by decide +kernel
theorem n_105_27 : ∀ l, xpr 105 27 l = l := xpr_no (by decide +kernel)
theorem v_RL_checkHasFields_0 {S : Option (Nat × (Nat → Int32))} {s : zSt} {Q : Option Value ⊕ Nat → zSt → Prop} {x1 : Int} 
    (h : (0 ≤ x1 ∧ x1 < 6) ∧ ((1 ≤ (zI s (7 + 4 * x1) 1) → Q rU s) ∧ ((zI s (7 + 4 * x1) 1) < 1 → Q (rT 1) (zbump s)))) :
    wp S 105 0 [(0, rf 2), (1, iv x1)] [] s Q := by
  refine i_aload_n (a := 2) r_105_0 (n_105_0 _) rfl ?_
  refine i_getR (a := 2) (b := 3) r_105_1 (n_105_1 _) rfl rfl rfl (by omega) lf_2 (by omega) ?_
  refine i_getR (a := 3) (b := 4) r_105_4 (n_105_4 _) rfl rfl rfl (by omega) lf_3 (by omega) ?_
  refine i_iload_n (x := x1) r_105_7 (n_105_7 _) rfl ?_
  obtain ⟨g1, h⟩ := h
  refine i_aaload (c := 1) (a := 4) (j := x1) (b := 7 + 4 * x1) r_105_8 (n_105_8 _) lf_4 ⟨by omega, by omega⟩ (by omega) (by omega) rfl (by omega) ?_
  have t2 := e_1 (j := x1) lf_4 (by omega) (by omega)
  rw [show 4 + 3 + 4 * x1 = 7 + 4 * x1 by omega] at t2
  refine i_getI (a := 7 + 4 * x1) r_105_9 (n_105_9 _) rfl (by decide) t2 (fun q3 => ?_)
  refine i_iconst r_105_12 (n_105_12 _) ?_
  refine i_icmp (t := 27) r_105_13 (n_105_13 _) rfl (T_ge q3 ⟨by omega, by omega⟩) (fun c4 => ?_) (fun c4 => ?_)
  · replace h := h.1 c4
    exact i_return r_105_27 (n_105_27 _) rfl h
  · replace h := h.2 c4
    exact i_throw r_105_16 (n_105_16 _) rfl (by decide) h
theorem r_106_0 : xfetch 106 0 = some (.iconst 0, 1) := by decide +kernel
theorem n_106_0 : ∀ l, xpr 106 0 l = l := xpr_no (by decide +kernel)
theorem r_106_1 : xfetch 106 1 = some (.istore_n 1, 1) := by decide +kernel
theorem n_106_1 : ∀ l, xpr 106 1 l = l := xpr_no (by decide +kernel)
theorem r_106_2 : xfetch 106 2 = some (.iload_n 1, 1) := by decide +kernel
theorem r_106_3 : xfetch 106 3 = some (.iconst 3, 1) := by decide +kernel
theorem n_106_3 : ∀ l, xpr 106 3 l = l := xpr_no (by decide +kernel)
theorem r_106_4 : xfetch 106 4 = some (.if_icmp .ge 26, 3) := by decide +kernel
theorem n_106_4 : ∀ l, xpr 106 4 l = l := xpr_no (by decide +kernel)
theorem r_106_7 : xfetch 106 7 = some (.aload_n 0, 1) := by decide +kernel
theorem n_106_7 : ∀ l, xpr 106 7 l = l := xpr_no (by decide +kernel)
theorem r_106_8 : xfetch 106 8 = some (.getfield 10, 3) := by decide +kernel
theorem n_106_8 : ∀ l, xpr 106 8 l = l := xpr_no (by decide +kernel)
theorem r_106_11 : xfetch 106 11 = some (.getfield 256, 3) := by decide +kernel
theorem n_106_11 : ∀ l, xpr 106 11 l = l := xpr_no (by decide +kernel)
theorem r_106_14 : xfetch 106 14 = some (.iload_n 1, 1) := by decide +kernel
theorem n_106_14 : ∀ l, xpr 106 14 l = l := xpr_no (by decide +kernel)
theorem r_106_15 : xfetch 106 15 = some (.aaload, 1) := by decide +kernel
theorem n_106_15 : ∀ l, xpr 106 15 l = l := xpr_no (by decide +kernel)
theorem r_106_16 : xfetch 106 16 = some (.getfield 260, 3) := by decide +kernel
theorem n_106_16 : ∀ l, xpr 106 16 l = l := xpr_no (by decide +kernel)
theorem r_106_19 : xfetch 106 19 = some (.ifCond .ne 5, 3) := by decide +kernel
theorem n_106_19 : ∀ l, xpr 106 19 l = l := xpr_no (by decide +kernel)
theorem r_106_22 : xfetch 106 22 = some (.iload_n 1, 1) := by decide +kernel
theorem n_106_22 : ∀ l, xpr 106 22 l = l := xpr_no (by decide +kernel)
theorem r_106_23 : xfetch 106 23 = some (.ireturn, 1) := by decide +kernel
theorem n_106_23 : ∀ l, xpr 106 23 l = l := xpr_no (by decide +kernel)
theorem r_106_24 : xfetch 106 24 = some (.iinc 1 1, 3) := by decide +kernel
theorem n_106_24 : ∀ l, xpr 106 24 l = l := xpr_no (by decide +kernel)
theorem r_106_27 : xfetch 106 27 = some (.goto (-25), 3) := by decide +kernel
theorem n_106_27 : ∀ l, xpr 106 27 l = l := xpr_no (by decide +kernel)
theorem r_106_30 : xfetch 106 30 = some (.iconst (-1), 1) := by decide +kernel
theorem n_106_30 : ∀ l, xpr 106 30 l = l := xpr_no (by decide +kernel)
theorem r_106_31 : xfetch 106 31 = some (.ireturn, 1) := by decide +kernel
theorem n_106_31 : ∀ l, xpr 106 31 l = l := xpr_no (by decide +kernel)
theorem v_RL_firstFreeTable_0 {S : Option (Nat × (Nat → Int32))} {s : zSt} {Q : Option Value ⊕ Nat → zSt → Prop}  
    (h : wp S 106 2 [(0, rf 2), (1, iv 0)] [] s Q) :
    wp S 106 0 [(0, rf 2)] [] s Q := by
  refine i_iconst r_106_0 (n_106_0 _) ?_
  refine i_istore_n (l' := [(0, rf 2), (1, iv 0)]) r_106_1 (n_106_1 _) (by decide) rfl ?_
  exact wp_pr (l' := [(0, rf 2), (1, iv 0)]) rfl h
theorem v_RL_firstFreeTable_2 {S : Option (Nat × (Nat → Int32))} {s : zSt} {Q : Option Value ⊕ Nat → zSt → Prop} {x1 : Int} 
    (h : rng x1 ∧ ((3 ≤ x1 → Q (rI (-1)) s) ∧ (x1 < 3 → (0 ≤ x1 ∧ x1 < 3) ∧ (((zI s (31 + x1) 0) ≠ 0 → wp S 106 2 [(0, rf 2), (1, iv (x1 + 1))] [] s Q) ∧ ((zI s (31 + x1) 0) = 0 → Q (rI x1) s))))) :
    wp S 106 2 [(0, rf 2), (1, iv x1)] [] s Q := by
  refine i_iload_n (x := x1) r_106_2 rfl rfl ?_
  refine i_iconst r_106_3 (n_106_3 _) ?_
  obtain ⟨g1, h⟩ := h
  refine i_icmp (t := 30) r_106_4 (n_106_4 _) rfl (T_ge g1 ⟨by omega, by omega⟩) (fun c2 => ?_) (fun c2 => ?_)
  · replace h := h.1 c2
    refine i_iconst r_106_30 (n_106_30 _) ?_
    exact i_ireturn r_106_31 (n_106_31 _) rfl h
  · replace h := h.2 c2
    refine i_aload_n (a := 2) r_106_7 (n_106_7 _) rfl ?_
    refine i_getR (a := 2) (b := 3) r_106_8 (n_106_8 _) rfl rfl rfl (by omega) lf_2 (by omega) ?_
    refine i_getR (a := 3) (b := 5) r_106_11 (n_106_11 _) rfl rfl rfl (by omega) lf_3 (by omega) ?_
    refine i_iload_n (x := x1) r_106_14 (n_106_14 _) rfl ?_
    obtain ⟨g3, h⟩ := h
    refine i_aaload (c := 6) (a := 5) (j := x1) (b := 31 + x1) r_106_15 (n_106_15 _) lf_5 ⟨by omega, by omega⟩ (by omega) (by omega) rfl (by omega) ?_
    have t4 := e_6 (j := x1) lf_5 (by omega) (by omega)
    rw [show 5 + 26 + 1 * x1 = 31 + x1 by omega] at t4
    refine i_getI (a := 31 + x1) r_106_16 (n_106_16 _) rfl (by decide) t4 (fun q5 => ?_)
    refine i_if (t := 24) r_106_19 (n_106_19 _) rfl (T_ne q5 ⟨by omega, by omega⟩) (fun c6 => ?_) (fun c6 => ?_)
    · replace h := h.1 c6
      refine i_iinc (x := x1) (l' := [(0, rf 2), (1, iv (x1 + 1))]) r_106_24 (n_106_24 _) (by decide) rfl rfl ?_
      refine i_goto (t := 2) r_106_27 (n_106_27 _) rfl ?_
      exact wp_pr (l' := [(0, rf 2), (1, iv (x1 + 1))]) rfl h
    · replace h := h.2 c6
      refine i_iload_n (x := x1) r_106_22 (n_106_22 _) rfl ?_
      exact i_ireturn r_106_23 (n_106_23 _) rfl h
theorem r_107_0 : xfetch 107 0 = some (.aload_n 0, 1) := by decide +kernel
theorem n_107_0 : ∀ l, xpr 107 0 l = l := xpr_no (by decide +kernel)
theorem r_107_1 : xfetch 107 1 = some (.iload_n 2, 1) := by decide +kernel
theorem n_107_1 : ∀ l, xpr 107 1 l = l := xpr_no (by decide +kernel)
theorem r_107_2 : xfetch 107 2 = some (.putfield 28, 3) := by decide +kernel
theorem n_107_2 : ∀ l, xpr 107 2 l = l := xpr_no (by decide +kernel)
theorem r_107_5 : xfetch 107 5 = some (.aload_n 0, 1) := by decide +kernel
theorem n_107_5 : ∀ l, xpr 107 5 l = l := xpr_no (by decide +kernel)
theorem r_107_6 : xfetch 107 6 = some (.aload_n 1, 1) := by decide +kernel
theorem n_107_6 : ∀ l, xpr 107 6 l = l := xpr_no (by decide +kernel)
theorem r_107_7 : xfetch 107 7 = some (.getfield 31, 3) := by decide +kernel
theorem n_107_7 : ∀ l, xpr 107 7 l = l := xpr_no (by decide +kernel)
theorem r_107_10 : xfetch 107 10 = some (.getfield 37, 3) := by decide +kernel
theorem n_107_10 : ∀ l, xpr 107 10 l = l := xpr_no (by decide +kernel)
theorem r_107_13 : xfetch 107 13 = some (.putfield 42, 3) := by decide +kernel
theorem n_107_13 : ∀ l, xpr 107 13 l = l := xpr_no (by decide +kernel)
theorem r_107_16 : xfetch 107 16 = some (.aload_n 0, 1) := by decide +kernel
theorem n_107_16 : ∀ l, xpr 107 16 l = l := xpr_no (by decide +kernel)
theorem r_107_17 : xfetch 107 17 = some (.iload_n 3, 1) := by decide +kernel
theorem n_107_17 : ∀ l, xpr 107 17 l = l := xpr_no (by decide +kernel)
theorem r_107_18 : xfetch 107 18 = some (.ifCond .ne 7, 3) := by decide +kernel
theorem n_107_18 : ∀ l, xpr 107 18 l = l := xpr_no (by decide +kernel)
theorem r_107_21 : xfetch 107 21 = some (.iconst 1, 1) := by decide +kernel
theorem n_107_21 : ∀ l, xpr 107 21 l = l := xpr_no (by decide +kernel)
theorem r_107_22 : xfetch 107 22 = some (.goto 17, 3) := by decide +kernel
theorem n_107_22 : ∀ l, xpr 107 22 l = l := xpr_no (by decide +kernel)
theorem r_107_25 : xfetch 107 25 = some (.iload_n 3, 1) := by decide +kernel
theorem n_107_25 : ∀ l, xpr 107 25 l = l := xpr_no (by decide +kernel)
theorem r_107_26 : xfetch 107 26 = some (.iconst 1, 1) := by decide +kernel
theorem n_107_26 : ∀ l, xpr 107 26 l = l := xpr_no (by decide +kernel)
theorem r_107_27 : xfetch 107 27 = some (.if_icmp .ne 11, 3) := by decide +kernel
theorem n_107_27 : ∀ l, xpr 107 27 l = l := xpr_no (by decide +kernel)
theorem r_107_30 : xfetch 107 30 = some (.iload_n 2, 1) := by decide +kernel
theorem n_107_30 : ∀ l, xpr 107 30 l = l := xpr_no (by decide +kernel)
theorem r_107_31 : xfetch 107 31 = some (.iconst 1, 1) := by decide +kernel
theorem n_107_31 : ∀ l, xpr 107 31 l = l := xpr_no (by decide +kernel)
theorem r_107_32 : xfetch 107 32 = some (.invokestatic 44, 3) := by decide +kernel
theorem n_107_32 : ∀ l, xpr 107 32 l = l := xpr_no (by decide +kernel)
theorem r_107_35 : xfetch 107 35 = some (.goto 4, 3) := by decide +kernel
theorem n_107_35 : ∀ l, xpr 107 35 l = l := xpr_no (by decide +kernel)
theorem r_107_38 : xfetch 107 38 = some (.iload_n 3, 1) := by decide +kernel
theorem n_107_38 : ∀ l, xpr 107 38 l = l := xpr_no (by decide +kernel)
theorem r_107_39 : xfetch 107 39 = some (.putfield 9, 3) := by decide +kernel
theorem n_107_39 : ∀ l, xpr 107 39 l = l := xpr_no (by decide +kernel)
theorem r_107_42 : xfetch 107 42 = some (.iconst 0, 1) := by decide +kernel
theorem n_107_42 : ∀ l, xpr 107 42 l = l := xpr_no (by decide +kernel)
theorem r_107_43 : xfetch 107 43 = some (.istore 4, 2) := by decide +kernel
theorem n_107_43 : ∀ l, xpr 107 43 l = l := xpr_no (by decide +kernel)
theorem r_107_45 : xfetch 107 45 = some (.iconst 0, 1) := by decide +kernel
theorem n_107_45 : ∀ l, xpr 107 45 l = l := xpr_no (by decide +kernel)
theorem r_107_46 : xfetch 107 46 = some (.istore 5, 2) := by decide +kernel
theorem n_107_46 : ∀ l, xpr 107 46 l = l := xpr_no (by decide +kernel)
theorem r_107_48 : xfetch 107 48 = some (.iload 5, 2) := by decide +kernel
theorem r_107_50 : xfetch 107 50 = some (.aload_n 0, 1) := by decide +kernel
theorem n_107_50 : ∀ l, xpr 107 50 l = l := xpr_no (by decide +kernel)
theorem r_107_51 : xfetch 107 51 = some (.getfield 42, 3) := by decide +kernel
theorem n_107_51 : ∀ l, xpr 107 51 l = l := xpr_no (by decide +kernel)
theorem r_107_54 : xfetch 107 54 = some (.if_icmp .ge 126, 3) := by decide +kernel
theorem n_107_54 : ∀ l, xpr 107 54 l = l := xpr_no (by decide +kernel)
theorem r_107_57 : xfetch 107 57 = some (.aload_n 0, 1) := by decide +kernel
theorem n_107_57 : ∀ l, xpr 107 57 l = l := xpr_no (by decide +kernel)
theorem r_107_58 : xfetch 107 58 = some (.getfield 15, 3) := by decide +kernel
theorem n_107_58 : ∀ l, xpr 107 58 l = l := xpr_no (by decide +kernel)
theorem r_107_61 : xfetch 107 61 = some (.iload 5, 2) := by decide +kernel
theorem n_107_61 : ∀ l, xpr 107 61 l = l := xpr_no (by decide +kernel)
theorem r_107_63 : xfetch 107 63 = some (.aload_n 1, 1) := by decide +kernel
theorem n_107_63 : ∀ l, xpr 107 63 l = l := xpr_no (by decide +kernel)
theorem r_107_64 : xfetch 107 64 = some (.getfield 31, 3) := by decide +kernel
theorem n_107_64 : ∀ l, xpr 107 64 l = l := xpr_no (by decide +kernel)
theorem r_107_67 : xfetch 107 67 = some (.getfield 50, 3) := by decide +kernel
theorem n_107_67 : ∀ l, xpr 107 67 l = l := xpr_no (by decide +kernel)
theorem r_107_70 : xfetch 107 70 = some (.iload 5, 2) := by decide +kernel
theorem n_107_70 : ∀ l, xpr 107 70 l = l := xpr_no (by decide +kernel)
theorem r_107_72 : xfetch 107 72 = some (.iaload, 1) := by decide +kernel
theorem n_107_72 : ∀ l, xpr 107 72 l = l := xpr_no (by decide +kernel)
theorem r_107_73 : xfetch 107 73 = some (.iastore, 1) := by decide +kernel
theorem n_107_73 : ∀ l, xpr 107 73 l = l := xpr_no (by decide +kernel)
theorem r_107_74 : xfetch 107 74 = some (.aload_n 0, 1) := by decide +kernel
theorem n_107_74 : ∀ l, xpr 107 74 l = l := xpr_no (by decide +kernel)
theorem r_107_75 : xfetch 107 75 = some (.getfield 22, 3) := by decide +kernel
theorem n_107_75 : ∀ l, xpr 107 75 l = l := xpr_no (by decide +kernel)
theorem r_107_78 : xfetch 107 78 = some (.iload 5, 2) := by decide +kernel
theorem n_107_78 : ∀ l, xpr 107 78 l = l := xpr_no (by decide +kernel)
theorem r_107_80 : xfetch 107 80 = some (.aload_n 0, 1) := by decide +kernel
theorem n_107_80 : ∀ l, xpr 107 80 l = l := xpr_no (by decide +kernel)
theorem r_107_81 : xfetch 107 81 = some (.getfield 15, 3) := by decide +kernel
theorem n_107_81 : ∀ l, xpr 107 81 l = l := xpr_no (by decide +kernel)
theorem r_107_84 : xfetch 107 84 = some (.iload 5, 2) := by decide +kernel
theorem n_107_84 : ∀ l, xpr 107 84 l = l := xpr_no (by decide +kernel)
theorem r_107_86 : xfetch 107 86 = some (.iaload, 1) := by decide +kernel
theorem n_107_86 : ∀ l, xpr 107 86 l = l := xpr_no (by decide +kernel)
theorem r_107_87 : xfetch 107 87 = some (.invokestatic 51, 3) := by decide +kernel
theorem n_107_87 : ∀ l, xpr 107 87 l = l := xpr_no (by decide +kernel)
theorem r_107_90 : xfetch 107 90 = some (.iastore, 1) := by decide +kernel
theorem n_107_90 : ∀ l, xpr 107 90 l = l := xpr_no (by decide +kernel)
theorem r_107_91 : xfetch 107 91 = some (.aload_n 0, 1) := by decide +kernel
theorem n_107_91 : ∀ l, xpr 107 91 l = l := xpr_no (by decide +kernel)
theorem r_107_92 : xfetch 107 92 = some (.getfield 19, 3) := by decide +kernel
theorem n_107_92 : ∀ l, xpr 107 92 l = l := xpr_no (by decide +kernel)
theorem r_107_95 : xfetch 107 95 = some (.iload 5, 2) := by decide +kernel
theorem n_107_95 : ∀ l, xpr 107 95 l = l := xpr_no (by decide +kernel)
theorem r_107_97 : xfetch 107 97 = some (.iload_n 3, 1) := by decide +kernel
theorem n_107_97 : ∀ l, xpr 107 97 l = l := xpr_no (by decide +kernel)
theorem r_107_98 : xfetch 107 98 = some (.ifCond .ne 16, 3) := by decide +kernel
theorem n_107_98 : ∀ l, xpr 107 98 l = l := xpr_no (by decide +kernel)
theorem r_107_101 : xfetch 107 101 = some (.aload_n 1, 1) := by decide +kernel
theorem n_107_101 : ∀ l, xpr 107 101 l = l := xpr_no (by decide +kernel)
theorem r_107_102 : xfetch 107 102 = some (.getfield 31, 3) := by decide +kernel
theorem n_107_102 : ∀ l, xpr 107 102 l = l := xpr_no (by decide +kernel)
theorem r_107_105 : xfetch 107 105 = some (.getfield 55, 3) := by decide +kernel
theorem n_107_105 : ∀ l, xpr 107 105 l = l := xpr_no (by decide +kernel)
theorem r_107_108 : xfetch 107 108 = some (.iload 5, 2) := by decide +kernel
theorem n_107_108 : ∀ l, xpr 107 108 l = l := xpr_no (by decide +kernel)
theorem r_107_110 : xfetch 107 110 = some (.iaload, 1) := by decide +kernel
theorem n_107_110 : ∀ l, xpr 107 110 l = l := xpr_no (by decide +kernel)
theorem r_107_111 : xfetch 107 111 = some (.goto 15, 3) := by decide +kernel
theorem n_107_111 : ∀ l, xpr 107 111 l = l := xpr_no (by decide +kernel)
theorem r_107_114 : xfetch 107 114 = some (.iload 4, 2) := by decide +kernel
theorem n_107_114 : ∀ l, xpr 107 114 l = l := xpr_no (by decide +kernel)
theorem r_107_116 : xfetch 107 116 = some (.aload_n 0, 1) := by decide +kernel
theorem n_107_116 : ∀ l, xpr 107 116 l = l := xpr_no (by decide +kernel)
theorem r_107_117 : xfetch 107 117 = some (.getfield 22, 3) := by decide +kernel
theorem n_107_117 : ∀ l, xpr 107 117 l = l := xpr_no (by decide +kernel)
theorem r_107_120 : xfetch 107 120 = some (.iload 5, 2) := by decide +kernel
theorem n_107_120 : ∀ l, xpr 107 120 l = l := xpr_no (by decide +kernel)
theorem r_107_122 : xfetch 107 122 = some (.iaload, 1) := by decide +kernel
theorem n_107_122 : ∀ l, xpr 107 122 l = l := xpr_no (by decide +kernel)
theorem r_107_123 : xfetch 107 123 = some (.invokestatic 58, 3) := by decide +kernel
theorem n_107_123 : ∀ l, xpr 107 123 l = l := xpr_no (by decide +kernel)
theorem r_107_126 : xfetch 107 126 = some (.iastore, 1) := by decide +kernel
theorem n_107_126 : ∀ l, xpr 107 126 l = l := xpr_no (by decide +kernel)
theorem r_107_127 : xfetch 107 127 = some (.aload_n 0, 1) := by decide +kernel
theorem n_107_127 : ∀ l, xpr 107 127 l = l := xpr_no (by decide +kernel)
theorem r_107_128 : xfetch 107 128 = some (.getfield 25, 3) := by decide +kernel
theorem n_107_128 : ∀ l, xpr 107 128 l = l := xpr_no (by decide +kernel)
theorem r_107_131 : xfetch 107 131 = some (.iload 5, 2) := by decide +kernel
theorem n_107_131 : ∀ l, xpr 107 131 l = l := xpr_no (by decide +kernel)
theorem r_107_133 : xfetch 107 133 = some (.iload_n 3, 1) := by decide +kernel
theorem n_107_133 : ∀ l, xpr 107 133 l = l := xpr_no (by decide +kernel)
theorem r_107_134 : xfetch 107 134 = some (.ifCond .ne 16, 3) := by decide +kernel
theorem n_107_134 : ∀ l, xpr 107 134 l = l := xpr_no (by decide +kernel)
theorem r_107_137 : xfetch 107 137 = some (.aload_n 1, 1) := by decide +kernel
theorem n_107_137 : ∀ l, xpr 107 137 l = l := xpr_no (by decide +kernel)
theorem r_107_138 : xfetch 107 138 = some (.getfield 31, 3) := by decide +kernel
theorem n_107_138 : ∀ l, xpr 107 138 l = l := xpr_no (by decide +kernel)
theorem r_107_141 : xfetch 107 141 = some (.getfield 61, 3) := by decide +kernel
theorem n_107_141 : ∀ l, xpr 107 141 l = l := xpr_no (by decide +kernel)
theorem r_107_144 : xfetch 107 144 = some (.iload 5, 2) := by decide +kernel
theorem n_107_144 : ∀ l, xpr 107 144 l = l := xpr_no (by decide +kernel)
theorem r_107_146 : xfetch 107 146 = some (.iaload, 1) := by decide +kernel
theorem n_107_146 : ∀ l, xpr 107 146 l = l := xpr_no (by decide +kernel)
theorem r_107_147 : xfetch 107 147 = some (.goto 4, 3) := by decide +kernel
theorem n_107_147 : ∀ l, xpr 107 147 l = l := xpr_no (by decide +kernel)
theorem r_107_150 : xfetch 107 150 = some (.iconst 0, 1) := by decide +kernel
theorem n_107_150 : ∀ l, xpr 107 150 l = l := xpr_no (by decide +kernel)
theorem r_107_151 : xfetch 107 151 = some (.iastore, 1) := by decide +kernel
theorem n_107_151 : ∀ l, xpr 107 151 l = l := xpr_no (by decide +kernel)
theorem r_107_152 : xfetch 107 152 = some (.aload_n 0, 1) := by decide +kernel
theorem n_107_152 : ∀ l, xpr 107 152 l = l := xpr_no (by decide +kernel)
theorem r_107_153 : xfetch 107 153 = some (.getfield 19, 3) := by decide +kernel
theorem n_107_153 : ∀ l, xpr 107 153 l = l := xpr_no (by decide +kernel)
theorem r_107_156 : xfetch 107 156 = some (.iload 5, 2) := by decide +kernel
theorem n_107_156 : ∀ l, xpr 107 156 l = l := xpr_no (by decide +kernel)
theorem r_107_158 : xfetch 107 158 = some (.iaload, 1) := by decide +kernel
theorem n_107_158 : ∀ l, xpr 107 158 l = l := xpr_no (by decide +kernel)
theorem r_107_159 : xfetch 107 159 = some (.aload_n 0, 1) := by decide +kernel
theorem n_107_159 : ∀ l, xpr 107 159 l = l := xpr_no (by decide +kernel)
theorem r_107_160 : xfetch 107 160 = some (.getfield 9, 3) := by decide +kernel
theorem n_107_160 : ∀ l, xpr 107 160 l = l := xpr_no (by decide +kernel)
theorem r_107_163 : xfetch 107 163 = some (.aload_n 0, 1) := by decide +kernel
theorem n_107_163 : ∀ l, xpr 107 163 l = l := xpr_no (by decide +kernel)
theorem r_107_164 : xfetch 107 164 = some (.getfield 22, 3) := by decide +kernel
theorem n_107_164 : ∀ l, xpr 107 164 l = l := xpr_no (by decide +kernel)
theorem r_107_167 : xfetch 107 167 = some (.iload 5, 2) := by decide +kernel
theorem n_107_167 : ∀ l, xpr 107 167 l = l := xpr_no (by decide +kernel)
theorem r_107_169 : xfetch 107 169 = some (.iaload, 1) := by decide +kernel
theorem n_107_169 : ∀ l, xpr 107 169 l = l := xpr_no (by decide +kernel)
theorem r_107_170 : xfetch 107 170 = some (.imul, 1) := by decide +kernel
theorem n_107_170 : ∀ l, xpr 107 170 l = l := xpr_no (by decide +kernel)
theorem r_107_171 : xfetch 107 171 = some (.iadd, 1) := by decide +kernel
theorem n_107_171 : ∀ l, xpr 107 171 l = l := xpr_no (by decide +kernel)
theorem r_107_172 : xfetch 107 172 = some (.istore 4, 2) := by decide +kernel
theorem n_107_172 : ∀ l, xpr 107 172 l = l := xpr_no (by decide +kernel)
theorem r_107_174 : xfetch 107 174 = some (.iinc 5 1, 3) := by decide +kernel
theorem n_107_174 : ∀ l, xpr 107 174 l = l := xpr_no (by decide +kernel)
theorem r_107_177 : xfetch 107 177 = some (.goto (-129), 3) := by decide +kernel
theorem n_107_177 : ∀ l, xpr 107 177 l = l := xpr_no (by decide +kernel)
theorem r_107_180 : xfetch 107 180 = some (.aload_n 0, 1) := by decide +kernel
theorem n_107_180 : ∀ l, xpr 107 180 l = l := xpr_no (by decide +kernel)
theorem r_107_181 : xfetch 107 181 = some (.iload_n 3, 1) := by decide +kernel
theorem n_107_181 : ∀ l, xpr 107 181 l = l := xpr_no (by decide +kernel)
theorem r_107_182 : xfetch 107 182 = some (.ifCond .ne 10, 3) := by decide +kernel
theorem n_107_182 : ∀ l, xpr 107 182 l = l := xpr_no (by decide +kernel)
theorem r_107_185 : xfetch 107 185 = some (.aload_n 1, 1) := by decide +kernel
theorem n_107_185 : ∀ l, xpr 107 185 l = l := xpr_no (by decide +kernel)
theorem r_107_186 : xfetch 107 186 = some (.invokevirtual 62, 3) := by decide +kernel
theorem n_107_186 : ∀ l, xpr 107 186 l = l := xpr_no (by decide +kernel)
theorem r_107_189 : xfetch 107 189 = some (.goto 10, 3) := by decide +kernel
theorem n_107_189 : ∀ l, xpr 107 189 l = l := xpr_no (by decide +kernel)
theorem r_107_192 : xfetch 107 192 = some (.iload 4, 2) := by decide +kernel
theorem n_107_192 : ∀ l, xpr 107 192 l = l := xpr_no (by decide +kernel)
theorem r_107_194 : xfetch 107 194 = some (.bipush 8, 2) := by decide +kernel
theorem n_107_194 : ∀ l, xpr 107 194 l = l := xpr_no (by decide +kernel)
theorem r_107_196 : xfetch 107 196 = some (.invokestatic 58, 3) := by decide +kernel
theorem n_107_196 : ∀ l, xpr 107 196 l = l := xpr_no (by decide +kernel)
theorem r_107_199 : xfetch 107 199 = some (.putfield 66, 3) := by decide +kernel
theorem n_107_199 : ∀ l, xpr 107 199 l = l := xpr_no (by decide +kernel)
theorem r_107_202 : xfetch 107 202 = some (.aload_n 0, 1) := by decide +kernel
theorem n_107_202 : ∀ l, xpr 107 202 l = l := xpr_no (by decide +kernel)
theorem r_107_203 : xfetch 107 203 = some (.aload_n 0, 1) := by decide +kernel
theorem n_107_203 : ∀ l, xpr 107 203 l = l := xpr_no (by decide +kernel)
theorem r_107_204 : xfetch 107 204 = some (.getfield 28, 3) := by decide +kernel
theorem n_107_204 : ∀ l, xpr 107 204 l = l := xpr_no (by decide +kernel)
theorem r_107_207 : xfetch 107 207 = some (.aload_n 0, 1) := by decide +kernel
theorem n_107_207 : ∀ l, xpr 107 207 l = l := xpr_no (by decide +kernel)
theorem r_107_208 : xfetch 107 208 = some (.getfield 9, 3) := by decide +kernel
theorem n_107_208 : ∀ l, xpr 107 208 l = l := xpr_no (by decide +kernel)
theorem r_107_211 : xfetch 107 211 = some (.iadd, 1) := by decide +kernel
theorem n_107_211 : ∀ l, xpr 107 211 l = l := xpr_no (by decide +kernel)
theorem r_107_212 : xfetch 107 212 = some (.iconst 1, 1) := by decide +kernel
theorem n_107_212 : ∀ l, xpr 107 212 l = l := xpr_no (by decide +kernel)
theorem r_107_213 : xfetch 107 213 = some (.isub, 1) := by decide +kernel
theorem n_107_213 : ∀ l, xpr 107 213 l = l := xpr_no (by decide +kernel)
theorem r_107_214 : xfetch 107 214 = some (.aload_n 0, 1) := by decide +kernel
theorem n_107_214 : ∀ l, xpr 107 214 l = l := xpr_no (by decide +kernel)
theorem r_107_215 : xfetch 107 215 = some (.getfield 9, 3) := by decide +kernel
theorem n_107_215 : ∀ l, xpr 107 215 l = l := xpr_no (by decide +kernel)
theorem r_107_218 : xfetch 107 218 = some (.idiv, 1) := by decide +kernel
theorem n_107_218 : ∀ l, xpr 107 218 l = l := xpr_no (by decide +kernel)
theorem r_107_219 : xfetch 107 219 = some (.aload_n 0, 1) := by decide +kernel
theorem n_107_219 : ∀ l, xpr 107 219 l = l := xpr_no (by decide +kernel)
theorem r_107_220 : xfetch 107 220 = some (.getfield 66, 3) := by decide +kernel
theorem n_107_220 : ∀ l, xpr 107 220 l = l := xpr_no (by decide +kernel)
theorem r_107_223 : xfetch 107 223 = some (.imul, 1) := by decide +kernel
theorem n_107_223 : ∀ l, xpr 107 223 l = l := xpr_no (by decide +kernel)
theorem r_107_224 : xfetch 107 224 = some (.bipush 8, 2) := by decide +kernel
theorem n_107_224 : ∀ l, xpr 107 224 l = l := xpr_no (by decide +kernel)
theorem r_107_226 : xfetch 107 226 = some (.invokestatic 58, 3) := by decide +kernel
theorem n_107_226 : ∀ l, xpr 107 226 l = l := xpr_no (by decide +kernel)
theorem r_107_229 : xfetch 107 229 = some (.putfield 69, 3) := by decide +kernel
theorem n_107_229 : ∀ l, xpr 107 229 l = l := xpr_no (by decide +kernel)
theorem r_107_232 : xfetch 107 232 = some (.return_, 1) := by decide +kernel
theorem n_107_232 : ∀ l, xpr 107 232 l = l := xpr_no (by decide +kernel)
theorem v_View_layOut_0 {S : Option (Nat × (Nat → Int32))} {s : zSt} {Q : Option Value ⊕ Nat → zSt → Prop} {a0 : Int} {a1 : Int} {x2 : Int} {x3 : Int} (ha0 : isO a0 8) (ha1 : isO a1 4)
    (h : rng x2 ∧ (rng x3 ∧ ((x3 ≠ 0 → (x3 ≠ 1 → wp S 107 48 [(0, rf a0), (1, rf a1), (3, iv x3), (4, iv 0), (5, iv 0)] [] (zwI (zwI (zwI s a0 2 x2) a0 3 (zI (zwI s a0 2 x2) (a1 + 5) 0)) a0 5 x3) Q) ∧ (x3 = 1 → wp S 15 0 [(0, iv x2), (1, iv 1)] [] (zwI (zwI s a0 2 x2) a0 3 (zI (zwI s a0 2 x2) (a1 + 5) 0)) (fun o7 s7 => zkI (fun y7 => wp S 107 48 [(0, rf a0), (1, rf a1), (3, iv x3), (4, iv 0), (5, iv 0)] [] (zwI s7 a0 5 y7) Q) (fun e7 => False) o7))) ∧ (x3 = 0 → wp S 107 48 [(0, rf a0), (1, rf a1), (3, iv x3), (4, iv 0), (5, iv 0)] [] (zwI (zwI (zwI s a0 2 x2) a0 3 (zI (zwI s a0 2 x2) (a1 + 5) 0)) a0 5 1) Q)))) :
    wp S 107 0 [(0, rf a0), (1, rf a1), (2, iv x2), (3, iv x3)] [] s Q := by
  refine i_aload_n (a := a0) r_107_0 (n_107_0 _) rfl ?_
  refine i_iload_n (x := x2) r_107_1 (n_107_1 _) rfl ?_
  obtain ⟨g1, h⟩ := h
  refine i_putI (a := a0) (x := x2) r_107_2 (n_107_2 _) rfl (.inl rfl) rfl ha0 g1 ?_
  refine i_aload_n (a := a0) r_107_5 (n_107_5 _) rfl ?_
  refine i_aload_n (a := a1) r_107_6 (n_107_6 _) rfl ?_
  refine i_getR (a := a1) (b := a1 + 5) r_107_7 (n_107_7 _) rfl rfl rfl (by omega) ha1 (by omega) ?_
  have t2 := (t_4_4 ha1)
  refine i_getI (a := a1 + 5) r_107_10 (n_107_10 _) rfl (by decide) t2 (fun q3 => ?_)
  refine i_putI (a := a0) (x := zI (zwI s a0 2 x2) (a1 + 5) 0) r_107_13 (n_107_13 _) rfl (.inl rfl) rfl ha0 q3 ?_
  refine i_aload_n (a := a0) r_107_16 (n_107_16 _) rfl ?_
  refine i_iload_n (x := x3) r_107_17 (n_107_17 _) rfl ?_
  obtain ⟨g4, h⟩ := h
  refine i_if (t := 25) r_107_18 (n_107_18 _) rfl (T_ne g4 ⟨by omega, by omega⟩) (fun c5 => ?_) (fun c5 => ?_)
  · replace h := h.1 c5
    refine i_iload_n (x := x3) r_107_25 (n_107_25 _) rfl ?_
    refine i_iconst r_107_26 (n_107_26 _) ?_
    refine i_icmp (t := 38) r_107_27 (n_107_27 _) rfl (T_ne g4 ⟨by omega, by omega⟩) (fun c6 => ?_) (fun c6 => ?_)
    · replace h := h.1 c6
      refine i_iload_n (x := x3) r_107_38 (n_107_38 _) rfl ?_
      refine i_putI (a := a0) (x := x3) r_107_39 (n_107_39 _) rfl (.inl rfl) rfl ha0 g4 ?_
      refine i_iconst r_107_42 (n_107_42 _) ?_
      refine i_istore (l' := [(0, rf a0), (1, rf a1), (2, iv x2), (3, iv x3), (4, iv 0)]) r_107_43 (n_107_43 _) (by decide) rfl ?_
      refine i_iconst r_107_45 (n_107_45 _) ?_
      refine i_istore (l' := [(0, rf a0), (1, rf a1), (2, iv x2), (3, iv x3), (4, iv 0), (5, iv 0)]) r_107_46 (n_107_46 _) (by decide) rfl ?_
      exact wp_pr (l' := [(0, rf a0), (1, rf a1), (3, iv x3), (4, iv 0), (5, iv 0)]) rfl h
    · replace h := h.2 c6
      refine i_iload_n (x := x2) r_107_30 (n_107_30 _) rfl ?_
      refine i_iconst r_107_31 (n_107_31 _) ?_
      refine wp_stat (rest := [rf a0]) (Ls := [(0, iv x2), (1, iv 1)]) r_107_32 (n_107_32 _) rfl ⟨rfl, by decide, by decide, by decide⟩ rfl rfl ⟨rfl, Nat.le_of_ble_eq_true rfl, Nat.le_of_ble_eq_true rfl⟩ rfl h ?_
      intro o7 s7 h
      rcases h with ⟨y7, q8, rfl, h⟩ | ⟨e7, rfl, h⟩
      · refine .inl ⟨some (iv y7), rfl, ?_⟩
        show wp S 107 35 [(0, rf a0), (1, rf a1), (2, iv x2), (3, iv x3)] [iv y7, rf a0] s7 Q
        refine i_goto (t := 39) r_107_35 (n_107_35 _) rfl ?_
        refine i_putI (a := a0) (x := y7) r_107_39 (n_107_39 _) rfl (.inl rfl) rfl ha0 q8 ?_
        refine i_iconst r_107_42 (n_107_42 _) ?_
        refine i_istore (l' := [(0, rf a0), (1, rf a1), (2, iv x2), (3, iv x3), (4, iv 0)]) r_107_43 (n_107_43 _) (by decide) rfl ?_
        refine i_iconst r_107_45 (n_107_45 _) ?_
        refine i_istore (l' := [(0, rf a0), (1, rf a1), (2, iv x2), (3, iv x3), (4, iv 0), (5, iv 0)]) r_107_46 (n_107_46 _) (by decide) rfl ?_
        exact wp_pr (l' := [(0, rf a0), (1, rf a1), (3, iv x3), (4, iv 0), (5, iv 0)]) rfl h
      · skip
        exact h.elim
  · replace h := h.2 c5
    refine i_iconst r_107_21 (n_107_21 _) ?_
    refine i_goto (t := 39) r_107_22 (n_107_22 _) rfl ?_
    refine i_putI (a := a0) (x := 1) r_107_39 (n_107_39 _) rfl (.inl rfl) rfl ha0 ⟨by omega, by omega⟩ ?_
    refine i_iconst r_107_42 (n_107_42 _) ?_
    refine i_istore (l' := [(0, rf a0), (1, rf a1), (2, iv x2), (3, iv x3), (4, iv 0)]) r_107_43 (n_107_43 _) (by decide) rfl ?_
    refine i_iconst r_107_45 (n_107_45 _) ?_
    refine i_istore (l' := [(0, rf a0), (1, rf a1), (2, iv x2), (3, iv x3), (4, iv 0), (5, iv 0)]) r_107_46 (n_107_46 _) (by decide) rfl ?_
    exact wp_pr (l' := [(0, rf a0), (1, rf a1), (3, iv x3), (4, iv 0), (5, iv 0)]) rfl h
theorem v_View_layOut_48 {S : Option (Nat × (Nat → Int32))} {s : zSt} {Q : Option Value ⊕ Nat → zSt → Prop} {a0 : Int} {a1 : Int} {x3 : Int} {x4 : Int} {x5 : Int} (ha0 : isO a0 8) (ha1 : isO a1 4)
    (h : rng x5 ∧ (((zI s a0 3) ≤ x5 → rng x3 ∧ ((x3 ≠ 0 → wp S 24 0 [(0, iv x4), (1, iv 8)] [] s (fun o6 s6 => zkI (fun y6 => rng (((zI (zwI s6 a0 6 y6) a0 2) + (zI (zwI s6 a0 6 y6) a0 5)) - 1) ∧ (0 ≤ (((zI (zwI s6 a0 6 y6) a0 2) + (zI (zwI s6 a0 6 y6) a0 5)) - 1) ∧ (0 < (zI (zwI s6 a0 6 y6) a0 5) ∧ (wp S 24 0 [(0, iv (((((zI (zwI s6 a0 6 y6) a0 2) + (zI (zwI s6 a0 6 y6) a0 5)) - 1) / (zI (zwI s6 a0 6 y6) a0 5)) * (zI (zwI s6 a0 6 y6) a0 6))), (1, iv 8)] [] (zwI s6 a0 6 y6) (fun o15 s15 => zkI (fun y15 => Q rU (zwI s15 a0 4 y15)) (fun e15 => False) o15))))) (fun e6 => False) o6)) ∧ (x3 = 0 → wp S 29 0 [(0, rf a1)] [] s (fun o17 s17 => zkI (fun y17 => rng (((zI (zwI s17 a0 6 y17) a0 2) + (zI (zwI s17 a0 6 y17) a0 5)) - 1) ∧ (0 ≤ (((zI (zwI s17 a0 6 y17) a0 2) + (zI (zwI s17 a0 6 y17) a0 5)) - 1) ∧ (0 < (zI (zwI s17 a0 6 y17) a0 5) ∧ (wp S 24 0 [(0, iv (((((zI (zwI s17 a0 6 y17) a0 2) + (zI (zwI s17 a0 6 y17) a0 5)) - 1) / (zI (zwI s17 a0 6 y17) a0 5)) * (zI (zwI s17 a0 6 y17) a0 6))), (1, iv 8)] [] (zwI s17 a0 6 y17) (fun o26 s26 => zkI (fun y26 => Q rU (zwI s26 a0 4 y26)) (fun e26 => False) o26))))) (fun e17 => False) o17)))) ∧ (x5 < (zI s a0 3) → (0 ≤ x5 ∧ x5 < 40) ∧ (wp S 44 0 [(0, iv (zI (zwI s (a0 + 1) x5 (zI s (a1 + 6) x5)) (a0 + 1) x5))] [] (zwI s (a0 + 1) x5 (zI s (a1 + 6) x5)) (fun o36 s36 => zkI (fun y36 => rng x3 ∧ ((x3 ≠ 0 → wp S 24 0 [(0, iv x4), (1, iv (zI (zwI s36 (a0 + 3) x5 y36) (a0 + 3) x5))] [] (zwI s36 (a0 + 3) x5 y36) (fun o43 s43 => zkI (fun y43 => (x3 ≠ 0 → wp S 107 48 [(0, rf a0), (1, rf a1), (3, iv x3), (4, iv ((zI (zwI (zwI s43 (a0 + 2) x5 y43) (a0 + 4) x5 0) (a0 + 2) x5) + ((zI (zwI (zwI s43 (a0 + 2) x5 y43) (a0 + 4) x5 0) a0 5) * (zI (zwI (zwI s43 (a0 + 2) x5 y43) (a0 + 4) x5 0) (a0 + 3) x5)))), (5, iv (x5 + 1))] [] (zwI (zwI s43 (a0 + 2) x5 y43) (a0 + 4) x5 0) Q) ∧ (x3 = 0 → wp S 107 48 [(0, rf a0), (1, rf a1), (3, iv x3), (4, iv ((zI (zwI (zwI s43 (a0 + 2) x5 y43) (a0 + 4) x5 (zI (zwI s43 (a0 + 2) x5 y43) (a1 + 8) x5)) (a0 + 2) x5) + ((zI (zwI (zwI s43 (a0 + 2) x5 y43) (a0 + 4) x5 (zI (zwI s43 (a0 + 2) x5 y43) (a1 + 8) x5)) a0 5) * (zI (zwI (zwI s43 (a0 + 2) x5 y43) (a0 + 4) x5 (zI (zwI s43 (a0 + 2) x5 y43) (a1 + 8) x5)) (a0 + 3) x5)))), (5, iv (x5 + 1))] [] (zwI (zwI s43 (a0 + 2) x5 y43) (a0 + 4) x5 (zI (zwI s43 (a0 + 2) x5 y43) (a1 + 8) x5)) Q)) (fun e43 => False) o43)) ∧ (x3 = 0 → (x3 ≠ 0 → wp S 107 48 [(0, rf a0), (1, rf a1), (3, iv x3), (4, iv ((zI (zwI (zwI (zwI s36 (a0 + 3) x5 y36) (a0 + 2) x5 (zI (zwI s36 (a0 + 3) x5 y36) (a1 + 7) x5)) (a0 + 4) x5 0) (a0 + 2) x5) + ((zI (zwI (zwI (zwI s36 (a0 + 3) x5 y36) (a0 + 2) x5 (zI (zwI s36 (a0 + 3) x5 y36) (a1 + 7) x5)) (a0 + 4) x5 0) a0 5) * (zI (zwI (zwI (zwI s36 (a0 + 3) x5 y36) (a0 + 2) x5 (zI (zwI s36 (a0 + 3) x5 y36) (a1 + 7) x5)) (a0 + 4) x5 0) (a0 + 3) x5)))), (5, iv (x5 + 1))] [] (zwI (zwI (zwI s36 (a0 + 3) x5 y36) (a0 + 2) x5 (zI (zwI s36 (a0 + 3) x5 y36) (a1 + 7) x5)) (a0 + 4) x5 0) Q) ∧ (x3 = 0 → wp S 107 48 [(0, rf a0), (1, rf a1), (3, iv x3), (4, iv ((zI (zwI (zwI (zwI s36 (a0 + 3) x5 y36) (a0 + 2) x5 (zI (zwI s36 (a0 + 3) x5 y36) (a1 + 7) x5)) (a0 + 4) x5 (zI (zwI (zwI s36 (a0 + 3) x5 y36) (a0 + 2) x5 (zI (zwI s36 (a0 + 3) x5 y36) (a1 + 7) x5)) (a1 + 8) x5)) (a0 + 2) x5) + ((zI (zwI (zwI (zwI s36 (a0 + 3) x5 y36) (a0 + 2) x5 (zI (zwI s36 (a0 + 3) x5 y36) (a1 + 7) x5)) (a0 + 4) x5 (zI (zwI (zwI s36 (a0 + 3) x5 y36) (a0 + 2) x5 (zI (zwI s36 (a0 + 3) x5 y36) (a1 + 7) x5)) (a1 + 8) x5)) a0 5) * (zI (zwI (zwI (zwI s36 (a0 + 3) x5 y36) (a0 + 2) x5 (zI (zwI s36 (a0 + 3) x5 y36) (a1 + 7) x5)) (a0 + 4) x5 (zI (zwI (zwI s36 (a0 + 3) x5 y36) (a0 + 2) x5 (zI (zwI s36 (a0 + 3) x5 y36) (a1 + 7) x5)) (a1 + 8) x5)) (a0 + 3) x5)))), (5, iv (x5 + 1))] [] (zwI (zwI (zwI s36 (a0 + 3) x5 y36) (a0 + 2) x5 (zI (zwI s36 (a0 + 3) x5 y36) (a1 + 7) x5)) (a0 + 4) x5 (zI (zwI (zwI s36 (a0 + 3) x5 y36) (a0 + 2) x5 (zI (zwI s36 (a0 + 3) x5 y36) (a1 + 7) x5)) (a1 + 8) x5)) Q)))) (fun e36 => False) o36))))) :
    wp S 107 48 [(0, rf a0), (1, rf a1), (3, iv x3), (4, iv x4), (5, iv x5)] [] s Q := by
  refine i_iload (x := x5) r_107_48 rfl rfl ?_
  refine i_aload_n (a := a0) r_107_50 (n_107_50 _) rfl ?_
  refine i_getI (a := a0) r_107_51 (n_107_51 _) rfl (by decide) ha0 (fun q1 => ?_)
  obtain ⟨g2, h⟩ := h
  refine i_icmp (t := 180) r_107_54 (n_107_54 _) rfl (T_ge g2 q1) (fun c3 => ?_) (fun c3 => ?_)
  · replace h := h.1 c3
    refine i_aload_n (a := a0) r_107_180 (n_107_180 _) rfl ?_
    refine i_iload_n (x := x3) r_107_181 (n_107_181 _) rfl ?_
    obtain ⟨g4, h⟩ := h
    refine i_if (t := 192) r_107_182 (n_107_182 _) rfl (T_ne g4 ⟨by omega, by omega⟩) (fun c5 => ?_) (fun c5 => ?_)
    · replace h := h.1 c5
      refine i_iload (x := x4) r_107_192 (n_107_192 _) rfl ?_
      refine i_bipush r_107_194 (n_107_194 _) rfl ?_
      refine wp_stat (rest := [rf a0]) (Ls := [(0, iv x4), (1, iv 8)]) r_107_196 (n_107_196 _) rfl ⟨rfl, by decide, by decide, by decide⟩ rfl rfl ⟨rfl, Nat.le_of_ble_eq_true rfl, Nat.le_of_ble_eq_true rfl⟩ rfl h ?_
      intro o6 s6 h
      rcases h with ⟨y6, q7, rfl, h⟩ | ⟨e6, rfl, h⟩
      · refine .inl ⟨some (iv y6), rfl, ?_⟩
        show wp S 107 199 [(0, rf a0), (1, rf a1), (3, iv x3), (4, iv x4), (5, iv x5)] [iv y6, rf a0] s6 Q
        refine i_putI (a := a0) (x := y6) r_107_199 (n_107_199 _) rfl (.inl rfl) rfl ha0 q7 ?_
        refine i_aload_n (a := a0) r_107_202 (n_107_202 _) rfl ?_
        refine i_aload_n (a := a0) r_107_203 (n_107_203 _) rfl ?_
        refine i_getI (a := a0) r_107_204 (n_107_204 _) rfl (by decide) ha0 (fun q8 => ?_)
        refine i_aload_n (a := a0) r_107_207 (n_107_207 _) rfl ?_
        refine i_getI (a := a0) r_107_208 (n_107_208 _) rfl (by decide) ha0 (fun q9 => ?_)
        refine i_iadd r_107_211 (n_107_211 _) ?_
        refine i_iconst r_107_212 (n_107_212 _) ?_
        refine i_isub r_107_213 (n_107_213 _) ?_
        refine i_aload_n (a := a0) r_107_214 (n_107_214 _) rfl ?_
        refine i_getI (a := a0) r_107_215 (n_107_215 _) rfl (by decide) ha0 (fun q10 => ?_)
        obtain ⟨g11, h⟩ := h
        obtain ⟨g12, h⟩ := h
        obtain ⟨g13, h⟩ := h
        refine i_idiv r_107_218 (n_107_218 _) g11 q10 (by omega) (by omega) ?_
        refine i_aload_n (a := a0) r_107_219 (n_107_219 _) rfl ?_
        refine i_getI (a := a0) r_107_220 (n_107_220 _) rfl (by decide) ha0 (fun q14 => ?_)
        refine i_imul r_107_223 (n_107_223 _) ?_
        refine i_bipush r_107_224 (n_107_224 _) rfl ?_
        refine wp_stat (rest := [rf a0]) (Ls := [(0, iv (((((zI (zwI s6 a0 6 y6) a0 2) + (zI (zwI s6 a0 6 y6) a0 5)) - 1) / (zI (zwI s6 a0 6 y6) a0 5)) * (zI (zwI s6 a0 6 y6) a0 6))), (1, iv 8)]) r_107_226 (n_107_226 _) rfl ⟨rfl, by decide, by decide, by decide⟩ rfl rfl ⟨rfl, Nat.le_of_ble_eq_true rfl, Nat.le_of_ble_eq_true rfl⟩ rfl h ?_
        intro o15 s15 h
        rcases h with ⟨y15, q16, rfl, h⟩ | ⟨e15, rfl, h⟩
        · refine .inl ⟨some (iv y15), rfl, ?_⟩
          show wp S 107 229 [(0, rf a0), (1, rf a1), (3, iv x3), (4, iv x4), (5, iv x5)] [iv y15, rf a0] s15 Q
          refine i_putI (a := a0) (x := y15) r_107_229 (n_107_229 _) rfl (.inl rfl) rfl ha0 q16 ?_
          exact i_return r_107_232 (n_107_232 _) rfl h
        · skip
          exact h.elim
      · skip
        exact h.elim
    · replace h := h.2 c5
      refine i_aload_n (a := a1) r_107_185 (n_107_185 _) rfl ?_
      refine wp_virt (b := a1) (rest := [rf a0]) (Ls := [(0, rf a1)]) r_107_186 (n_107_186 _) rfl ⟨rfl, rfl, by decide, by decide⟩ rfl rfl ha1 ⟨rfl, Nat.le_of_ble_eq_true rfl, Nat.le_of_ble_eq_true rfl⟩ rfl h ?_
      intro o17 s17 h
      rcases h with ⟨y17, q18, rfl, h⟩ | ⟨e17, rfl, h⟩
      · refine .inl ⟨some (iv y17), rfl, ?_⟩
        show wp S 107 189 [(0, rf a0), (1, rf a1), (3, iv x3), (4, iv x4), (5, iv x5)] [iv y17, rf a0] s17 Q
        refine i_goto (t := 199) r_107_189 (n_107_189 _) rfl ?_
        refine i_putI (a := a0) (x := y17) r_107_199 (n_107_199 _) rfl (.inl rfl) rfl ha0 q18 ?_
        refine i_aload_n (a := a0) r_107_202 (n_107_202 _) rfl ?_
        refine i_aload_n (a := a0) r_107_203 (n_107_203 _) rfl ?_
        refine i_getI (a := a0) r_107_204 (n_107_204 _) rfl (by decide) ha0 (fun q19 => ?_)
        refine i_aload_n (a := a0) r_107_207 (n_107_207 _) rfl ?_
        refine i_getI (a := a0) r_107_208 (n_107_208 _) rfl (by decide) ha0 (fun q20 => ?_)
        refine i_iadd r_107_211 (n_107_211 _) ?_
        refine i_iconst r_107_212 (n_107_212 _) ?_
        refine i_isub r_107_213 (n_107_213 _) ?_
        refine i_aload_n (a := a0) r_107_214 (n_107_214 _) rfl ?_
        refine i_getI (a := a0) r_107_215 (n_107_215 _) rfl (by decide) ha0 (fun q21 => ?_)
        obtain ⟨g22, h⟩ := h
        obtain ⟨g23, h⟩ := h
        obtain ⟨g24, h⟩ := h
        refine i_idiv r_107_218 (n_107_218 _) g22 q21 (by omega) (by omega) ?_
        refine i_aload_n (a := a0) r_107_219 (n_107_219 _) rfl ?_
        refine i_getI (a := a0) r_107_220 (n_107_220 _) rfl (by decide) ha0 (fun q25 => ?_)
        refine i_imul r_107_223 (n_107_223 _) ?_
        refine i_bipush r_107_224 (n_107_224 _) rfl ?_
        refine wp_stat (rest := [rf a0]) (Ls := [(0, iv (((((zI (zwI s17 a0 6 y17) a0 2) + (zI (zwI s17 a0 6 y17) a0 5)) - 1) / (zI (zwI s17 a0 6 y17) a0 5)) * (zI (zwI s17 a0 6 y17) a0 6))), (1, iv 8)]) r_107_226 (n_107_226 _) rfl ⟨rfl, by decide, by decide, by decide⟩ rfl rfl ⟨rfl, Nat.le_of_ble_eq_true rfl, Nat.le_of_ble_eq_true rfl⟩ rfl h ?_
        intro o26 s26 h
        rcases h with ⟨y26, q27, rfl, h⟩ | ⟨e26, rfl, h⟩
        · refine .inl ⟨some (iv y26), rfl, ?_⟩
          show wp S 107 229 [(0, rf a0), (1, rf a1), (3, iv x3), (4, iv x4), (5, iv x5)] [iv y26, rf a0] s26 Q
          refine i_putI (a := a0) (x := y26) r_107_229 (n_107_229 _) rfl (.inl rfl) rfl ha0 q27 ?_
          exact i_return r_107_232 (n_107_232 _) rfl h
        · skip
          exact h.elim
      · skip
        exact h.elim
  · replace h := h.2 c3
    refine i_aload_n (a := a0) r_107_57 (n_107_57 _) rfl ?_
    refine i_getR (a := a0) (b := a0 + 1) r_107_58 (n_107_58 _) rfl rfl rfl (by omega) ha0 (by omega) ?_
    have t28 := (t_8_7 ha0)
    refine i_iload (x := x5) r_107_61 (n_107_61 _) rfl ?_
    refine i_aload_n (a := a1) r_107_63 (n_107_63 _) rfl ?_
    refine i_getR (a := a1) (b := a1 + 5) r_107_64 (n_107_64 _) rfl rfl rfl (by omega) ha1 (by omega) ?_
    have t29 := (t_4_4 ha1)
    refine i_getR (a := a1 + 5) (b := a1 + 6) r_107_67 (n_107_67 _) rfl rfl rfl (by omega) t29 (by omega) ?_
    have t30 := (t_2_1 t29)
    rw [show (a1 + 5) + 1 = a1 + 6 by omega] at t30
    refine i_iload (x := x5) r_107_70 (n_107_70 _) rfl ?_
    obtain ⟨g31, h⟩ := h
    refine i_iaload (a := a1 + 6) (j := x5) r_107_72 (n_107_72 _) t30 ⟨by omega, by omega⟩ (by omega) (by omega) (fun q32 => ?_)
    refine i_iastore (a := a0 + 1) (j := x5) (x := zI s (a1 + 6) x5) r_107_73 (n_107_73 _) t28 ⟨by omega, by omega⟩ (by omega) (by omega) q32 ?_
    refine i_aload_n (a := a0) r_107_74 (n_107_74 _) rfl ?_
    refine i_getR (a := a0) (b := a0 + 3) r_107_75 (n_107_75 _) rfl rfl rfl (by omega) ha0 (by omega) ?_
    have t33 := (t_8_9 ha0)
    refine i_iload (x := x5) r_107_78 (n_107_78 _) rfl ?_
    refine i_aload_n (a := a0) r_107_80 (n_107_80 _) rfl ?_
    refine i_getR (a := a0) (b := a0 + 1) r_107_81 (n_107_81 _) rfl rfl rfl (by omega) ha0 (by omega) ?_
    have t34 := (t_8_7 ha0)
    refine i_iload (x := x5) r_107_84 (n_107_84 _) rfl ?_
    refine i_iaload (a := a0 + 1) (j := x5) r_107_86 (n_107_86 _) t34 ⟨by omega, by omega⟩ (by omega) (by omega) (fun q35 => ?_)
    refine wp_stat (rest := [iv x5, rf (a0 + 3)]) (Ls := [(0, iv (zI (zwI s (a0 + 1) x5 (zI s (a1 + 6) x5)) (a0 + 1) x5))]) r_107_87 (n_107_87 _) rfl ⟨rfl, by decide, by decide, by decide⟩ rfl rfl ⟨rfl, Nat.le_of_ble_eq_true rfl, Nat.le_of_ble_eq_true rfl⟩ rfl h ?_
    intro o36 s36 h
    rcases h with ⟨y36, q37, rfl, h⟩ | ⟨e36, rfl, h⟩
    · refine .inl ⟨some (iv y36), rfl, ?_⟩
      show wp S 107 90 [(0, rf a0), (1, rf a1), (3, iv x3), (4, iv x4), (5, iv x5)] [iv y36, iv x5, rf (a0 + 3)] s36 Q
      refine i_iastore (a := a0 + 3) (j := x5) (x := y36) r_107_90 (n_107_90 _) t33 ⟨by omega, by omega⟩ (by omega) (by omega) q37 ?_
      refine i_aload_n (a := a0) r_107_91 (n_107_91 _) rfl ?_
      refine i_getR (a := a0) (b := a0 + 2) r_107_92 (n_107_92 _) rfl rfl rfl (by omega) ha0 (by omega) ?_
      have t38 := (t_8_8 ha0)
      refine i_iload (x := x5) r_107_95 (n_107_95 _) rfl ?_
      refine i_iload_n (x := x3) r_107_97 (n_107_97 _) rfl ?_
      obtain ⟨g39, h⟩ := h
      refine i_if (t := 114) r_107_98 (n_107_98 _) rfl (T_ne g39 ⟨by omega, by omega⟩) (fun c40 => ?_) (fun c40 => ?_)
      · replace h := h.1 c40
        refine i_iload (x := x4) r_107_114 (n_107_114 _) rfl ?_
        refine i_aload_n (a := a0) r_107_116 (n_107_116 _) rfl ?_
        refine i_getR (a := a0) (b := a0 + 3) r_107_117 (n_107_117 _) rfl rfl rfl (by omega) ha0 (by omega) ?_
        have t41 := (t_8_9 ha0)
        refine i_iload (x := x5) r_107_120 (n_107_120 _) rfl ?_
        refine i_iaload (a := a0 + 3) (j := x5) r_107_122 (n_107_122 _) t41 ⟨by omega, by omega⟩ (by omega) (by omega) (fun q42 => ?_)
        refine wp_stat (rest := [iv x5, rf (a0 + 2)]) (Ls := [(0, iv x4), (1, iv (zI (zwI s36 (a0 + 3) x5 y36) (a0 + 3) x5))]) r_107_123 (n_107_123 _) rfl ⟨rfl, by decide, by decide, by decide⟩ rfl rfl ⟨rfl, Nat.le_of_ble_eq_true rfl, Nat.le_of_ble_eq_true rfl⟩ rfl h ?_
        intro o43 s43 h
        rcases h with ⟨y43, q44, rfl, h⟩ | ⟨e43, rfl, h⟩
        · refine .inl ⟨some (iv y43), rfl, ?_⟩
          show wp S 107 126 [(0, rf a0), (1, rf a1), (3, iv x3), (4, iv x4), (5, iv x5)] [iv y43, iv x5, rf (a0 + 2)] s43 Q
          refine i_iastore (a := a0 + 2) (j := x5) (x := y43) r_107_126 (n_107_126 _) t38 ⟨by omega, by omega⟩ (by omega) (by omega) q44 ?_
          refine i_aload_n (a := a0) r_107_127 (n_107_127 _) rfl ?_
          refine i_getR (a := a0) (b := a0 + 4) r_107_128 (n_107_128 _) rfl rfl rfl (by omega) ha0 (by omega) ?_
          have t45 := (t_8_10 ha0)
          refine i_iload (x := x5) r_107_131 (n_107_131 _) rfl ?_
          refine i_iload_n (x := x3) r_107_133 (n_107_133 _) rfl ?_
          refine i_if (t := 150) r_107_134 (n_107_134 _) rfl (T_ne g39 ⟨by omega, by omega⟩) (fun c46 => ?_) (fun c46 => ?_)
          · replace h := h.1 c46
            refine i_iconst r_107_150 (n_107_150 _) ?_
            refine i_iastore (a := a0 + 4) (j := x5) (x := 0) r_107_151 (n_107_151 _) t45 ⟨by omega, by omega⟩ (by omega) (by omega) ⟨by omega, by omega⟩ ?_
            refine i_aload_n (a := a0) r_107_152 (n_107_152 _) rfl ?_
            refine i_getR (a := a0) (b := a0 + 2) r_107_153 (n_107_153 _) rfl rfl rfl (by omega) ha0 (by omega) ?_
            have t47 := (t_8_8 ha0)
            refine i_iload (x := x5) r_107_156 (n_107_156 _) rfl ?_
            refine i_iaload (a := a0 + 2) (j := x5) r_107_158 (n_107_158 _) t47 ⟨by omega, by omega⟩ (by omega) (by omega) (fun q48 => ?_)
            refine i_aload_n (a := a0) r_107_159 (n_107_159 _) rfl ?_
            refine i_getI (a := a0) r_107_160 (n_107_160 _) rfl (by decide) ha0 (fun q49 => ?_)
            refine i_aload_n (a := a0) r_107_163 (n_107_163 _) rfl ?_
            refine i_getR (a := a0) (b := a0 + 3) r_107_164 (n_107_164 _) rfl rfl rfl (by omega) ha0 (by omega) ?_
            have t50 := (t_8_9 ha0)
            refine i_iload (x := x5) r_107_167 (n_107_167 _) rfl ?_
            refine i_iaload (a := a0 + 3) (j := x5) r_107_169 (n_107_169 _) t50 ⟨by omega, by omega⟩ (by omega) (by omega) (fun q51 => ?_)
            refine i_imul r_107_170 (n_107_170 _) ?_
            refine i_iadd r_107_171 (n_107_171 _) ?_
            refine i_istore (l' := [(0, rf a0), (1, rf a1), (3, iv x3), (4, iv ((zI (zwI (zwI s43 (a0 + 2) x5 y43) (a0 + 4) x5 0) (a0 + 2) x5) + ((zI (zwI (zwI s43 (a0 + 2) x5 y43) (a0 + 4) x5 0) a0 5) * (zI (zwI (zwI s43 (a0 + 2) x5 y43) (a0 + 4) x5 0) (a0 + 3) x5)))), (5, iv x5)]) r_107_172 (n_107_172 _) (by decide) rfl ?_
            refine i_iinc (x := x5) (l' := [(0, rf a0), (1, rf a1), (3, iv x3), (4, iv ((zI (zwI (zwI s43 (a0 + 2) x5 y43) (a0 + 4) x5 0) (a0 + 2) x5) + ((zI (zwI (zwI s43 (a0 + 2) x5 y43) (a0 + 4) x5 0) a0 5) * (zI (zwI (zwI s43 (a0 + 2) x5 y43) (a0 + 4) x5 0) (a0 + 3) x5)))), (5, iv (x5 + 1))]) r_107_174 (n_107_174 _) (by decide) rfl rfl ?_
            refine i_goto (t := 48) r_107_177 (n_107_177 _) rfl ?_
            exact wp_pr (l' := [(0, rf a0), (1, rf a1), (3, iv x3), (4, iv ((zI (zwI (zwI s43 (a0 + 2) x5 y43) (a0 + 4) x5 0) (a0 + 2) x5) + ((zI (zwI (zwI s43 (a0 + 2) x5 y43) (a0 + 4) x5 0) a0 5) * (zI (zwI (zwI s43 (a0 + 2) x5 y43) (a0 + 4) x5 0) (a0 + 3) x5)))), (5, iv (x5 + 1))]) rfl h
          · replace h := h.2 c46
            refine i_aload_n (a := a1) r_107_137 (n_107_137 _) rfl ?_
            refine i_getR (a := a1) (b := a1 + 5) r_107_138 (n_107_138 _) rfl rfl rfl (by omega) ha1 (by omega) ?_
            have t52 := (t_4_4 ha1)
            refine i_getR (a := a1 + 5) (b := a1 + 8) r_107_141 (n_107_141 _) rfl rfl rfl (by omega) t52 (by omega) ?_
            have t53 := (t_2_3 t52)
            rw [show (a1 + 5) + 3 = a1 + 8 by omega] at t53
            refine i_iload (x := x5) r_107_144 (n_107_144 _) rfl ?_
            refine i_iaload (a := a1 + 8) (j := x5) r_107_146 (n_107_146 _) t53 ⟨by omega, by omega⟩ (by omega) (by omega) (fun q54 => ?_)
            refine i_goto (t := 151) r_107_147 (n_107_147 _) rfl ?_
            refine i_iastore (a := a0 + 4) (j := x5) (x := zI (zwI s43 (a0 + 2) x5 y43) (a1 + 8) x5) r_107_151 (n_107_151 _) t45 ⟨by omega, by omega⟩ (by omega) (by omega) q54 ?_
            refine i_aload_n (a := a0) r_107_152 (n_107_152 _) rfl ?_
            refine i_getR (a := a0) (b := a0 + 2) r_107_153 (n_107_153 _) rfl rfl rfl (by omega) ha0 (by omega) ?_
            have t55 := (t_8_8 ha0)
            refine i_iload (x := x5) r_107_156 (n_107_156 _) rfl ?_
            refine i_iaload (a := a0 + 2) (j := x5) r_107_158 (n_107_158 _) t55 ⟨by omega, by omega⟩ (by omega) (by omega) (fun q56 => ?_)
            refine i_aload_n (a := a0) r_107_159 (n_107_159 _) rfl ?_
            refine i_getI (a := a0) r_107_160 (n_107_160 _) rfl (by decide) ha0 (fun q57 => ?_)
            refine i_aload_n (a := a0) r_107_163 (n_107_163 _) rfl ?_
            refine i_getR (a := a0) (b := a0 + 3) r_107_164 (n_107_164 _) rfl rfl rfl (by omega) ha0 (by omega) ?_
            have t58 := (t_8_9 ha0)
            refine i_iload (x := x5) r_107_167 (n_107_167 _) rfl ?_
            refine i_iaload (a := a0 + 3) (j := x5) r_107_169 (n_107_169 _) t58 ⟨by omega, by omega⟩ (by omega) (by omega) (fun q59 => ?_)
            refine i_imul r_107_170 (n_107_170 _) ?_
            refine i_iadd r_107_171 (n_107_171 _) ?_
            refine i_istore (l' := [(0, rf a0), (1, rf a1), (3, iv x3), (4, iv ((zI (zwI (zwI s43 (a0 + 2) x5 y43) (a0 + 4) x5 (zI (zwI s43 (a0 + 2) x5 y43) (a1 + 8) x5)) (a0 + 2) x5) + ((zI (zwI (zwI s43 (a0 + 2) x5 y43) (a0 + 4) x5 (zI (zwI s43 (a0 + 2) x5 y43) (a1 + 8) x5)) a0 5) * (zI (zwI (zwI s43 (a0 + 2) x5 y43) (a0 + 4) x5 (zI (zwI s43 (a0 + 2) x5 y43) (a1 + 8) x5)) (a0 + 3) x5)))), (5, iv x5)]) r_107_172 (n_107_172 _) (by decide) rfl ?_
            refine i_iinc (x := x5) (l' := [(0, rf a0), (1, rf a1), (3, iv x3), (4, iv ((zI (zwI (zwI s43 (a0 + 2) x5 y43) (a0 + 4) x5 (zI (zwI s43 (a0 + 2) x5 y43) (a1 + 8) x5)) (a0 + 2) x5) + ((zI (zwI (zwI s43 (a0 + 2) x5 y43) (a0 + 4) x5 (zI (zwI s43 (a0 + 2) x5 y43) (a1 + 8) x5)) a0 5) * (zI (zwI (zwI s43 (a0 + 2) x5 y43) (a0 + 4) x5 (zI (zwI s43 (a0 + 2) x5 y43) (a1 + 8) x5)) (a0 + 3) x5)))), (5, iv (x5 + 1))]) r_107_174 (n_107_174 _) (by decide) rfl rfl ?_
            refine i_goto (t := 48) r_107_177 (n_107_177 _) rfl ?_
            exact wp_pr (l' := [(0, rf a0), (1, rf a1), (3, iv x3), (4, iv ((zI (zwI (zwI s43 (a0 + 2) x5 y43) (a0 + 4) x5 (zI (zwI s43 (a0 + 2) x5 y43) (a1 + 8) x5)) (a0 + 2) x5) + ((zI (zwI (zwI s43 (a0 + 2) x5 y43) (a0 + 4) x5 (zI (zwI s43 (a0 + 2) x5 y43) (a1 + 8) x5)) a0 5) * (zI (zwI (zwI s43 (a0 + 2) x5 y43) (a0 + 4) x5 (zI (zwI s43 (a0 + 2) x5 y43) (a1 + 8) x5)) (a0 + 3) x5)))), (5, iv (x5 + 1))]) rfl h
        · skip
          exact h.elim
      · replace h := h.2 c40
        refine i_aload_n (a := a1) r_107_101 (n_107_101 _) rfl ?_
        refine i_getR (a := a1) (b := a1 + 5) r_107_102 (n_107_102 _) rfl rfl rfl (by omega) ha1 (by omega) ?_
        have t60 := (t_4_4 ha1)
        refine i_getR (a := a1 + 5) (b := a1 + 7) r_107_105 (n_107_105 _) rfl rfl rfl (by omega) t60 (by omega) ?_
        have t61 := (t_2_2 t60)
        rw [show (a1 + 5) + 2 = a1 + 7 by omega] at t61
        refine i_iload (x := x5) r_107_108 (n_107_108 _) rfl ?_
        refine i_iaload (a := a1 + 7) (j := x5) r_107_110 (n_107_110 _) t61 ⟨by omega, by omega⟩ (by omega) (by omega) (fun q62 => ?_)
        refine i_goto (t := 126) r_107_111 (n_107_111 _) rfl ?_
        refine i_iastore (a := a0 + 2) (j := x5) (x := zI (zwI s36 (a0 + 3) x5 y36) (a1 + 7) x5) r_107_126 (n_107_126 _) t38 ⟨by omega, by omega⟩ (by omega) (by omega) q62 ?_
        refine i_aload_n (a := a0) r_107_127 (n_107_127 _) rfl ?_
        refine i_getR (a := a0) (b := a0 + 4) r_107_128 (n_107_128 _) rfl rfl rfl (by omega) ha0 (by omega) ?_
        have t63 := (t_8_10 ha0)
        refine i_iload (x := x5) r_107_131 (n_107_131 _) rfl ?_
        refine i_iload_n (x := x3) r_107_133 (n_107_133 _) rfl ?_
        refine i_if (t := 150) r_107_134 (n_107_134 _) rfl (T_ne g39 ⟨by omega, by omega⟩) (fun c64 => ?_) (fun c64 => ?_)
        · replace h := h.1 c64
          refine i_iconst r_107_150 (n_107_150 _) ?_
          refine i_iastore (a := a0 + 4) (j := x5) (x := 0) r_107_151 (n_107_151 _) t63 ⟨by omega, by omega⟩ (by omega) (by omega) ⟨by omega, by omega⟩ ?_
          refine i_aload_n (a := a0) r_107_152 (n_107_152 _) rfl ?_
          refine i_getR (a := a0) (b := a0 + 2) r_107_153 (n_107_153 _) rfl rfl rfl (by omega) ha0 (by omega) ?_
          have t65 := (t_8_8 ha0)
          refine i_iload (x := x5) r_107_156 (n_107_156 _) rfl ?_
          refine i_iaload (a := a0 + 2) (j := x5) r_107_158 (n_107_158 _) t65 ⟨by omega, by omega⟩ (by omega) (by omega) (fun q66 => ?_)
          refine i_aload_n (a := a0) r_107_159 (n_107_159 _) rfl ?_
          refine i_getI (a := a0) r_107_160 (n_107_160 _) rfl (by decide) ha0 (fun q67 => ?_)
          refine i_aload_n (a := a0) r_107_163 (n_107_163 _) rfl ?_
          refine i_getR (a := a0) (b := a0 + 3) r_107_164 (n_107_164 _) rfl rfl rfl (by omega) ha0 (by omega) ?_
          have t68 := (t_8_9 ha0)
          refine i_iload (x := x5) r_107_167 (n_107_167 _) rfl ?_
          refine i_iaload (a := a0 + 3) (j := x5) r_107_169 (n_107_169 _) t68 ⟨by omega, by omega⟩ (by omega) (by omega) (fun q69 => ?_)
          refine i_imul r_107_170 (n_107_170 _) ?_
          refine i_iadd r_107_171 (n_107_171 _) ?_
          refine i_istore (l' := [(0, rf a0), (1, rf a1), (3, iv x3), (4, iv ((zI (zwI (zwI (zwI s36 (a0 + 3) x5 y36) (a0 + 2) x5 (zI (zwI s36 (a0 + 3) x5 y36) (a1 + 7) x5)) (a0 + 4) x5 0) (a0 + 2) x5) + ((zI (zwI (zwI (zwI s36 (a0 + 3) x5 y36) (a0 + 2) x5 (zI (zwI s36 (a0 + 3) x5 y36) (a1 + 7) x5)) (a0 + 4) x5 0) a0 5) * (zI (zwI (zwI (zwI s36 (a0 + 3) x5 y36) (a0 + 2) x5 (zI (zwI s36 (a0 + 3) x5 y36) (a1 + 7) x5)) (a0 + 4) x5 0) (a0 + 3) x5)))), (5, iv x5)]) r_107_172 (n_107_172 _) (by decide) rfl ?_
          refine i_iinc (x := x5) (l' := [(0, rf a0), (1, rf a1), (3, iv x3), (4, iv ((zI (zwI (zwI (zwI s36 (a0 + 3) x5 y36) (a0 + 2) x5 (zI (zwI s36 (a0 + 3) x5 y36) (a1 + 7) x5)) (a0 + 4) x5 0) (a0 + 2) x5) + ((zI (zwI (zwI (zwI s36 (a0 + 3) x5 y36) (a0 + 2) x5 (zI (zwI s36 (a0 + 3) x5 y36) (a1 + 7) x5)) (a0 + 4) x5 0) a0 5) * (zI (zwI (zwI (zwI s36 (a0 + 3) x5 y36) (a0 + 2) x5 (zI (zwI s36 (a0 + 3) x5 y36) (a1 + 7) x5)) (a0 + 4) x5 0) (a0 + 3) x5)))), (5, iv (x5 + 1))]) r_107_174 (n_107_174 _) (by decide) rfl rfl ?_
          refine i_goto (t := 48) r_107_177 (n_107_177 _) rfl ?_
          exact wp_pr (l' := [(0, rf a0), (1, rf a1), (3, iv x3), (4, iv ((zI (zwI (zwI (zwI s36 (a0 + 3) x5 y36) (a0 + 2) x5 (zI (zwI s36 (a0 + 3) x5 y36) (a1 + 7) x5)) (a0 + 4) x5 0) (a0 + 2) x5) + ((zI (zwI (zwI (zwI s36 (a0 + 3) x5 y36) (a0 + 2) x5 (zI (zwI s36 (a0 + 3) x5 y36) (a1 + 7) x5)) (a0 + 4) x5 0) a0 5) * (zI (zwI (zwI (zwI s36 (a0 + 3) x5 y36) (a0 + 2) x5 (zI (zwI s36 (a0 + 3) x5 y36) (a1 + 7) x5)) (a0 + 4) x5 0) (a0 + 3) x5)))), (5, iv (x5 + 1))]) rfl h
        · replace h := h.2 c64
          refine i_aload_n (a := a1) r_107_137 (n_107_137 _) rfl ?_
          refine i_getR (a := a1) (b := a1 + 5) r_107_138 (n_107_138 _) rfl rfl rfl (by omega) ha1 (by omega) ?_
          have t70 := (t_4_4 ha1)
          refine i_getR (a := a1 + 5) (b := a1 + 8) r_107_141 (n_107_141 _) rfl rfl rfl (by omega) t70 (by omega) ?_
          have t71 := (t_2_3 t70)
          rw [show (a1 + 5) + 3 = a1 + 8 by omega] at t71
          refine i_iload (x := x5) r_107_144 (n_107_144 _) rfl ?_
          refine i_iaload (a := a1 + 8) (j := x5) r_107_146 (n_107_146 _) t71 ⟨by omega, by omega⟩ (by omega) (by omega) (fun q72 => ?_)
          refine i_goto (t := 151) r_107_147 (n_107_147 _) rfl ?_
          refine i_iastore (a := a0 + 4) (j := x5) (x := zI (zwI (zwI s36 (a0 + 3) x5 y36) (a0 + 2) x5 (zI (zwI s36 (a0 + 3) x5 y36) (a1 + 7) x5)) (a1 + 8) x5) r_107_151 (n_107_151 _) t63 ⟨by omega, by omega⟩ (by omega) (by omega) q72 ?_
          refine i_aload_n (a := a0) r_107_152 (n_107_152 _) rfl ?_
          refine i_getR (a := a0) (b := a0 + 2) r_107_153 (n_107_153 _) rfl rfl rfl (by omega) ha0 (by omega) ?_
          have t73 := (t_8_8 ha0)
          refine i_iload (x := x5) r_107_156 (n_107_156 _) rfl ?_
          refine i_iaload (a := a0 + 2) (j := x5) r_107_158 (n_107_158 _) t73 ⟨by omega, by omega⟩ (by omega) (by omega) (fun q74 => ?_)
          refine i_aload_n (a := a0) r_107_159 (n_107_159 _) rfl ?_
          refine i_getI (a := a0) r_107_160 (n_107_160 _) rfl (by decide) ha0 (fun q75 => ?_)
          refine i_aload_n (a := a0) r_107_163 (n_107_163 _) rfl ?_
          refine i_getR (a := a0) (b := a0 + 3) r_107_164 (n_107_164 _) rfl rfl rfl (by omega) ha0 (by omega) ?_
          have t76 := (t_8_9 ha0)
          refine i_iload (x := x5) r_107_167 (n_107_167 _) rfl ?_
          refine i_iaload (a := a0 + 3) (j := x5) r_107_169 (n_107_169 _) t76 ⟨by omega, by omega⟩ (by omega) (by omega) (fun q77 => ?_)
          refine i_imul r_107_170 (n_107_170 _) ?_
          refine i_iadd r_107_171 (n_107_171 _) ?_
          refine i_istore (l' := [(0, rf a0), (1, rf a1), (3, iv x3), (4, iv ((zI (zwI (zwI (zwI s36 (a0 + 3) x5 y36) (a0 + 2) x5 (zI (zwI s36 (a0 + 3) x5 y36) (a1 + 7) x5)) (a0 + 4) x5 (zI (zwI (zwI s36 (a0 + 3) x5 y36) (a0 + 2) x5 (zI (zwI s36 (a0 + 3) x5 y36) (a1 + 7) x5)) (a1 + 8) x5)) (a0 + 2) x5) + ((zI (zwI (zwI (zwI s36 (a0 + 3) x5 y36) (a0 + 2) x5 (zI (zwI s36 (a0 + 3) x5 y36) (a1 + 7) x5)) (a0 + 4) x5 (zI (zwI (zwI s36 (a0 + 3) x5 y36) (a0 + 2) x5 (zI (zwI s36 (a0 + 3) x5 y36) (a1 + 7) x5)) (a1 + 8) x5)) a0 5) * (zI (zwI (zwI (zwI s36 (a0 + 3) x5 y36) (a0 + 2) x5 (zI (zwI s36 (a0 + 3) x5 y36) (a1 + 7) x5)) (a0 + 4) x5 (zI (zwI (zwI s36 (a0 + 3) x5 y36) (a0 + 2) x5 (zI (zwI s36 (a0 + 3) x5 y36) (a1 + 7) x5)) (a1 + 8) x5)) (a0 + 3) x5)))), (5, iv x5)]) r_107_172 (n_107_172 _) (by decide) rfl ?_
          refine i_iinc (x := x5) (l' := [(0, rf a0), (1, rf a1), (3, iv x3), (4, iv ((zI (zwI (zwI (zwI s36 (a0 + 3) x5 y36) (a0 + 2) x5 (zI (zwI s36 (a0 + 3) x5 y36) (a1 + 7) x5)) (a0 + 4) x5 (zI (zwI (zwI s36 (a0 + 3) x5 y36) (a0 + 2) x5 (zI (zwI s36 (a0 + 3) x5 y36) (a1 + 7) x5)) (a1 + 8) x5)) (a0 + 2) x5) + ((zI (zwI (zwI (zwI s36 (a0 + 3) x5 y36) (a0 + 2) x5 (zI (zwI s36 (a0 + 3) x5 y36) (a1 + 7) x5)) (a0 + 4) x5 (zI (zwI (zwI s36 (a0 + 3) x5 y36) (a0 + 2) x5 (zI (zwI s36 (a0 + 3) x5 y36) (a1 + 7) x5)) (a1 + 8) x5)) a0 5) * (zI (zwI (zwI (zwI s36 (a0 + 3) x5 y36) (a0 + 2) x5 (zI (zwI s36 (a0 + 3) x5 y36) (a1 + 7) x5)) (a0 + 4) x5 (zI (zwI (zwI s36 (a0 + 3) x5 y36) (a0 + 2) x5 (zI (zwI s36 (a0 + 3) x5 y36) (a1 + 7) x5)) (a1 + 8) x5)) (a0 + 3) x5)))), (5, iv (x5 + 1))]) r_107_174 (n_107_174 _) (by decide) rfl rfl ?_
          refine i_goto (t := 48) r_107_177 (n_107_177 _) rfl ?_
          exact wp_pr (l' := [(0, rf a0), (1, rf a1), (3, iv x3), (4, iv ((zI (zwI (zwI (zwI s36 (a0 + 3) x5 y36) (a0 + 2) x5 (zI (zwI s36 (a0 + 3) x5 y36) (a1 + 7) x5)) (a0 + 4) x5 (zI (zwI (zwI s36 (a0 + 3) x5 y36) (a0 + 2) x5 (zI (zwI s36 (a0 + 3) x5 y36) (a1 + 7) x5)) (a1 + 8) x5)) (a0 + 2) x5) + ((zI (zwI (zwI (zwI s36 (a0 + 3) x5 y36) (a0 + 2) x5 (zI (zwI s36 (a0 + 3) x5 y36) (a1 + 7) x5)) (a0 + 4) x5 (zI (zwI (zwI s36 (a0 + 3) x5 y36) (a0 + 2) x5 (zI (zwI s36 (a0 + 3) x5 y36) (a1 + 7) x5)) (a1 + 8) x5)) a0 5) * (zI (zwI (zwI (zwI s36 (a0 + 3) x5 y36) (a0 + 2) x5 (zI (zwI s36 (a0 + 3) x5 y36) (a1 + 7) x5)) (a0 + 4) x5 (zI (zwI (zwI s36 (a0 + 3) x5 y36) (a0 + 2) x5 (zI (zwI s36 (a0 + 3) x5 y36) (a1 + 7) x5)) (a1 + 8) x5)) (a0 + 3) x5)))), (5, iv (x5 + 1))]) rfl h
    · skip
      exact h.elim
theorem r_108_0 : xfetch 108 0 = some (.iconst 0, 1) := by decide +kernel
theorem n_108_0 : ∀ l, xpr 108 0 l = l := xpr_no (by decide +kernel)
theorem r_108_1 : xfetch 108 1 = some (.istore_n 2, 1) := by decide +kernel
theorem n_108_1 : ∀ l, xpr 108 1 l = l := xpr_no (by decide +kernel)
theorem r_108_2 : xfetch 108 2 = some (.iload_n 2, 1) := by decide +kernel
theorem r_108_3 : xfetch 108 3 = some (.sipush 1024, 3) := by decide +kernel
theorem n_108_3 : ∀ l, xpr 108 3 l = l := xpr_no (by decide +kernel)
theorem r_108_6 : xfetch 108 6 = some (.if_icmp .ge 20, 3) := by decide +kernel
theorem n_108_6 : ∀ l, xpr 108 6 l = l := xpr_no (by decide +kernel)
theorem r_108_9 : xfetch 108 9 = some (.aload_n 0, 1) := by decide +kernel
theorem n_108_9 : ∀ l, xpr 108 9 l = l := xpr_no (by decide +kernel)
theorem r_108_10 : xfetch 108 10 = some (.iload_n 2, 1) := by decide +kernel
theorem n_108_10 : ∀ l, xpr 108 10 l = l := xpr_no (by decide +kernel)
theorem r_108_11 : xfetch 108 11 = some (.invokevirtual 316, 3) := by decide +kernel
theorem n_108_11 : ∀ l, xpr 108 11 l = l := xpr_no (by decide +kernel)
theorem r_108_14 : xfetch 108 14 = some (.iload_n 1, 1) := by decide +kernel
theorem n_108_14 : ∀ l, xpr 108 14 l = l := xpr_no (by decide +kernel)
theorem r_108_15 : xfetch 108 15 = some (.if_icmp .lt 5, 3) := by decide +kernel
theorem n_108_15 : ∀ l, xpr 108 15 l = l := xpr_no (by decide +kernel)
theorem r_108_18 : xfetch 108 18 = some (.iload_n 2, 1) := by decide +kernel
theorem n_108_18 : ∀ l, xpr 108 18 l = l := xpr_no (by decide +kernel)
theorem r_108_19 : xfetch 108 19 = some (.ireturn, 1) := by decide +kernel
theorem n_108_19 : ∀ l, xpr 108 19 l = l := xpr_no (by decide +kernel)
theorem r_108_20 : xfetch 108 20 = some (.iinc 2 16, 3) := by decide +kernel
theorem n_108_20 : ∀ l, xpr 108 20 l = l := xpr_no (by decide +kernel)
theorem r_108_23 : xfetch 108 23 = some (.goto (-21), 3) := by decide +kernel
theorem n_108_23 : ∀ l, xpr 108 23 l = l := xpr_no (by decide +kernel)
theorem r_108_26 : xfetch 108 26 = some (.iconst (-1), 1) := by decide +kernel
theorem n_108_26 : ∀ l, xpr 108 26 l = l := xpr_no (by decide +kernel)
theorem r_108_27 : xfetch 108 27 = some (.ireturn, 1) := by decide +kernel
theorem n_108_27 : ∀ l, xpr 108 27 l = l := xpr_no (by decide +kernel)
theorem v_RL_findRoom_0 {S : Option (Nat × (Nat → Int32))} {s : zSt} {Q : Option Value ⊕ Nat → zSt → Prop} {x1 : Int} 
    (h : wp S 108 2 [(0, rf 2), (1, iv x1), (2, iv 0)] [] s Q) :
    wp S 108 0 [(0, rf 2), (1, iv x1)] [] s Q := by
  refine i_iconst r_108_0 (n_108_0 _) ?_
  refine i_istore_n (l' := [(0, rf 2), (1, iv x1), (2, iv 0)]) r_108_1 (n_108_1 _) (by decide) rfl ?_
  exact wp_pr (l' := [(0, rf 2), (1, iv x1), (2, iv 0)]) rfl h
theorem v_RL_findRoom_2 {S : Option (Nat × (Nat → Int32))} {s : zSt} {Q : Option Value ⊕ Nat → zSt → Prop} {x1 : Int} {x2 : Int} 
    (h : rng x2 ∧ ((1024 ≤ x2 → Q (rI (-1)) s) ∧ (x2 < 1024 → wp S 14 0 [(0, rf 2), (1, iv x2)] [] s (fun o3 s3 => zkI (fun y3 => rng x1 ∧ ((y3 < x1 → wp S 108 2 [(0, rf 2), (1, iv x1), (2, iv (x2 + 16))] [] s3 Q) ∧ (x1 ≤ y3 → Q (rI x2) s3))) (fun e3 => False) o3)))) :
    wp S 108 2 [(0, rf 2), (1, iv x1), (2, iv x2)] [] s Q := by
  refine i_iload_n (x := x2) r_108_2 rfl rfl ?_
  refine i_sipush r_108_3 (n_108_3 _) rfl ?_
  obtain ⟨g1, h⟩ := h
  refine i_icmp (t := 26) r_108_6 (n_108_6 _) rfl (T_ge g1 ⟨by omega, by omega⟩) (fun c2 => ?_) (fun c2 => ?_)
  · replace h := h.1 c2
    refine i_iconst r_108_26 (n_108_26 _) ?_
    exact i_ireturn r_108_27 (n_108_27 _) rfl h
  · replace h := h.2 c2
    refine i_aload_n (a := 2) r_108_9 (n_108_9 _) rfl ?_
    refine i_iload_n (x := x2) r_108_10 (n_108_10 _) rfl ?_
    refine wp_virt (b := 2) (rest := []) (Ls := [(0, rf 2), (1, iv x2)]) r_108_11 (n_108_11 _) rfl ⟨rfl, rfl, by decide, by decide⟩ rfl rfl lf_2 ⟨rfl, Nat.le_of_ble_eq_true rfl, Nat.le_of_ble_eq_true rfl⟩ rfl h ?_
    intro o3 s3 h
    rcases h with ⟨y3, q4, rfl, h⟩ | ⟨e3, rfl, h⟩
    · refine .inl ⟨some (iv y3), rfl, ?_⟩
      show wp S 108 14 [(0, rf 2), (1, iv x1), (2, iv x2)] [iv y3] s3 Q
      refine i_iload_n (x := x1) r_108_14 (n_108_14 _) rfl ?_
      obtain ⟨g5, h⟩ := h
      refine i_icmp (t := 20) r_108_15 (n_108_15 _) rfl (T_lt q4 g5) (fun c6 => ?_) (fun c6 => ?_)
      · replace h := h.1 c6
        refine i_iinc (x := x2) (l' := [(0, rf 2), (1, iv x1), (2, iv (x2 + 16))]) r_108_20 (n_108_20 _) (by decide) rfl rfl ?_
        refine i_goto (t := 2) r_108_23 (n_108_23 _) rfl ?_
        exact wp_pr (l' := [(0, rf 2), (1, iv x1), (2, iv (x2 + 16))]) rfl h
      · replace h := h.2 c6
        refine i_iload_n (x := x2) r_108_18 (n_108_18 _) rfl ?_
        exact i_ireturn r_108_19 (n_108_19 _) rfl h
    · skip
      exact h.elim
theorem r_109_0 : xfetch 109 0 = some (.iload_n 1, 1) := by decide +kernel
theorem n_109_0 : ∀ l, xpr 109 0 l = l := xpr_no (by decide +kernel)
theorem r_109_1 : xfetch 109 1 = some (.iload_n 2, 1) := by decide +kernel
theorem n_109_1 : ∀ l, xpr 109 1 l = l := xpr_no (by decide +kernel)
theorem r_109_2 : xfetch 109 2 = some (.iadd, 1) := by decide +kernel
theorem n_109_2 : ∀ l, xpr 109 2 l = l := xpr_no (by decide +kernel)
theorem r_109_3 : xfetch 109 3 = some (.sipush 1024, 3) := by decide +kernel
theorem n_109_3 : ∀ l, xpr 109 3 l = l := xpr_no (by decide +kernel)
theorem r_109_6 : xfetch 109 6 = some (.invokestatic 472, 3) := by decide +kernel
theorem n_109_6 : ∀ l, xpr 109 6 l = l := xpr_no (by decide +kernel)
theorem r_109_9 : xfetch 109 9 = some (.istore_n 3, 1) := by decide +kernel
theorem n_109_9 : ∀ l, xpr 109 9 l = l := xpr_no (by decide +kernel)
theorem r_109_10 : xfetch 109 10 = some (.iload_n 1, 1) := by decide +kernel
theorem n_109_10 : ∀ l, xpr 109 10 l = l := xpr_no (by decide +kernel)
theorem r_109_11 : xfetch 109 11 = some (.iconst 0, 1) := by decide +kernel
theorem n_109_11 : ∀ l, xpr 109 11 l = l := xpr_no (by decide +kernel)
theorem r_109_12 : xfetch 109 12 = some (.invokestatic 319, 3) := by decide +kernel
theorem n_109_12 : ∀ l, xpr 109 12 l = l := xpr_no (by decide +kernel)
theorem r_109_15 : xfetch 109 15 = some (.istore 4, 2) := by decide +kernel
theorem n_109_15 : ∀ l, xpr 109 15 l = l := xpr_no (by decide +kernel)
theorem r_109_17 : xfetch 109 17 = some (.iload 4, 2) := by decide +kernel
theorem r_109_19 : xfetch 109 19 = some (.iload_n 3, 1) := by decide +kernel
theorem n_109_19 : ∀ l, xpr 109 19 l = l := xpr_no (by decide +kernel)
theorem r_109_20 : xfetch 109 20 = some (.if_icmp .ge 20, 3) := by decide +kernel
theorem n_109_20 : ∀ l, xpr 109 20 l = l := xpr_no (by decide +kernel)
theorem r_109_23 : xfetch 109 23 = some (.aload_n 0, 1) := by decide +kernel
theorem n_109_23 : ∀ l, xpr 109 23 l = l := xpr_no (by decide +kernel)
theorem r_109_24 : xfetch 109 24 = some (.getfield 10, 3) := by decide +kernel
theorem n_109_24 : ∀ l, xpr 109 24 l = l := xpr_no (by decide +kernel)
theorem r_109_27 : xfetch 109 27 = some (.getfield 299, 3) := by decide +kernel
theorem n_109_27 : ∀ l, xpr 109 27 l = l := xpr_no (by decide +kernel)
theorem r_109_30 : xfetch 109 30 = some (.iload 4, 2) := by decide +kernel
theorem n_109_30 : ∀ l, xpr 109 30 l = l := xpr_no (by decide +kernel)
theorem r_109_32 : xfetch 109 32 = some (.iconst 0, 1) := by decide +kernel
theorem n_109_32 : ∀ l, xpr 109 32 l = l := xpr_no (by decide +kernel)
theorem r_109_33 : xfetch 109 33 = some (.bastore, 1) := by decide +kernel
theorem n_109_33 : ∀ l, xpr 109 33 l = l := xpr_no (by decide +kernel)
theorem r_109_34 : xfetch 109 34 = some (.iinc 4 1, 3) := by decide +kernel
theorem n_109_34 : ∀ l, xpr 109 34 l = l := xpr_no (by decide +kernel)
theorem r_109_37 : xfetch 109 37 = some (.goto (-20), 3) := by decide +kernel
theorem n_109_37 : ∀ l, xpr 109 37 l = l := xpr_no (by decide +kernel)
theorem r_109_40 : xfetch 109 40 = some (.return_, 1) := by decide +kernel
theorem n_109_40 : ∀ l, xpr 109 40 l = l := xpr_no (by decide +kernel)
theorem v_RL_clearMemory_0 {S : Option (Nat × (Nat → Int32))} {s : zSt} {Q : Option Value ⊕ Nat → zSt → Prop} {x1 : Int} {x2 : Int} 
    (h : wp S 16 0 [(0, iv (x1 + x2)), (1, iv 1024)] [] s (fun o1 s1 => zkI (fun y1 => wp S 15 0 [(0, iv x1), (1, iv 0)] [] s1 (fun o3 s3 => zkI (fun y3 => wp S 109 17 [(0, rf 2), (3, iv y1), (4, iv y3)] [] s3 Q) (fun e3 => False) o3)) (fun e1 => False) o1)) :
    wp S 109 0 [(0, rf 2), (1, iv x1), (2, iv x2)] [] s Q := by
  refine i_iload_n (x := x1) r_109_0 (n_109_0 _) rfl ?_
  refine i_iload_n (x := x2) r_109_1 (n_109_1 _) rfl ?_
  refine i_iadd r_109_2 (n_109_2 _) ?_
  refine i_sipush r_109_3 (n_109_3 _) rfl ?_
  refine wp_stat (rest := []) (Ls := [(0, iv (x1 + x2)), (1, iv 1024)]) r_109_6 (n_109_6 _) rfl ⟨rfl, by decide, by decide, by decide⟩ rfl rfl ⟨rfl, Nat.le_of_ble_eq_true rfl, Nat.le_of_ble_eq_true rfl⟩ rfl h ?_
  intro o1 s1 h
  rcases h with ⟨y1, q2, rfl, h⟩ | ⟨e1, rfl, h⟩
  · refine .inl ⟨some (iv y1), rfl, ?_⟩
    show wp S 109 9 [(0, rf 2), (1, iv x1), (2, iv x2)] [iv y1] s1 Q
    refine i_istore_n (l' := [(0, rf 2), (1, iv x1), (2, iv x2), (3, iv y1)]) r_109_9 (n_109_9 _) (by decide) rfl ?_
    refine i_iload_n (x := x1) r_109_10 (n_109_10 _) rfl ?_
    refine i_iconst r_109_11 (n_109_11 _) ?_
    refine wp_stat (rest := []) (Ls := [(0, iv x1), (1, iv 0)]) r_109_12 (n_109_12 _) rfl ⟨rfl, by decide, by decide, by decide⟩ rfl rfl ⟨rfl, Nat.le_of_ble_eq_true rfl, Nat.le_of_ble_eq_true rfl⟩ rfl h ?_
    intro o3 s3 h
    rcases h with ⟨y3, q4, rfl, h⟩ | ⟨e3, rfl, h⟩
    · refine .inl ⟨some (iv y3), rfl, ?_⟩
      show wp S 109 15 [(0, rf 2), (1, iv x1), (2, iv x2), (3, iv y1)] [iv y3] s3 Q
      refine i_istore (l' := [(0, rf 2), (1, iv x1), (2, iv x2), (3, iv y1), (4, iv y3)]) r_109_15 (n_109_15 _) (by decide) rfl ?_
      exact wp_pr (l' := [(0, rf 2), (3, iv y1), (4, iv y3)]) rfl h
    · skip
      exact h.elim
  · skip
    exact h.elim
theorem v_RL_clearMemory_17 {S : Option (Nat × (Nat → Int32))} {s : zSt} {Q : Option Value ⊕ Nat → zSt → Prop} {x3 : Int} {x4 : Int} 
    (h : rng x4 ∧ (rng x3 ∧ ((x3 ≤ x4 → Q rU s) ∧ (x4 < x3 → (0 ≤ x4 ∧ x4 < 1024) ∧ (wp S 109 17 [(0, rf 2), (3, iv x3), (4, iv (x4 + 1))] [] (zwI s 6 x4 (zi2b 0)) Q))))) :
    wp S 109 17 [(0, rf 2), (3, iv x3), (4, iv x4)] [] s Q := by
  refine i_iload (x := x4) r_109_17 rfl rfl ?_
  refine i_iload_n (x := x3) r_109_19 (n_109_19 _) rfl ?_
  obtain ⟨g1, h⟩ := h
  obtain ⟨g2, h⟩ := h
  refine i_icmp (t := 40) r_109_20 (n_109_20 _) rfl (T_ge g1 g2) (fun c3 => ?_) (fun c3 => ?_)
  · replace h := h.1 c3
    exact i_return r_109_40 (n_109_40 _) rfl h
  · replace h := h.2 c3
    refine i_aload_n (a := 2) r_109_23 (n_109_23 _) rfl ?_
    refine i_getR (a := 2) (b := 3) r_109_24 (n_109_24 _) rfl rfl rfl (by omega) lf_2 (by omega) ?_
    refine i_getR (a := 3) (b := 6) r_109_27 (n_109_27 _) rfl rfl rfl (by omega) lf_3 (by omega) ?_
    refine i_iload (x := x4) r_109_30 (n_109_30 _) rfl ?_
    refine i_iconst r_109_32 (n_109_32 _) ?_
    obtain ⟨g4, h⟩ := h
    refine i_bastore (a := 6) (j := x4) (x := 0) r_109_33 (n_109_33 _) lf_6 ⟨by omega, by omega⟩ (by omega) (by omega) ?_
    refine i_iinc (x := x4) (l' := [(0, rf 2), (3, iv x3), (4, iv (x4 + 1))]) r_109_34 (n_109_34 _) (by decide) rfl rfl ?_
    refine i_goto (t := 17) r_109_37 (n_109_37 _) rfl ?_
    exact wp_pr (l' := [(0, rf 2), (3, iv x3), (4, iv (x4 + 1))]) rfl h
theorem r_111_0 : xfetch 111 0 = some (.aload_n 0, 1) := by decide +kernel
theorem n_111_0 : ∀ l, xpr 111 0 l = l := xpr_no (by decide +kernel)
theorem r_111_1 : xfetch 111 1 = some (.iload_n 1, 1) := by decide +kernel
theorem n_111_1 : ∀ l, xpr 111 1 l = l := xpr_no (by decide +kernel)
theorem r_111_2 : xfetch 111 2 = some (.invokevirtual 284, 3) := by decide +kernel
theorem n_111_2 : ∀ l, xpr 111 2 l = l := xpr_no (by decide +kernel)
theorem r_111_5 : xfetch 111 5 = some (.aload_n 0, 1) := by decide +kernel
theorem n_111_5 : ∀ l, xpr 111 5 l = l := xpr_no (by decide +kernel)
theorem r_111_6 : xfetch 111 6 = some (.invokevirtual 77, 3) := by decide +kernel
theorem n_111_6 : ∀ l, xpr 111 6 l = l := xpr_no (by decide +kernel)
theorem r_111_9 : xfetch 111 9 = some (.aload_n 0, 1) := by decide +kernel
theorem n_111_9 : ∀ l, xpr 111 9 l = l := xpr_no (by decide +kernel)
theorem r_111_10 : xfetch 111 10 = some (.getfield 10, 3) := by decide +kernel
theorem n_111_10 : ∀ l, xpr 111 10 l = l := xpr_no (by decide +kernel)
theorem r_111_13 : xfetch 111 13 = some (.getfield 256, 3) := by decide +kernel
theorem n_111_13 : ∀ l, xpr 111 13 l = l := xpr_no (by decide +kernel)
theorem r_111_16 : xfetch 111 16 = some (.iload_n 1, 1) := by decide +kernel
theorem n_111_16 : ∀ l, xpr 111 16 l = l := xpr_no (by decide +kernel)
theorem r_111_17 : xfetch 111 17 = some (.aaload, 1) := by decide +kernel
theorem n_111_17 : ∀ l, xpr 111 17 l = l := xpr_no (by decide +kernel)
theorem r_111_18 : xfetch 111 18 = some (.iconst 0, 1) := by decide +kernel
theorem n_111_18 : ∀ l, xpr 111 18 l = l := xpr_no (by decide +kernel)
theorem r_111_19 : xfetch 111 19 = some (.putfield 260, 3) := by decide +kernel
theorem n_111_19 : ∀ l, xpr 111 19 l = l := xpr_no (by decide +kernel)
theorem r_111_22 : xfetch 111 22 = some (.aload_n 0, 1) := by decide +kernel
theorem n_111_22 : ∀ l, xpr 111 22 l = l := xpr_no (by decide +kernel)
theorem r_111_23 : xfetch 111 23 = some (.getfield 10, 3) := by decide +kernel
theorem n_111_23 : ∀ l, xpr 111 23 l = l := xpr_no (by decide +kernel)
theorem r_111_26 : xfetch 111 26 = some (.getfield 256, 3) := by decide +kernel
theorem n_111_26 : ∀ l, xpr 111 26 l = l := xpr_no (by decide +kernel)
theorem r_111_29 : xfetch 111 29 = some (.iload_n 1, 1) := by decide +kernel
theorem n_111_29 : ∀ l, xpr 111 29 l = l := xpr_no (by decide +kernel)
theorem r_111_30 : xfetch 111 30 = some (.aaload, 1) := by decide +kernel
theorem n_111_30 : ∀ l, xpr 111 30 l = l := xpr_no (by decide +kernel)
theorem r_111_31 : xfetch 111 31 = some (.getfield 280, 3) := by decide +kernel
theorem n_111_31 : ∀ l, xpr 111 31 l = l := xpr_no (by decide +kernel)
theorem r_111_34 : xfetch 111 34 = some (.ireturn, 1) := by decide +kernel
theorem n_111_34 : ∀ l, xpr 111 34 l = l := xpr_no (by decide +kernel)
theorem v_RL_removeTable_0 {S : Option (Nat × (Nat → Int32))} {s : zSt} {Q : Option Value ⊕ Nat → zSt → Prop} {x1 : Int} 
    (h : wp S 112 0 [(0, rf 2), (1, iv x1)] [] s (fun o1 s1 => zkU (wp S 18 0 [(0, rf 2)] [] s1 (fun o3 s3 => zkU ((0 ≤ x1 ∧ x1 < 3) ∧ (Q (rI (zI (zwI s3 (31 + x1) 0 0) (31 + x1) 6)) (zwI s3 (31 + x1) 0 0))) (fun e3 => False) o3)) (fun e1 => Q (rT e1) s1) o1)) :
    wp S 111 0 [(0, rf 2), (1, iv x1)] [] s Q := by
  refine i_aload_n (a := 2) r_111_0 (n_111_0 _) rfl ?_
  refine i_iload_n (x := x1) r_111_1 (n_111_1 _) rfl ?_
  refine wp_virt (b := 2) (rest := []) (Ls := [(0, rf 2), (1, iv x1)]) r_111_2 (n_111_2 _) rfl ⟨rfl, rfl, by decide, by decide⟩ rfl rfl lf_2 ⟨rfl, Nat.le_of_ble_eq_true rfl, Nat.le_of_ble_eq_true rfl⟩ rfl h ?_
  intro o1 s1 h
  rcases h with ⟨rfl, h⟩ | ⟨e1, rfl, h⟩
  · refine .inl ⟨none, rfl, ?_⟩
    refine i_aload_n (a := 2) r_111_5 (n_111_5 _) rfl ?_
    refine wp_virt (b := 2) (rest := []) (Ls := [(0, rf 2)]) r_111_6 (n_111_6 _) rfl ⟨rfl, rfl, by decide, by decide⟩ rfl rfl lf_2 ⟨rfl, Nat.le_of_ble_eq_true rfl, Nat.le_of_ble_eq_true rfl⟩ rfl h ?_
    intro o3 s3 h
    rcases h with ⟨rfl, h⟩ | ⟨e3, rfl, h⟩
    · refine .inl ⟨none, rfl, ?_⟩
      refine i_aload_n (a := 2) r_111_9 (n_111_9 _) rfl ?_
      refine i_getR (a := 2) (b := 3) r_111_10 (n_111_10 _) rfl rfl rfl (by omega) lf_2 (by omega) ?_
      refine i_getR (a := 3) (b := 5) r_111_13 (n_111_13 _) rfl rfl rfl (by omega) lf_3 (by omega) ?_
      refine i_iload_n (x := x1) r_111_16 (n_111_16 _) rfl ?_
      obtain ⟨g5, h⟩ := h
      refine i_aaload (c := 6) (a := 5) (j := x1) (b := 31 + x1) r_111_17 (n_111_17 _) lf_5 ⟨by omega, by omega⟩ (by omega) (by omega) rfl (by omega) ?_
      have t6 := e_6 (j := x1) lf_5 (by omega) (by omega)
      rw [show 5 + 26 + 1 * x1 = 31 + x1 by omega] at t6
      refine i_iconst r_111_18 (n_111_18 _) ?_
      refine i_putI (a := 31 + x1) (x := 0) r_111_19 (n_111_19 _) rfl (.inr ⟨rfl, by decide⟩) rfl t6 ⟨by omega, by omega⟩ ?_
      refine i_aload_n (a := 2) r_111_22 (n_111_22 _) rfl ?_
      refine i_getR (a := 2) (b := 3) r_111_23 (n_111_23 _) rfl rfl rfl (by omega) lf_2 (by omega) ?_
      refine i_getR (a := 3) (b := 5) r_111_26 (n_111_26 _) rfl rfl rfl (by omega) lf_3 (by omega) ?_
      refine i_iload_n (x := x1) r_111_29 (n_111_29 _) rfl ?_
      refine i_aaload (c := 6) (a := 5) (j := x1) (b := 31 + x1) r_111_30 (n_111_30 _) lf_5 ⟨by omega, by omega⟩ (by omega) (by omega) rfl (by omega) ?_
      have t7 := e_6 (j := x1) lf_5 (by omega) (by omega)
      rw [show 5 + 26 + 1 * x1 = 31 + x1 by omega] at t7
      refine i_getI (a := 31 + x1) r_111_31 (n_111_31 _) rfl (by decide) t7 (fun q8 => ?_)
      exact i_ireturn r_111_34 (n_111_34 _) rfl h
    · skip
      exact h.elim
  · skip
    exact .inr ⟨e1, rfl, .inl ⟨rfl, h⟩⟩
theorem r_112_0 : xfetch 112 0 = some (.iload_n 1, 1) := by decide +kernel
theorem n_112_0 : ∀ l, xpr 112 0 l = l := xpr_no (by decide +kernel)
theorem r_112_1 : xfetch 112 1 = some (.ifCond .lt 23, 3) := by decide +kernel
theorem n_112_1 : ∀ l, xpr 112 1 l = l := xpr_no (by decide +kernel)
theorem r_112_4 : xfetch 112 4 = some (.iload_n 1, 1) := by decide +kernel
theorem n_112_4 : ∀ l, xpr 112 4 l = l := xpr_no (by decide +kernel)
theorem r_112_5 : xfetch 112 5 = some (.iconst 3, 1) := by decide +kernel
theorem n_112_5 : ∀ l, xpr 112 5 l = l := xpr_no (by decide +kernel)
theorem r_112_6 : xfetch 112 6 = some (.if_icmp .ge 18, 3) := by decide +kernel
theorem n_112_6 : ∀ l, xpr 112 6 l = l := xpr_no (by decide +kernel)
theorem r_112_9 : xfetch 112 9 = some (.aload_n 0, 1) := by decide +kernel
theorem n_112_9 : ∀ l, xpr 112 9 l = l := xpr_no (by decide +kernel)
theorem r_112_10 : xfetch 112 10 = some (.getfield 10, 3) := by decide +kernel
theorem n_112_10 : ∀ l, xpr 112 10 l = l := xpr_no (by decide +kernel)
theorem r_112_13 : xfetch 112 13 = some (.getfield 256, 3) := by decide +kernel
theorem n_112_13 : ∀ l, xpr 112 13 l = l := xpr_no (by decide +kernel)
theorem r_112_16 : xfetch 112 16 = some (.iload_n 1, 1) := by decide +kernel
theorem n_112_16 : ∀ l, xpr 112 16 l = l := xpr_no (by decide +kernel)
theorem r_112_17 : xfetch 112 17 = some (.aaload, 1) := by decide +kernel
theorem n_112_17 : ∀ l, xpr 112 17 l = l := xpr_no (by decide +kernel)
theorem r_112_18 : xfetch 112 18 = some (.getfield 260, 3) := by decide +kernel
theorem n_112_18 : ∀ l, xpr 112 18 l = l := xpr_no (by decide +kernel)
theorem r_112_21 : xfetch 112 21 = some (.ifCond .ne 14, 3) := by decide +kernel
theorem n_112_21 : ∀ l, xpr 112 21 l = l := xpr_no (by decide +kernel)
theorem r_112_24 : xfetch 112 24 = some (.new 157, 3) := by decide +kernel
theorem n_112_24 : ∀ l, xpr 112 24 l = l := xpr_no (by decide +kernel)
theorem r_112_35 : xfetch 112 35 = some (.return_, 1) := by decide +kernel
theorem n_112_35 : ∀ l, xpr 112 35 l = l := xpr_no (by decide +kernel)
theorem v_RL_checkTable_0 {S : Option (Nat × (Nat → Int32))} {s : zSt} {Q : Option Value ⊕ Nat → zSt → Prop} {x1 : Int} 
    (h : rng x1 ∧ ((x1 < 0 → Q (rT 2) (zbump s)) ∧ (0 ≤ x1 → (3 ≤ x1 → Q (rT 2) (zbump s)) ∧ (x1 < 3 → (0 ≤ x1 ∧ x1 < 3) ∧ (((zI s (31 + x1) 0) ≠ 0 → Q rU s) ∧ ((zI s (31 + x1) 0) = 0 → Q (rT 2) (zbump s))))))) :
    wp S 112 0 [(0, rf 2), (1, iv x1)] [] s Q := by
  refine i_iload_n (x := x1) r_112_0 (n_112_0 _) rfl ?_
  obtain ⟨g1, h⟩ := h
  refine i_if (t := 24) r_112_1 (n_112_1 _) rfl (T_lt g1 ⟨by omega, by omega⟩) (fun c2 => ?_) (fun c2 => ?_)
  · replace h := h.1 c2
    exact i_throw r_112_24 (n_112_24 _) rfl (by decide) h
  · replace h := h.2 c2
    refine i_iload_n (x := x1) r_112_4 (n_112_4 _) rfl ?_
    refine i_iconst r_112_5 (n_112_5 _) ?_
    refine i_icmp (t := 24) r_112_6 (n_112_6 _) rfl (T_ge g1 ⟨by omega, by omega⟩) (fun c3 => ?_) (fun c3 => ?_)
    · replace h := h.1 c3
      exact i_throw r_112_24 (n_112_24 _) rfl (by decide) h
    · replace h := h.2 c3
      refine i_aload_n (a := 2) r_112_9 (n_112_9 _) rfl ?_
      refine i_getR (a := 2) (b := 3) r_112_10 (n_112_10 _) rfl rfl rfl (by omega) lf_2 (by omega) ?_
      refine i_getR (a := 3) (b := 5) r_112_13 (n_112_13 _) rfl rfl rfl (by omega) lf_3 (by omega) ?_
      refine i_iload_n (x := x1) r_112_16 (n_112_16 _) rfl ?_
      obtain ⟨g4, h⟩ := h
      refine i_aaload (c := 6) (a := 5) (j := x1) (b := 31 + x1) r_112_17 (n_112_17 _) lf_5 ⟨by omega, by omega⟩ (by omega) (by omega) rfl (by omega) ?_
      have t5 := e_6 (j := x1) lf_5 (by omega) (by omega)
      rw [show 5 + 26 + 1 * x1 = 31 + x1 by omega] at t5
      refine i_getI (a := 31 + x1) r_112_18 (n_112_18 _) rfl (by decide) t5 (fun q6 => ?_)
      refine i_if (t := 35) r_112_21 (n_112_21 _) rfl (T_ne q6 ⟨by omega, by omega⟩) (fun c7 => ?_) (fun c7 => ?_)
      · replace h := h.1 c7
        exact i_return r_112_35 (n_112_35 _) rfl h
      · replace h := h.2 c7
        exact i_throw r_112_24 (n_112_24 _) rfl (by decide) h
theorem r_114_0 : xfetch 114 0 = some (.aload_n 0, 1) := by decide +kernel
theorem n_114_0 : ∀ l, xpr 114 0 l = l := xpr_no (by decide +kernel)
theorem r_114_1 : xfetch 114 1 = some (.iload_n 1, 1) := by decide +kernel
theorem n_114_1 : ∀ l, xpr 114 1 l = l := xpr_no (by decide +kernel)
theorem r_114_2 : xfetch 114 2 = some (.invokevirtual 284, 3) := by decide +kernel
theorem n_114_2 : ∀ l, xpr 114 2 l = l := xpr_no (by decide +kernel)
theorem r_114_5 : xfetch 114 5 = some (.iload_n 2, 1) := by decide +kernel
theorem n_114_5 : ∀ l, xpr 114 5 l = l := xpr_no (by decide +kernel)
theorem r_114_6 : xfetch 114 6 = some (.iconst 5, 1) := by decide +kernel
theorem n_114_6 : ∀ l, xpr 114 6 l = l := xpr_no (by decide +kernel)
theorem r_114_7 : xfetch 114 7 = some (.invokestatic 150, 3) := by decide +kernel
theorem n_114_7 : ∀ l, xpr 114 7 l = l := xpr_no (by decide +kernel)
theorem r_114_10 : xfetch 114 10 = some (.aload_n 0, 1) := by decide +kernel
theorem n_114_10 : ∀ l, xpr 114 10 l = l := xpr_no (by decide +kernel)
theorem r_114_11 : xfetch 114 11 = some (.iload_n 1, 1) := by decide +kernel
theorem n_114_11 : ∀ l, xpr 114 11 l = l := xpr_no (by decide +kernel)
theorem r_114_12 : xfetch 114 12 = some (.iload_n 2, 1) := by decide +kernel
theorem n_114_12 : ∀ l, xpr 114 12 l = l := xpr_no (by decide +kernel)
theorem r_114_13 : xfetch 114 13 = some (.invokevirtual 287, 3) := by decide +kernel
theorem n_114_13 : ∀ l, xpr 114 13 l = l := xpr_no (by decide +kernel)
theorem r_114_16 : xfetch 114 16 = some (.ireturn, 1) := by decide +kernel
theorem n_114_16 : ∀ l, xpr 114 16 l = l := xpr_no (by decide +kernel)
theorem v_RL_tableInfo_0 {S : Option (Nat × (Nat → Int32))} {s : zSt} {Q : Option Value ⊕ Nat → zSt → Prop} {x1 : Int} {x2 : Int} 
    (h : wp S 112 0 [(0, rf 2), (1, iv x1)] [] s (fun o1 s1 => zkU (wp S 60 0 [(0, iv x2), (1, iv 5)] [] s1 (fun o3 s3 => zkU (wp S 33 0 [(0, rf 2), (1, iv x1), (2, iv x2)] [] s3 (fun o5 s5 => zkI (fun y5 => Q (rI y5) s5) (fun e5 => False) o5)) (fun e3 => Q (rT e3) s3) o3)) (fun e1 => Q (rT e1) s1) o1)) :
    wp S 114 0 [(0, rf 2), (1, iv x1), (2, iv x2)] [] s Q := by
  refine i_aload_n (a := 2) r_114_0 (n_114_0 _) rfl ?_
  refine i_iload_n (x := x1) r_114_1 (n_114_1 _) rfl ?_
  refine wp_virt (b := 2) (rest := []) (Ls := [(0, rf 2), (1, iv x1)]) r_114_2 (n_114_2 _) rfl ⟨rfl, rfl, by decide, by decide⟩ rfl rfl lf_2 ⟨rfl, Nat.le_of_ble_eq_true rfl, Nat.le_of_ble_eq_true rfl⟩ rfl h ?_
  intro o1 s1 h
  rcases h with ⟨rfl, h⟩ | ⟨e1, rfl, h⟩
  · refine .inl ⟨none, rfl, ?_⟩
    refine i_iload_n (x := x2) r_114_5 (n_114_5 _) rfl ?_
    refine i_iconst r_114_6 (n_114_6 _) ?_
    refine wp_stat (rest := []) (Ls := [(0, iv x2), (1, iv 5)]) r_114_7 (n_114_7 _) rfl ⟨rfl, by decide, by decide, by decide⟩ rfl rfl ⟨rfl, Nat.le_of_ble_eq_true rfl, Nat.le_of_ble_eq_true rfl⟩ rfl h ?_
    intro o3 s3 h
    rcases h with ⟨rfl, h⟩ | ⟨e3, rfl, h⟩
    · refine .inl ⟨none, rfl, ?_⟩
      refine i_aload_n (a := 2) r_114_10 (n_114_10 _) rfl ?_
      refine i_iload_n (x := x1) r_114_11 (n_114_11 _) rfl ?_
      refine i_iload_n (x := x2) r_114_12 (n_114_12 _) rfl ?_
      refine wp_virt (b := 2) (rest := []) (Ls := [(0, rf 2), (1, iv x1), (2, iv x2)]) r_114_13 (n_114_13 _) rfl ⟨rfl, rfl, by decide, by decide⟩ rfl rfl lf_2 ⟨rfl, Nat.le_of_ble_eq_true rfl, Nat.le_of_ble_eq_true rfl⟩ rfl h ?_
      intro o5 s5 h
      rcases h with ⟨y5, q6, rfl, h⟩ | ⟨e5, rfl, h⟩
      · refine .inl ⟨some (iv y5), rfl, ?_⟩
        show wp S 114 16 [(0, rf 2), (1, iv x1), (2, iv x2)] [iv y5] s5 Q
        exact i_ireturn r_114_16 (n_114_16 _) rfl h
      · skip
        exact h.elim
    · skip
      exact .inr ⟨e3, rfl, rfl, .inl ⟨rfl, h⟩⟩
  · skip
    exact .inr ⟨e1, rfl, .inl ⟨rfl, h⟩⟩
theorem r_116_0 : xfetch 116 0 = some (.aload_n 0, 1) := by decide +kernel
theorem n_116_0 : ∀ l, xpr 116 0 l = l := xpr_no (by decide +kernel)
theorem r_116_1 : xfetch 116 1 = some (.iload_n 1, 1) := by decide +kernel
theorem n_116_1 : ∀ l, xpr 116 1 l = l := xpr_no (by decide +kernel)
theorem r_116_2 : xfetch 116 2 = some (.iload_n 2, 1) := by decide +kernel
theorem n_116_2 : ∀ l, xpr 116 2 l = l := xpr_no (by decide +kernel)
theorem r_116_3 : xfetch 116 3 = some (.iload_n 3, 1) := by decide +kernel
theorem n_116_3 : ∀ l, xpr 116 3 l = l := xpr_no (by decide +kernel)
theorem r_116_4 : xfetch 116 4 = some (.invokevirtual 290, 3) := by decide +kernel
theorem n_116_4 : ∀ l, xpr 116 4 l = l := xpr_no (by decide +kernel)
theorem r_116_7 : xfetch 116 7 = some (.aload_n 0, 1) := by decide +kernel
theorem n_116_7 : ∀ l, xpr 116 7 l = l := xpr_no (by decide +kernel)
theorem r_116_8 : xfetch 116 8 = some (.iload_n 1, 1) := by decide +kernel
theorem n_116_8 : ∀ l, xpr 116 8 l = l := xpr_no (by decide +kernel)
theorem r_116_9 : xfetch 116 9 = some (.invokevirtual 293, 3) := by decide +kernel
theorem n_116_9 : ∀ l, xpr 116 9 l = l := xpr_no (by decide +kernel)
theorem r_116_12 : xfetch 116 12 = some (.aload_n 0, 1) := by decide +kernel
theorem n_116_12 : ∀ l, xpr 116 12 l = l := xpr_no (by decide +kernel)
theorem r_116_13 : xfetch 116 13 = some (.getfield 47, 3) := by decide +kernel
theorem n_116_13 : ∀ l, xpr 116 13 l = l := xpr_no (by decide +kernel)
theorem r_116_16 : xfetch 116 16 = some (.iload_n 2, 1) := by decide +kernel
theorem n_116_16 : ∀ l, xpr 116 16 l = l := xpr_no (by decide +kernel)
theorem r_116_17 : xfetch 116 17 = some (.iload_n 3, 1) := by decide +kernel
theorem n_116_17 : ∀ l, xpr 116 17 l = l := xpr_no (by decide +kernel)
theorem r_116_18 : xfetch 116 18 = some (.invokevirtual 296, 3) := by decide +kernel
theorem n_116_18 : ∀ l, xpr 116 18 l = l := xpr_no (by decide +kernel)
theorem r_116_21 : xfetch 116 21 = some (.ireturn, 1) := by decide +kernel
theorem n_116_21 : ∀ l, xpr 116 21 l = l := xpr_no (by decide +kernel)
theorem v_RL_address_0 {S : Option (Nat × (Nat → Int32))} {s : zSt} {Q : Option Value ⊕ Nat → zSt → Prop} {x1 : Int} {x2 : Int} {x3 : Int} 
    (h : wp S 117 0 [(0, rf 2), (1, iv x1), (2, iv x2), (3, iv x3)] [] s (fun o1 s1 => zkU (wp S 120 0 [(0, rf 2), (1, iv x1)] [] s1 (fun o3 s3 => zkU (wp S 122 0 [(0, rf 48), (1, iv x2), (2, iv x3)] [] s3 (fun o5 s5 => zkI (fun y5 => Q (rI y5) s5) (fun e5 => False) o5)) (fun e3 => False) o3)) (fun e1 => Q (rT e1) s1) o1)) :
    wp S 116 0 [(0, rf 2), (1, iv x1), (2, iv x2), (3, iv x3)] [] s Q := by
  refine i_aload_n (a := 2) r_116_0 (n_116_0 _) rfl ?_
  refine i_iload_n (x := x1) r_116_1 (n_116_1 _) rfl ?_
  refine i_iload_n (x := x2) r_116_2 (n_116_2 _) rfl ?_
  refine i_iload_n (x := x3) r_116_3 (n_116_3 _) rfl ?_
  refine wp_virt (b := 2) (rest := []) (Ls := [(0, rf 2), (1, iv x1), (2, iv x2), (3, iv x3)]) r_116_4 (n_116_4 _) rfl ⟨rfl, rfl, by decide, by decide⟩ rfl rfl lf_2 ⟨rfl, Nat.le_of_ble_eq_true rfl, Nat.le_of_ble_eq_true rfl⟩ rfl h ?_
  intro o1 s1 h
  rcases h with ⟨rfl, h⟩ | ⟨e1, rfl, h⟩
  · refine .inl ⟨none, rfl, ?_⟩
    refine i_aload_n (a := 2) r_116_7 (n_116_7 _) rfl ?_
    refine i_iload_n (x := x1) r_116_8 (n_116_8 _) rfl ?_
    refine wp_virt (b := 2) (rest := []) (Ls := [(0, rf 2), (1, iv x1)]) r_116_9 (n_116_9 _) rfl ⟨rfl, rfl, by decide, by decide⟩ rfl rfl lf_2 ⟨rfl, Nat.le_of_ble_eq_true rfl, Nat.le_of_ble_eq_true rfl⟩ rfl h ?_
    intro o3 s3 h
    rcases h with ⟨rfl, h⟩ | ⟨e3, rfl, h⟩
    · refine .inl ⟨none, rfl, ?_⟩
      refine i_aload_n (a := 2) r_116_12 (n_116_12 _) rfl ?_
      refine i_getR (a := 2) (b := 48) r_116_13 (n_116_13 _) rfl rfl rfl (by omega) lf_2 (by omega) ?_
      refine i_iload_n (x := x2) r_116_16 (n_116_16 _) rfl ?_
      refine i_iload_n (x := x3) r_116_17 (n_116_17 _) rfl ?_
      refine wp_virt (b := 48) (rest := []) (Ls := [(0, rf 48), (1, iv x2), (2, iv x3)]) r_116_18 (n_116_18 _) rfl ⟨rfl, rfl, by decide, by decide⟩ rfl rfl lf_48 ⟨rfl, Nat.le_of_ble_eq_true rfl, Nat.le_of_ble_eq_true rfl⟩ rfl h ?_
      intro o5 s5 h
      rcases h with ⟨y5, q6, rfl, h⟩ | ⟨e5, rfl, h⟩
      · refine .inl ⟨some (iv y5), rfl, ?_⟩
        show wp S 116 21 [(0, rf 2), (1, iv x1), (2, iv x2), (3, iv x3)] [iv y5] s5 Q
        exact i_ireturn r_116_21 (n_116_21 _) rfl h
      · skip
        exact h.elim
    · skip
      exact h.elim
  · skip
    exact .inr ⟨e1, rfl, .inl ⟨rfl, h⟩⟩
theorem r_117_0 : xfetch 117 0 = some (.aload_n 0, 1) := by decide +kernel
theorem n_117_0 : ∀ l, xpr 117 0 l = l := xpr_no (by decide +kernel)
theorem r_117_1 : xfetch 117 1 = some (.iload_n 1, 1) := by decide +kernel
theorem n_117_1 : ∀ l, xpr 117 1 l = l := xpr_no (by decide +kernel)
theorem r_117_2 : xfetch 117 2 = some (.iload_n 2, 1) := by decide +kernel
theorem n_117_2 : ∀ l, xpr 117 2 l = l := xpr_no (by decide +kernel)
theorem r_117_3 : xfetch 117 3 = some (.invokevirtual 351, 3) := by decide +kernel
theorem n_117_3 : ∀ l, xpr 117 3 l = l := xpr_no (by decide +kernel)
theorem r_117_6 : xfetch 117 6 = some (.aload_n 0, 1) := by decide +kernel
theorem n_117_6 : ∀ l, xpr 117 6 l = l := xpr_no (by decide +kernel)
theorem r_117_7 : xfetch 117 7 = some (.iload_n 1, 1) := by decide +kernel
theorem n_117_7 : ∀ l, xpr 117 7 l = l := xpr_no (by decide +kernel)
theorem r_117_8 : xfetch 117 8 = some (.iload_n 3, 1) := by decide +kernel
theorem n_117_8 : ∀ l, xpr 117 8 l = l := xpr_no (by decide +kernel)
theorem r_117_9 : xfetch 117 9 = some (.invokevirtual 338, 3) := by decide +kernel
theorem n_117_9 : ∀ l, xpr 117 9 l = l := xpr_no (by decide +kernel)
theorem r_117_12 : xfetch 117 12 = some (.return_, 1) := by decide +kernel
theorem n_117_12 : ∀ l, xpr 117 12 l = l := xpr_no (by decide +kernel)
theorem v_RL_checkPlace_0 {S : Option (Nat × (Nat → Int32))} {s : zSt} {Q : Option Value ⊕ Nat → zSt → Prop} {x1 : Int} {x2 : Int} {x3 : Int} 
    (h : wp S 118 0 [(0, rf 2), (1, iv x1), (2, iv x2)] [] s (fun o1 s1 => zkU (wp S 119 0 [(0, rf 2), (1, iv x1), (2, iv x3)] [] s1 (fun o3 s3 => zkU (Q rU s3) (fun e3 => Q (rT e3) s3) o3)) (fun e1 => Q (rT e1) s1) o1)) :
    wp S 117 0 [(0, rf 2), (1, iv x1), (2, iv x2), (3, iv x3)] [] s Q := by
  refine i_aload_n (a := 2) r_117_0 (n_117_0 _) rfl ?_
  refine i_iload_n (x := x1) r_117_1 (n_117_1 _) rfl ?_
  refine i_iload_n (x := x2) r_117_2 (n_117_2 _) rfl ?_
  refine wp_virt (b := 2) (rest := []) (Ls := [(0, rf 2), (1, iv x1), (2, iv x2)]) r_117_3 (n_117_3 _) rfl ⟨rfl, rfl, by decide, by decide⟩ rfl rfl lf_2 ⟨rfl, Nat.le_of_ble_eq_true rfl, Nat.le_of_ble_eq_true rfl⟩ rfl h ?_
  intro o1 s1 h
  rcases h with ⟨rfl, h⟩ | ⟨e1, rfl, h⟩
  · refine .inl ⟨none, rfl, ?_⟩
    refine i_aload_n (a := 2) r_117_6 (n_117_6 _) rfl ?_
    refine i_iload_n (x := x1) r_117_7 (n_117_7 _) rfl ?_
    refine i_iload_n (x := x3) r_117_8 (n_117_8 _) rfl ?_
    refine wp_virt (b := 2) (rest := []) (Ls := [(0, rf 2), (1, iv x1), (2, iv x3)]) r_117_9 (n_117_9 _) rfl ⟨rfl, rfl, by decide, by decide⟩ rfl rfl lf_2 ⟨rfl, Nat.le_of_ble_eq_true rfl, Nat.le_of_ble_eq_true rfl⟩ rfl h ?_
    intro o3 s3 h
    rcases h with ⟨rfl, h⟩ | ⟨e3, rfl, h⟩
    · refine .inl ⟨none, rfl, ?_⟩
      exact i_return r_117_12 (n_117_12 _) rfl h
    · skip
      exact .inr ⟨e3, rfl, .inl ⟨rfl, h⟩⟩
  · skip
    exact .inr ⟨e1, rfl, .inl ⟨rfl, h⟩⟩
theorem r_118_0 : xfetch 118 0 = some (.aload_n 0, 1) := by decide +kernel
theorem n_118_0 : ∀ l, xpr 118 0 l = l := xpr_no (by decide +kernel)
theorem r_118_1 : xfetch 118 1 = some (.iload_n 1, 1) := by decide +kernel
theorem n_118_1 : ∀ l, xpr 118 1 l = l := xpr_no (by decide +kernel)
theorem r_118_2 : xfetch 118 2 = some (.invokevirtual 284, 3) := by decide +kernel
theorem n_118_2 : ∀ l, xpr 118 2 l = l := xpr_no (by decide +kernel)
theorem r_118_5 : xfetch 118 5 = some (.iload_n 2, 1) := by decide +kernel
theorem n_118_5 : ∀ l, xpr 118 5 l = l := xpr_no (by decide +kernel)
theorem r_118_6 : xfetch 118 6 = some (.ifCond .lt 19, 3) := by decide +kernel
theorem n_118_6 : ∀ l, xpr 118 6 l = l := xpr_no (by decide +kernel)
theorem r_118_9 : xfetch 118 9 = some (.iload_n 2, 1) := by decide +kernel
theorem n_118_9 : ∀ l, xpr 118 9 l = l := xpr_no (by decide +kernel)
theorem r_118_10 : xfetch 118 10 = some (.aload_n 0, 1) := by decide +kernel
theorem n_118_10 : ∀ l, xpr 118 10 l = l := xpr_no (by decide +kernel)
theorem r_118_11 : xfetch 118 11 = some (.getfield 10, 3) := by decide +kernel
theorem n_118_11 : ∀ l, xpr 118 11 l = l := xpr_no (by decide +kernel)
theorem r_118_14 : xfetch 118 14 = some (.getfield 256, 3) := by decide +kernel
theorem n_118_14 : ∀ l, xpr 118 14 l = l := xpr_no (by decide +kernel)
theorem r_118_17 : xfetch 118 17 = some (.iload_n 1, 1) := by decide +kernel
theorem n_118_17 : ∀ l, xpr 118 17 l = l := xpr_no (by decide +kernel)
theorem r_118_18 : xfetch 118 18 = some (.aaload, 1) := by decide +kernel
theorem n_118_18 : ∀ l, xpr 118 18 l = l := xpr_no (by decide +kernel)
theorem r_118_19 : xfetch 118 19 = some (.getfield 269, 3) := by decide +kernel
theorem n_118_19 : ∀ l, xpr 118 19 l = l := xpr_no (by decide +kernel)
theorem r_118_22 : xfetch 118 22 = some (.if_icmp .lt 14, 3) := by decide +kernel
theorem n_118_22 : ∀ l, xpr 118 22 l = l := xpr_no (by decide +kernel)
theorem r_118_25 : xfetch 118 25 = some (.new 157, 3) := by decide +kernel
theorem n_118_25 : ∀ l, xpr 118 25 l = l := xpr_no (by decide +kernel)
theorem r_118_36 : xfetch 118 36 = some (.return_, 1) := by decide +kernel
theorem n_118_36 : ∀ l, xpr 118 36 l = l := xpr_no (by decide +kernel)
theorem v_RL_checkRow_0 {S : Option (Nat × (Nat → Int32))} {s : zSt} {Q : Option Value ⊕ Nat → zSt → Prop} {x1 : Int} {x2 : Int} 
    (h : wp S 112 0 [(0, rf 2), (1, iv x1)] [] s (fun o1 s1 => zkU (rng x2 ∧ ((x2 < 0 → Q (rT 2) (zbump s1)) ∧ (0 ≤ x2 → (0 ≤ x1 ∧ x1 < 3) ∧ ((x2 < (zI s1 (31 + x1) 2) → Q rU s1) ∧ ((zI s1 (31 + x1) 2) ≤ x2 → Q (rT 2) (zbump s1)))))) (fun e1 => Q (rT e1) s1) o1)) :
    wp S 118 0 [(0, rf 2), (1, iv x1), (2, iv x2)] [] s Q := by
  refine i_aload_n (a := 2) r_118_0 (n_118_0 _) rfl ?_
  refine i_iload_n (x := x1) r_118_1 (n_118_1 _) rfl ?_
  refine wp_virt (b := 2) (rest := []) (Ls := [(0, rf 2), (1, iv x1)]) r_118_2 (n_118_2 _) rfl ⟨rfl, rfl, by decide, by decide⟩ rfl rfl lf_2 ⟨rfl, Nat.le_of_ble_eq_true rfl, Nat.le_of_ble_eq_true rfl⟩ rfl h ?_
  intro o1 s1 h
  rcases h with ⟨rfl, h⟩ | ⟨e1, rfl, h⟩
  · refine .inl ⟨none, rfl, ?_⟩
    refine i_iload_n (x := x2) r_118_5 (n_118_5 _) rfl ?_
    obtain ⟨g3, h⟩ := h
    refine i_if (t := 25) r_118_6 (n_118_6 _) rfl (T_lt g3 ⟨by omega, by omega⟩) (fun c4 => ?_) (fun c4 => ?_)
    · replace h := h.1 c4
      exact i_throw r_118_25 (n_118_25 _) rfl (by decide) h
    · replace h := h.2 c4
      refine i_iload_n (x := x2) r_118_9 (n_118_9 _) rfl ?_
      refine i_aload_n (a := 2) r_118_10 (n_118_10 _) rfl ?_
      refine i_getR (a := 2) (b := 3) r_118_11 (n_118_11 _) rfl rfl rfl (by omega) lf_2 (by omega) ?_
      refine i_getR (a := 3) (b := 5) r_118_14 (n_118_14 _) rfl rfl rfl (by omega) lf_3 (by omega) ?_
      refine i_iload_n (x := x1) r_118_17 (n_118_17 _) rfl ?_
      obtain ⟨g5, h⟩ := h
      refine i_aaload (c := 6) (a := 5) (j := x1) (b := 31 + x1) r_118_18 (n_118_18 _) lf_5 ⟨by omega, by omega⟩ (by omega) (by omega) rfl (by omega) ?_
      have t6 := e_6 (j := x1) lf_5 (by omega) (by omega)
      rw [show 5 + 26 + 1 * x1 = 31 + x1 by omega] at t6
      refine i_getI (a := 31 + x1) r_118_19 (n_118_19 _) rfl (by decide) t6 (fun q7 => ?_)
      refine i_icmp (t := 36) r_118_22 (n_118_22 _) rfl (T_lt g3 q7) (fun c8 => ?_) (fun c8 => ?_)
      · replace h := h.1 c8
        exact i_return r_118_36 (n_118_36 _) rfl h
      · replace h := h.2 c8
        exact i_throw r_118_25 (n_118_25 _) rfl (by decide) h
  · skip
    exact .inr ⟨e1, rfl, .inl ⟨rfl, h⟩⟩
theorem r_119_0 : xfetch 119 0 = some (.aload_n 0, 1) := by decide +kernel
theorem n_119_0 : ∀ l, xpr 119 0 l = l := xpr_no (by decide +kernel)
theorem r_119_1 : xfetch 119 1 = some (.iload_n 1, 1) := by decide +kernel
theorem n_119_1 : ∀ l, xpr 119 1 l = l := xpr_no (by decide +kernel)
theorem r_119_2 : xfetch 119 2 = some (.invokevirtual 284, 3) := by decide +kernel
theorem n_119_2 : ∀ l, xpr 119 2 l = l := xpr_no (by decide +kernel)
theorem r_119_5 : xfetch 119 5 = some (.aload_n 0, 1) := by decide +kernel
theorem n_119_5 : ∀ l, xpr 119 5 l = l := xpr_no (by decide +kernel)
theorem r_119_6 : xfetch 119 6 = some (.aload_n 0, 1) := by decide +kernel
theorem n_119_6 : ∀ l, xpr 119 6 l = l := xpr_no (by decide +kernel)
theorem r_119_7 : xfetch 119 7 = some (.getfield 10, 3) := by decide +kernel
theorem n_119_7 : ∀ l, xpr 119 7 l = l := xpr_no (by decide +kernel)
theorem r_119_10 : xfetch 119 10 = some (.getfield 256, 3) := by decide +kernel
theorem n_119_10 : ∀ l, xpr 119 10 l = l := xpr_no (by decide +kernel)
theorem r_119_13 : xfetch 119 13 = some (.iload_n 1, 1) := by decide +kernel
theorem n_119_13 : ∀ l, xpr 119 13 l = l := xpr_no (by decide +kernel)
theorem r_119_14 : xfetch 119 14 = some (.aaload, 1) := by decide +kernel
theorem n_119_14 : ∀ l, xpr 119 14 l = l := xpr_no (by decide +kernel)
theorem r_119_15 : xfetch 119 15 = some (.getfield 266, 3) := by decide +kernel
theorem n_119_15 : ∀ l, xpr 119 15 l = l := xpr_no (by decide +kernel)
theorem r_119_18 : xfetch 119 18 = some (.iload_n 2, 1) := by decide +kernel
theorem n_119_18 : ∀ l, xpr 119 18 l = l := xpr_no (by decide +kernel)
theorem r_119_19 : xfetch 119 19 = some (.invokevirtual 166, 3) := by decide +kernel
theorem n_119_19 : ∀ l, xpr 119 19 l = l := xpr_no (by decide +kernel)
theorem r_119_22 : xfetch 119 22 = some (.return_, 1) := by decide +kernel
theorem n_119_22 : ∀ l, xpr 119 22 l = l := xpr_no (by decide +kernel)
theorem v_RL_checkLeafOfTable_0 {S : Option (Nat × (Nat → Int32))} {s : zSt} {Q : Option Value ⊕ Nat → zSt → Prop} {x1 : Int} {x2 : Int} 
    (h : wp S 112 0 [(0, rf 2), (1, iv x1)] [] s (fun o1 s1 => zkU ((0 ≤ x1 ∧ x1 < 3) ∧ (wp S 65 0 [(0, rf 2), (1, iv (zI s1 (31 + x1) 1)), (2, iv x2)] [] s1 (fun o6 s6 => zkU (Q rU s6) (fun e6 => Q (rT e6) s6) o6))) (fun e1 => Q (rT e1) s1) o1)) :
    wp S 119 0 [(0, rf 2), (1, iv x1), (2, iv x2)] [] s Q := by
  refine i_aload_n (a := 2) r_119_0 (n_119_0 _) rfl ?_
  refine i_iload_n (x := x1) r_119_1 (n_119_1 _) rfl ?_
  refine wp_virt (b := 2) (rest := []) (Ls := [(0, rf 2), (1, iv x1)]) r_119_2 (n_119_2 _) rfl ⟨rfl, rfl, by decide, by decide⟩ rfl rfl lf_2 ⟨rfl, Nat.le_of_ble_eq_true rfl, Nat.le_of_ble_eq_true rfl⟩ rfl h ?_
  intro o1 s1 h
  rcases h with ⟨rfl, h⟩ | ⟨e1, rfl, h⟩
  · refine .inl ⟨none, rfl, ?_⟩
    refine i_aload_n (a := 2) r_119_5 (n_119_5 _) rfl ?_
    refine i_aload_n (a := 2) r_119_6 (n_119_6 _) rfl ?_
    refine i_getR (a := 2) (b := 3) r_119_7 (n_119_7 _) rfl rfl rfl (by omega) lf_2 (by omega) ?_
    refine i_getR (a := 3) (b := 5) r_119_10 (n_119_10 _) rfl rfl rfl (by omega) lf_3 (by omega) ?_
    refine i_iload_n (x := x1) r_119_13 (n_119_13 _) rfl ?_
    obtain ⟨g3, h⟩ := h
    refine i_aaload (c := 6) (a := 5) (j := x1) (b := 31 + x1) r_119_14 (n_119_14 _) lf_5 ⟨by omega, by omega⟩ (by omega) (by omega) rfl (by omega) ?_
    have t4 := e_6 (j := x1) lf_5 (by omega) (by omega)
    rw [show 5 + 26 + 1 * x1 = 31 + x1 by omega] at t4
    refine i_getI (a := 31 + x1) r_119_15 (n_119_15 _) rfl (by decide) t4 (fun q5 => ?_)
    refine i_iload_n (x := x2) r_119_18 (n_119_18 _) rfl ?_
    refine wp_virt (b := 2) (rest := []) (Ls := [(0, rf 2), (1, iv (zI s1 (31 + x1) 1)), (2, iv x2)]) r_119_19 (n_119_19 _) rfl ⟨rfl, rfl, by decide, by decide⟩ rfl rfl lf_2 ⟨rfl, Nat.le_of_ble_eq_true rfl, Nat.le_of_ble_eq_true rfl⟩ rfl h ?_
    intro o6 s6 h
    rcases h with ⟨rfl, h⟩ | ⟨e6, rfl, h⟩
    · refine .inl ⟨none, rfl, ?_⟩
      exact i_return r_119_22 (n_119_22 _) rfl h
    · skip
      exact .inr ⟨e6, rfl, .inl ⟨rfl, h⟩⟩
  · skip
    exact .inr ⟨e1, rfl, .inl ⟨rfl, h⟩⟩
theorem r_120_0 : xfetch 120 0 = some (.aload_n 0, 1) := by decide +kernel
theorem n_120_0 : ∀ l, xpr 120 0 l = l := xpr_no (by decide +kernel)
theorem r_120_1 : xfetch 120 1 = some (.getfield 10, 3) := by decide +kernel
theorem n_120_1 : ∀ l, xpr 120 1 l = l := xpr_no (by decide +kernel)
theorem r_120_4 : xfetch 120 4 = some (.getfield 256, 3) := by decide +kernel
theorem n_120_4 : ∀ l, xpr 120 4 l = l := xpr_no (by decide +kernel)
theorem r_120_7 : xfetch 120 7 = some (.iload_n 1, 1) := by decide +kernel
theorem n_120_7 : ∀ l, xpr 120 7 l = l := xpr_no (by decide +kernel)
theorem r_120_8 : xfetch 120 8 = some (.aaload, 1) := by decide +kernel
theorem n_120_8 : ∀ l, xpr 120 8 l = l := xpr_no (by decide +kernel)
theorem r_120_9 : xfetch 120 9 = some (.astore_n 2, 1) := by decide +kernel
theorem n_120_9 : ∀ l, xpr 120 9 l = l := xpr_no (by decide +kernel)
theorem r_120_10 : xfetch 120 10 = some (.aload_n 0, 1) := by decide +kernel
theorem n_120_10 : ∀ l, xpr 120 10 l = l := xpr_no (by decide +kernel)
theorem r_120_11 : xfetch 120 11 = some (.getfield 47, 3) := by decide +kernel
theorem n_120_11 : ∀ l, xpr 120 11 l = l := xpr_no (by decide +kernel)
theorem r_120_14 : xfetch 120 14 = some (.aload_n 0, 1) := by decide +kernel
theorem n_120_14 : ∀ l, xpr 120 14 l = l := xpr_no (by decide +kernel)
theorem r_120_15 : xfetch 120 15 = some (.getfield 18, 3) := by decide +kernel
theorem n_120_15 : ∀ l, xpr 120 15 l = l := xpr_no (by decide +kernel)
theorem r_120_18 : xfetch 120 18 = some (.aload_n 2, 1) := by decide +kernel
theorem n_120_18 : ∀ l, xpr 120 18 l = l := xpr_no (by decide +kernel)
theorem r_120_19 : xfetch 120 19 = some (.getfield 266, 3) := by decide +kernel
theorem n_120_19 : ∀ l, xpr 120 19 l = l := xpr_no (by decide +kernel)
theorem r_120_22 : xfetch 120 22 = some (.aaload, 1) := by decide +kernel
theorem n_120_22 : ∀ l, xpr 120 22 l = l := xpr_no (by decide +kernel)
theorem r_120_23 : xfetch 120 23 = some (.aload_n 2, 1) := by decide +kernel
theorem n_120_23 : ∀ l, xpr 120 23 l = l := xpr_no (by decide +kernel)
theorem r_120_24 : xfetch 120 24 = some (.getfield 269, 3) := by decide +kernel
theorem n_120_24 : ∀ l, xpr 120 24 l = l := xpr_no (by decide +kernel)
theorem r_120_27 : xfetch 120 27 = some (.aload_n 2, 1) := by decide +kernel
theorem n_120_27 : ∀ l, xpr 120 27 l = l := xpr_no (by decide +kernel)
theorem r_120_28 : xfetch 120 28 = some (.getfield 272, 3) := by decide +kernel
theorem n_120_28 : ∀ l, xpr 120 28 l = l := xpr_no (by decide +kernel)
theorem r_120_31 : xfetch 120 31 = some (.invokevirtual 244, 3) := by decide +kernel
theorem n_120_31 : ∀ l, xpr 120 31 l = l := xpr_no (by decide +kernel)
theorem r_120_34 : xfetch 120 34 = some (.aload_n 0, 1) := by decide +kernel
theorem n_120_34 : ∀ l, xpr 120 34 l = l := xpr_no (by decide +kernel)
theorem r_120_35 : xfetch 120 35 = some (.getfield 47, 3) := by decide +kernel
theorem n_120_35 : ∀ l, xpr 120 35 l = l := xpr_no (by decide +kernel)
theorem r_120_38 : xfetch 120 38 = some (.aload_n 2, 1) := by decide +kernel
theorem n_120_38 : ∀ l, xpr 120 38 l = l := xpr_no (by decide +kernel)
theorem r_120_39 : xfetch 120 39 = some (.getfield 277, 3) := by decide +kernel
theorem n_120_39 : ∀ l, xpr 120 39 l = l := xpr_no (by decide +kernel)
theorem r_120_42 : xfetch 120 42 = some (.aload_n 2, 1) := by decide +kernel
theorem n_120_42 : ∀ l, xpr 120 42 l = l := xpr_no (by decide +kernel)
theorem r_120_43 : xfetch 120 43 = some (.getfield 275, 3) := by decide +kernel
theorem n_120_43 : ∀ l, xpr 120 43 l = l := xpr_no (by decide +kernel)
theorem r_120_46 : xfetch 120 46 = some (.invokevirtual 371, 3) := by decide +kernel
theorem n_120_46 : ∀ l, xpr 120 46 l = l := xpr_no (by decide +kernel)
theorem r_120_49 : xfetch 120 49 = some (.return_, 1) := by decide +kernel
theorem n_120_49 : ∀ l, xpr 120 49 l = l := xpr_no (by decide +kernel)
theorem v_RL_openView_0 {S : Option (Nat × (Nat → Int32))} {s : zSt} {Q : Option Value ⊕ Nat → zSt → Prop} {x1 : Int} 
    (h : (0 ≤ x1 ∧ x1 < 3) ∧ ((0 ≤ (zI s (31 + x1) 1) ∧ (zI s (31 + x1) 1) < 6) ∧ (wp S 107 0 [(0, rf 48), (1, rf (62 + 11 * (zI s (31 + x1) 1))), (2, iv (zI s (31 + x1) 2)), (3, iv (zI s (31 + x1) 3))] [] s (fun o8 s8 => zkU (wp S 121 0 [(0, rf 48), (1, iv (zI s8 (31 + x1) 5)), (2, iv (zI s8 (31 + x1) 4))] [] s8 (fun o12 s12 => zkU (Q rU s12) (fun e12 => False) o12)) (fun e8 => False) o8)))) :
    wp S 120 0 [(0, rf 2), (1, iv x1)] [] s Q := by
  refine i_aload_n (a := 2) r_120_0 (n_120_0 _) rfl ?_
  refine i_getR (a := 2) (b := 3) r_120_1 (n_120_1 _) rfl rfl rfl (by omega) lf_2 (by omega) ?_
  refine i_getR (a := 3) (b := 5) r_120_4 (n_120_4 _) rfl rfl rfl (by omega) lf_3 (by omega) ?_
  refine i_iload_n (x := x1) r_120_7 (n_120_7 _) rfl ?_
  obtain ⟨g1, h⟩ := h
  refine i_aaload (c := 6) (a := 5) (j := x1) (b := 31 + x1) r_120_8 (n_120_8 _) lf_5 ⟨by omega, by omega⟩ (by omega) (by omega) rfl (by omega) ?_
  have t2 := e_6 (j := x1) lf_5 (by omega) (by omega)
  rw [show 5 + 26 + 1 * x1 = 31 + x1 by omega] at t2
  refine i_astore_n (l' := [(0, rf 2), (1, iv x1), (2, rf (31 + x1))]) r_120_9 (n_120_9 _) (by decide) rfl ?_
  refine i_aload_n (a := 2) r_120_10 (n_120_10 _) rfl ?_
  refine i_getR (a := 2) (b := 48) r_120_11 (n_120_11 _) rfl rfl rfl (by omega) lf_2 (by omega) ?_
  refine i_aload_n (a := 2) r_120_14 (n_120_14 _) rfl ?_
  refine i_getR (a := 2) (b := 34) r_120_15 (n_120_15 _) rfl rfl rfl (by omega) lf_2 (by omega) ?_
  refine i_aload_n (a := 31 + x1) r_120_18 (n_120_18 _) rfl ?_
  refine i_getI (a := 31 + x1) r_120_19 (n_120_19 _) rfl (by decide) t2 (fun q3 => ?_)
  obtain ⟨g4, h⟩ := h
  refine i_aaload (c := 4) (a := 34) (j := zI s (31 + x1) 1) (b := 62 + 11 * (zI s (31 + x1) 1)) r_120_22 (n_120_22 _) lf_34 ⟨by omega, by omega⟩ (by omega) (by omega) rfl (by omega) ?_
  have t5 := e_4 (j := zI s (31 + x1) 1) lf_34 (by omega) (by omega)
  rw [show 34 + 28 + 11 * (zI s (31 + x1) 1) = 62 + 11 * (zI s (31 + x1) 1) by omega] at t5
  refine i_aload_n (a := 31 + x1) r_120_23 (n_120_23 _) rfl ?_
  refine i_getI (a := 31 + x1) r_120_24 (n_120_24 _) rfl (by decide) t2 (fun q6 => ?_)
  refine i_aload_n (a := 31 + x1) r_120_27 (n_120_27 _) rfl ?_
  refine i_getI (a := 31 + x1) r_120_28 (n_120_28 _) rfl (by decide) t2 (fun q7 => ?_)
  refine wp_virt (b := 48) (rest := []) (Ls := [(0, rf 48), (1, rf (62 + 11 * (zI s (31 + x1) 1))), (2, iv (zI s (31 + x1) 2)), (3, iv (zI s (31 + x1) 3))]) r_120_31 (n_120_31 _) rfl ⟨rfl, rfl, by decide, by decide⟩ rfl rfl lf_48 ⟨rfl, Nat.le_of_ble_eq_true rfl, Nat.le_of_ble_eq_true rfl⟩ rfl h ?_
  intro o8 s8 h
  rcases h with ⟨rfl, h⟩ | ⟨e8, rfl, h⟩
  · refine .inl ⟨none, rfl, ?_⟩
    refine i_aload_n (a := 2) r_120_34 (n_120_34 _) rfl ?_
    refine i_getR (a := 2) (b := 48) r_120_35 (n_120_35 _) rfl rfl rfl (by omega) lf_2 (by omega) ?_
    refine i_aload_n (a := 31 + x1) r_120_38 (n_120_38 _) rfl ?_
    refine i_getI (a := 31 + x1) r_120_39 (n_120_39 _) rfl (by decide) t2 (fun q10 => ?_)
    refine i_aload_n (a := 31 + x1) r_120_42 (n_120_42 _) rfl ?_
    refine i_getI (a := 31 + x1) r_120_43 (n_120_43 _) rfl (by decide) t2 (fun q11 => ?_)
    refine wp_virt (b := 48) (rest := []) (Ls := [(0, rf 48), (1, iv (zI s8 (31 + x1) 5)), (2, iv (zI s8 (31 + x1) 4))]) r_120_46 (n_120_46 _) rfl ⟨rfl, rfl, by decide, by decide⟩ rfl rfl lf_48 ⟨rfl, Nat.le_of_ble_eq_true rfl, Nat.le_of_ble_eq_true rfl⟩ rfl h ?_
    intro o12 s12 h
    rcases h with ⟨rfl, h⟩ | ⟨e12, rfl, h⟩
    · refine .inl ⟨none, rfl, ?_⟩
      exact i_return r_120_49 (n_120_49 _) rfl h
    · skip
      exact h.elim
  · skip
    exact h.elim
theorem r_121_0 : xfetch 121 0 = some (.aload_n 0, 1) := by decide +kernel
theorem n_121_0 : ∀ l, xpr 121 0 l = l := xpr_no (by decide +kernel)
theorem r_121_1 : xfetch 121 1 = some (.iload_n 1, 1) := by decide +kernel
theorem n_121_1 : ∀ l, xpr 121 1 l = l := xpr_no (by decide +kernel)
theorem r_121_2 : xfetch 121 2 = some (.putfield 72, 3) := by decide +kernel
theorem n_121_2 : ∀ l, xpr 121 2 l = l := xpr_no (by decide +kernel)
theorem r_121_5 : xfetch 121 5 = some (.aload_n 0, 1) := by decide +kernel
theorem n_121_5 : ∀ l, xpr 121 5 l = l := xpr_no (by decide +kernel)
theorem r_121_6 : xfetch 121 6 = some (.iload_n 2, 1) := by decide +kernel
theorem n_121_6 : ∀ l, xpr 121 6 l = l := xpr_no (by decide +kernel)
theorem r_121_7 : xfetch 121 7 = some (.putfield 75, 3) := by decide +kernel
theorem n_121_7 : ∀ l, xpr 121 7 l = l := xpr_no (by decide +kernel)
theorem r_121_10 : xfetch 121 10 = some (.return_, 1) := by decide +kernel
theorem n_121_10 : ∀ l, xpr 121 10 l = l := xpr_no (by decide +kernel)
theorem v_View_moveTo_0 {S : Option (Nat × (Nat → Int32))} {s : zSt} {Q : Option Value ⊕ Nat → zSt → Prop} {a0 : Int} {x1 : Int} {x2 : Int} (ha0 : isO a0 8)
    (h : rng x1 ∧ (rng x2 ∧ (Q rU (zwI (zwI s a0 0 x1) a0 1 x2)))) :
    wp S 121 0 [(0, rf a0), (1, iv x1), (2, iv x2)] [] s Q := by
  refine i_aload_n (a := a0) r_121_0 (n_121_0 _) rfl ?_
  refine i_iload_n (x := x1) r_121_1 (n_121_1 _) rfl ?_
  obtain ⟨g1, h⟩ := h
  refine i_putI (a := a0) (x := x1) r_121_2 (n_121_2 _) rfl (.inl rfl) rfl ha0 g1 ?_
  refine i_aload_n (a := a0) r_121_5 (n_121_5 _) rfl ?_
  refine i_iload_n (x := x2) r_121_6 (n_121_6 _) rfl ?_
  obtain ⟨g2, h⟩ := h
  refine i_putI (a := a0) (x := x2) r_121_7 (n_121_7 _) rfl (.inl rfl) rfl ha0 g2 ?_
  exact i_return r_121_10 (n_121_10 _) rfl h
theorem r_122_0 : xfetch 122 0 = some (.aload_n 0, 1) := by decide +kernel
theorem n_122_0 : ∀ l, xpr 122 0 l = l := xpr_no (by decide +kernel)
theorem r_122_1 : xfetch 122 1 = some (.iload_n 2, 1) := by decide +kernel
theorem n_122_1 : ∀ l, xpr 122 1 l = l := xpr_no (by decide +kernel)
theorem r_122_2 : xfetch 122 2 = some (.invokevirtual 78, 3) := by decide +kernel
theorem n_122_2 : ∀ l, xpr 122 2 l = l := xpr_no (by decide +kernel)
theorem r_122_5 : xfetch 122 5 = some (.ifCond .eq 11, 3) := by decide +kernel
theorem n_122_5 : ∀ l, xpr 122 5 l = l := xpr_no (by decide +kernel)
theorem r_122_8 : xfetch 122 8 = some (.aload_n 0, 1) := by decide +kernel
theorem n_122_8 : ∀ l, xpr 122 8 l = l := xpr_no (by decide +kernel)
theorem r_122_9 : xfetch 122 9 = some (.getfield 9, 3) := by decide +kernel
theorem n_122_9 : ∀ l, xpr 122 9 l = l := xpr_no (by decide +kernel)
theorem r_122_12 : xfetch 122 12 = some (.iconst 1, 1) := by decide +kernel
theorem n_122_12 : ∀ l, xpr 122 12 l = l := xpr_no (by decide +kernel)
theorem r_122_13 : xfetch 122 13 = some (.if_icmp .ge 5, 3) := by decide +kernel
theorem n_122_13 : ∀ l, xpr 122 13 l = l := xpr_no (by decide +kernel)
theorem r_122_16 : xfetch 122 16 = some (.iconst (-1), 1) := by decide +kernel
theorem n_122_16 : ∀ l, xpr 122 16 l = l := xpr_no (by decide +kernel)
theorem r_122_17 : xfetch 122 17 = some (.ireturn, 1) := by decide +kernel
theorem n_122_17 : ∀ l, xpr 122 17 l = l := xpr_no (by decide +kernel)
theorem r_122_18 : xfetch 122 18 = some (.aload_n 0, 1) := by decide +kernel
theorem n_122_18 : ∀ l, xpr 122 18 l = l := xpr_no (by decide +kernel)
theorem r_122_19 : xfetch 122 19 = some (.getfield 72, 3) := by decide +kernel
theorem n_122_19 : ∀ l, xpr 122 19 l = l := xpr_no (by decide +kernel)
theorem r_122_22 : xfetch 122 22 = some (.iload_n 1, 1) := by decide +kernel
theorem n_122_22 : ∀ l, xpr 122 22 l = l := xpr_no (by decide +kernel)
theorem r_122_23 : xfetch 122 23 = some (.aload_n 0, 1) := by decide +kernel
theorem n_122_23 : ∀ l, xpr 122 23 l = l := xpr_no (by decide +kernel)
theorem r_122_24 : xfetch 122 24 = some (.getfield 9, 3) := by decide +kernel
theorem n_122_24 : ∀ l, xpr 122 24 l = l := xpr_no (by decide +kernel)
theorem r_122_27 : xfetch 122 27 = some (.idiv, 1) := by decide +kernel
theorem n_122_27 : ∀ l, xpr 122 27 l = l := xpr_no (by decide +kernel)
theorem r_122_28 : xfetch 122 28 = some (.aload_n 0, 1) := by decide +kernel
theorem n_122_28 : ∀ l, xpr 122 28 l = l := xpr_no (by decide +kernel)
theorem r_122_29 : xfetch 122 29 = some (.getfield 66, 3) := by decide +kernel
theorem n_122_29 : ∀ l, xpr 122 29 l = l := xpr_no (by decide +kernel)
theorem r_122_32 : xfetch 122 32 = some (.imul, 1) := by decide +kernel
theorem n_122_32 : ∀ l, xpr 122 32 l = l := xpr_no (by decide +kernel)
theorem r_122_33 : xfetch 122 33 = some (.iadd, 1) := by decide +kernel
theorem n_122_33 : ∀ l, xpr 122 33 l = l := xpr_no (by decide +kernel)
theorem r_122_34 : xfetch 122 34 = some (.aload_n 0, 1) := by decide +kernel
theorem n_122_34 : ∀ l, xpr 122 34 l = l := xpr_no (by decide +kernel)
theorem r_122_35 : xfetch 122 35 = some (.getfield 19, 3) := by decide +kernel
theorem n_122_35 : ∀ l, xpr 122 35 l = l := xpr_no (by decide +kernel)
theorem r_122_38 : xfetch 122 38 = some (.iload_n 2, 1) := by decide +kernel
theorem n_122_38 : ∀ l, xpr 122 38 l = l := xpr_no (by decide +kernel)
theorem r_122_39 : xfetch 122 39 = some (.iaload, 1) := by decide +kernel
theorem n_122_39 : ∀ l, xpr 122 39 l = l := xpr_no (by decide +kernel)
theorem r_122_40 : xfetch 122 40 = some (.iadd, 1) := by decide +kernel
theorem n_122_40 : ∀ l, xpr 122 40 l = l := xpr_no (by decide +kernel)
theorem r_122_41 : xfetch 122 41 = some (.iload_n 1, 1) := by decide +kernel
theorem n_122_41 : ∀ l, xpr 122 41 l = l := xpr_no (by decide +kernel)
theorem r_122_42 : xfetch 122 42 = some (.aload_n 0, 1) := by decide +kernel
theorem n_122_42 : ∀ l, xpr 122 42 l = l := xpr_no (by decide +kernel)
theorem r_122_43 : xfetch 122 43 = some (.getfield 9, 3) := by decide +kernel
theorem n_122_43 : ∀ l, xpr 122 43 l = l := xpr_no (by decide +kernel)
theorem r_122_46 : xfetch 122 46 = some (.irem, 1) := by decide +kernel
theorem n_122_46 : ∀ l, xpr 122 46 l = l := xpr_no (by decide +kernel)
theorem r_122_47 : xfetch 122 47 = some (.aload_n 0, 1) := by decide +kernel
theorem n_122_47 : ∀ l, xpr 122 47 l = l := xpr_no (by decide +kernel)
theorem r_122_48 : xfetch 122 48 = some (.getfield 22, 3) := by decide +kernel
theorem n_122_48 : ∀ l, xpr 122 48 l = l := xpr_no (by decide +kernel)
theorem r_122_51 : xfetch 122 51 = some (.iload_n 2, 1) := by decide +kernel
theorem n_122_51 : ∀ l, xpr 122 51 l = l := xpr_no (by decide +kernel)
theorem r_122_52 : xfetch 122 52 = some (.iaload, 1) := by decide +kernel
theorem n_122_52 : ∀ l, xpr 122 52 l = l := xpr_no (by decide +kernel)
theorem r_122_53 : xfetch 122 53 = some (.imul, 1) := by decide +kernel
theorem n_122_53 : ∀ l, xpr 122 53 l = l := xpr_no (by decide +kernel)
theorem r_122_54 : xfetch 122 54 = some (.iadd, 1) := by decide +kernel
theorem n_122_54 : ∀ l, xpr 122 54 l = l := xpr_no (by decide +kernel)
theorem r_122_55 : xfetch 122 55 = some (.ireturn, 1) := by decide +kernel
theorem n_122_55 : ∀ l, xpr 122 55 l = l := xpr_no (by decide +kernel)
theorem v_View_placeOf_0 {S : Option (Nat × (Nat → Int32))} {s : zSt} {Q : Option Value ⊕ Nat → zSt → Prop} {a0 : Int} {x1 : Int} {x2 : Int} (ha0 : isO a0 8)
    (h : wp S 123 0 [(0, rf a0), (1, iv x2)] [] s (fun o1 s1 => zkI (fun y1 => (y1 = 0 → Q (rI (-1)) s1) ∧ (y1 ≠ 0 → (1 ≤ (zI s1 a0 5) → rng x1 ∧ (0 ≤ x1 ∧ (0 < (zI s1 a0 5) ∧ ((0 ≤ x2 ∧ x2 < 40) ∧ (Q (rI ((((zI s1 a0 0) + ((x1 / (zI s1 a0 5)) * (zI s1 a0 6))) + (zI s1 (a0 + 2) x2)) + ((x1 % (zI s1 a0 5)) * (zI s1 (a0 + 3) x2)))) s1))))) ∧ ((zI s1 a0 5) < 1 → Q (rI (-1)) s1))) (fun e1 => False) o1)) :
    wp S 122 0 [(0, rf a0), (1, iv x1), (2, iv x2)] [] s Q := by
  refine i_aload_n (a := a0) r_122_0 (n_122_0 _) rfl ?_
  refine i_iload_n (x := x2) r_122_1 (n_122_1 _) rfl ?_
  refine wp_virt (b := a0) (rest := []) (Ls := [(0, rf a0), (1, iv x2)]) r_122_2 (n_122_2 _) rfl ⟨rfl, rfl, by decide, by decide⟩ rfl rfl ha0 ⟨rfl, Nat.le_of_ble_eq_true rfl, Nat.le_of_ble_eq_true rfl⟩ rfl h ?_
  intro o1 s1 h
  rcases h with ⟨y1, q2, rfl, h⟩ | ⟨e1, rfl, h⟩
  · refine .inl ⟨some (iv y1), rfl, ?_⟩
    show wp S 122 5 [(0, rf a0), (1, iv x1), (2, iv x2)] [iv y1] s1 Q
    refine i_if (t := 16) r_122_5 (n_122_5 _) rfl (T_eq q2 ⟨by omega, by omega⟩) (fun c3 => ?_) (fun c3 => ?_)
    · replace h := h.1 c3
      refine i_iconst r_122_16 (n_122_16 _) ?_
      exact i_ireturn r_122_17 (n_122_17 _) rfl h
    · replace h := h.2 c3
      refine i_aload_n (a := a0) r_122_8 (n_122_8 _) rfl ?_
      refine i_getI (a := a0) r_122_9 (n_122_9 _) rfl (by decide) ha0 (fun q4 => ?_)
      refine i_iconst r_122_12 (n_122_12 _) ?_
      refine i_icmp (t := 18) r_122_13 (n_122_13 _) rfl (T_ge q4 ⟨by omega, by omega⟩) (fun c5 => ?_) (fun c5 => ?_)
      · replace h := h.1 c5
        refine i_aload_n (a := a0) r_122_18 (n_122_18 _) rfl ?_
        refine i_getI (a := a0) r_122_19 (n_122_19 _) rfl (by decide) ha0 (fun q6 => ?_)
        refine i_iload_n (x := x1) r_122_22 (n_122_22 _) rfl ?_
        refine i_aload_n (a := a0) r_122_23 (n_122_23 _) rfl ?_
        refine i_getI (a := a0) r_122_24 (n_122_24 _) rfl (by decide) ha0 (fun q7 => ?_)
        obtain ⟨g8, h⟩ := h
        obtain ⟨g9, h⟩ := h
        obtain ⟨g10, h⟩ := h
        refine i_idiv r_122_27 (n_122_27 _) g8 q7 (by omega) (by omega) ?_
        refine i_aload_n (a := a0) r_122_28 (n_122_28 _) rfl ?_
        refine i_getI (a := a0) r_122_29 (n_122_29 _) rfl (by decide) ha0 (fun q11 => ?_)
        refine i_imul r_122_32 (n_122_32 _) ?_
        refine i_iadd r_122_33 (n_122_33 _) ?_
        refine i_aload_n (a := a0) r_122_34 (n_122_34 _) rfl ?_
        refine i_getR (a := a0) (b := a0 + 2) r_122_35 (n_122_35 _) rfl rfl rfl (by omega) ha0 (by omega) ?_
        have t12 := (t_8_8 ha0)
        refine i_iload_n (x := x2) r_122_38 (n_122_38 _) rfl ?_
        obtain ⟨g13, h⟩ := h
        refine i_iaload (a := a0 + 2) (j := x2) r_122_39 (n_122_39 _) t12 ⟨by omega, by omega⟩ (by omega) (by omega) (fun q14 => ?_)
        refine i_iadd r_122_40 (n_122_40 _) ?_
        refine i_iload_n (x := x1) r_122_41 (n_122_41 _) rfl ?_
        refine i_aload_n (a := a0) r_122_42 (n_122_42 _) rfl ?_
        refine i_getI (a := a0) r_122_43 (n_122_43 _) rfl (by decide) ha0 (fun q15 => ?_)
        refine i_irem r_122_46 (n_122_46 _) g8 q15 (by omega) (by omega) ?_
        refine i_aload_n (a := a0) r_122_47 (n_122_47 _) rfl ?_
        refine i_getR (a := a0) (b := a0 + 3) r_122_48 (n_122_48 _) rfl rfl rfl (by omega) ha0 (by omega) ?_
        have t16 := (t_8_9 ha0)
        refine i_iload_n (x := x2) r_122_51 (n_122_51 _) rfl ?_
        refine i_iaload (a := a0 + 3) (j := x2) r_122_52 (n_122_52 _) t16 ⟨by omega, by omega⟩ (by omega) (by omega) (fun q17 => ?_)
        refine i_imul r_122_53 (n_122_53 _) ?_
        refine i_iadd r_122_54 (n_122_54 _) ?_
        exact i_ireturn r_122_55 (n_122_55 _) rfl h
      · replace h := h.2 c5
        refine i_iconst r_122_16 (n_122_16 _) ?_
        exact i_ireturn r_122_17 (n_122_17 _) rfl h
  · skip
    exact h.elim
theorem r_123_0 : xfetch 123 0 = some (.iload_n 1, 1) := by decide +kernel
theorem n_123_0 : ∀ l, xpr 123 0 l = l := xpr_no (by decide +kernel)
theorem r_123_1 : xfetch 123 1 = some (.ifCond .lt 21, 3) := by decide +kernel
theorem n_123_1 : ∀ l, xpr 123 1 l = l := xpr_no (by decide +kernel)
theorem r_123_4 : xfetch 123 4 = some (.iload_n 1, 1) := by decide +kernel
theorem n_123_4 : ∀ l, xpr 123 4 l = l := xpr_no (by decide +kernel)
theorem r_123_5 : xfetch 123 5 = some (.aload_n 0, 1) := by decide +kernel
theorem n_123_5 : ∀ l, xpr 123 5 l = l := xpr_no (by decide +kernel)
theorem r_123_6 : xfetch 123 6 = some (.getfield 42, 3) := by decide +kernel
theorem n_123_6 : ∀ l, xpr 123 6 l = l := xpr_no (by decide +kernel)
theorem r_123_9 : xfetch 123 9 = some (.if_icmp .ge 13, 3) := by decide +kernel
theorem n_123_9 : ∀ l, xpr 123 9 l = l := xpr_no (by decide +kernel)
theorem r_123_12 : xfetch 123 12 = some (.iload_n 1, 1) := by decide +kernel
theorem n_123_12 : ∀ l, xpr 123 12 l = l := xpr_no (by decide +kernel)
theorem r_123_13 : xfetch 123 13 = some (.bipush 40, 2) := by decide +kernel
theorem n_123_13 : ∀ l, xpr 123 13 l = l := xpr_no (by decide +kernel)
theorem r_123_15 : xfetch 123 15 = some (.if_icmp .ge 7, 3) := by decide +kernel
theorem n_123_15 : ∀ l, xpr 123 15 l = l := xpr_no (by decide +kernel)
theorem r_123_18 : xfetch 123 18 = some (.iconst 1, 1) := by decide +kernel
theorem n_123_18 : ∀ l, xpr 123 18 l = l := xpr_no (by decide +kernel)
theorem r_123_19 : xfetch 123 19 = some (.goto 4, 3) := by decide +kernel
theorem n_123_19 : ∀ l, xpr 123 19 l = l := xpr_no (by decide +kernel)
theorem r_123_22 : xfetch 123 22 = some (.iconst 0, 1) := by decide +kernel
theorem n_123_22 : ∀ l, xpr 123 22 l = l := xpr_no (by decide +kernel)
theorem r_123_23 : xfetch 123 23 = some (.ireturn, 1) := by decide +kernel
theorem n_123_23 : ∀ l, xpr 123 23 l = l := xpr_no (by decide +kernel)
theorem v_View_hasLeaf_0 {S : Option (Nat × (Nat → Int32))} {s : zSt} {Q : Option Value ⊕ Nat → zSt → Prop} {a0 : Int} {x1 : Int} (ha0 : isO a0 8)
    (h : rng x1 ∧ ((x1 < 0 → Q (rI 0) s) ∧ (0 ≤ x1 → ((zI s a0 3) ≤ x1 → Q (rI 0) s) ∧ (x1 < (zI s a0 3) → (40 ≤ x1 → Q (rI 0) s) ∧ (x1 < 40 → Q (rI 1) s))))) :
    wp S 123 0 [(0, rf a0), (1, iv x1)] [] s Q := by
  refine i_iload_n (x := x1) r_123_0 (n_123_0 _) rfl ?_
  obtain ⟨g1, h⟩ := h
  refine i_if (t := 22) r_123_1 (n_123_1 _) rfl (T_lt g1 ⟨by omega, by omega⟩) (fun c2 => ?_) (fun c2 => ?_)
  · replace h := h.1 c2
    refine i_iconst r_123_22 (n_123_22 _) ?_
    exact i_zreturn r_123_23 (n_123_23 _) rfl (by decide) h
  · replace h := h.2 c2
    refine i_iload_n (x := x1) r_123_4 (n_123_4 _) rfl ?_
    refine i_aload_n (a := a0) r_123_5 (n_123_5 _) rfl ?_
    refine i_getI (a := a0) r_123_6 (n_123_6 _) rfl (by decide) ha0 (fun q3 => ?_)
    refine i_icmp (t := 22) r_123_9 (n_123_9 _) rfl (T_ge g1 q3) (fun c4 => ?_) (fun c4 => ?_)
    · replace h := h.1 c4
      refine i_iconst r_123_22 (n_123_22 _) ?_
      exact i_zreturn r_123_23 (n_123_23 _) rfl (by decide) h
    · replace h := h.2 c4
      refine i_iload_n (x := x1) r_123_12 (n_123_12 _) rfl ?_
      refine i_bipush r_123_13 (n_123_13 _) rfl ?_
      refine i_icmp (t := 22) r_123_15 (n_123_15 _) rfl (T_ge g1 ⟨by omega, by omega⟩) (fun c5 => ?_) (fun c5 => ?_)
      · replace h := h.1 c5
        refine i_iconst r_123_22 (n_123_22 _) ?_
        exact i_zreturn r_123_23 (n_123_23 _) rfl (by decide) h
      · replace h := h.2 c5
        refine i_iconst r_123_18 (n_123_18 _) ?_
        refine i_goto (t := 23) r_123_19 (n_123_19 _) rfl ?_
        exact i_zreturn r_123_23 (n_123_23 _) rfl (by decide) h
theorem r_125_0 : xfetch 125 0 = some (.aload_n 0, 1) := by decide +kernel
theorem n_125_0 : ∀ l, xpr 125 0 l = l := xpr_no (by decide +kernel)
theorem r_125_1 : xfetch 125 1 = some (.iload_n 1, 1) := by decide +kernel
theorem n_125_1 : ∀ l, xpr 125 1 l = l := xpr_no (by decide +kernel)
theorem r_125_2 : xfetch 125 2 = some (.iload_n 2, 1) := by decide +kernel
theorem n_125_2 : ∀ l, xpr 125 2 l = l := xpr_no (by decide +kernel)
theorem r_125_3 : xfetch 125 3 = some (.iload_n 3, 1) := by decide +kernel
theorem n_125_3 : ∀ l, xpr 125 3 l = l := xpr_no (by decide +kernel)
theorem r_125_4 : xfetch 125 4 = some (.invokevirtual 290, 3) := by decide +kernel
theorem n_125_4 : ∀ l, xpr 125 4 l = l := xpr_no (by decide +kernel)
theorem r_125_7 : xfetch 125 7 = some (.aload_n 0, 1) := by decide +kernel
theorem n_125_7 : ∀ l, xpr 125 7 l = l := xpr_no (by decide +kernel)
theorem r_125_8 : xfetch 125 8 = some (.iload_n 1, 1) := by decide +kernel
theorem n_125_8 : ∀ l, xpr 125 8 l = l := xpr_no (by decide +kernel)
theorem r_125_9 : xfetch 125 9 = some (.invokevirtual 293, 3) := by decide +kernel
theorem n_125_9 : ∀ l, xpr 125 9 l = l := xpr_no (by decide +kernel)
theorem r_125_12 : xfetch 125 12 = some (.aload_n 0, 1) := by decide +kernel
theorem n_125_12 : ∀ l, xpr 125 12 l = l := xpr_no (by decide +kernel)
theorem r_125_13 : xfetch 125 13 = some (.getfield 47, 3) := by decide +kernel
theorem n_125_13 : ∀ l, xpr 125 13 l = l := xpr_no (by decide +kernel)
theorem r_125_16 : xfetch 125 16 = some (.aload_n 0, 1) := by decide +kernel
theorem n_125_16 : ∀ l, xpr 125 16 l = l := xpr_no (by decide +kernel)
theorem r_125_17 : xfetch 125 17 = some (.getfield 10, 3) := by decide +kernel
theorem n_125_17 : ∀ l, xpr 125 17 l = l := xpr_no (by decide +kernel)
theorem r_125_20 : xfetch 125 20 = some (.getfield 299, 3) := by decide +kernel
theorem n_125_20 : ∀ l, xpr 125 20 l = l := xpr_no (by decide +kernel)
theorem r_125_23 : xfetch 125 23 = some (.iload_n 2, 1) := by decide +kernel
theorem n_125_23 : ∀ l, xpr 125 23 l = l := xpr_no (by decide +kernel)
theorem r_125_24 : xfetch 125 24 = some (.iload_n 3, 1) := by decide +kernel
theorem n_125_24 : ∀ l, xpr 125 24 l = l := xpr_no (by decide +kernel)
theorem r_125_25 : xfetch 125 25 = some (.invokevirtual 303, 3) := by decide +kernel
theorem n_125_25 : ∀ l, xpr 125 25 l = l := xpr_no (by decide +kernel)
theorem r_125_28 : xfetch 125 28 = some (.lreturn, 1) := by decide +kernel
theorem n_125_28 : ∀ l, xpr 125 28 l = l := xpr_no (by decide +kernel)
theorem v_RL_get_0 {S : Option (Nat × (Nat → Int32))} {s : zSt} {Q : Option Value ⊕ Nat → zSt → Prop} {x1 : Int} {x2 : Int} {x3 : Int} 
    (h : wp S 117 0 [(0, rf 2), (1, iv x1), (2, iv x2), (3, iv x3)] [] s (fun o1 s1 => zkU (wp S 120 0 [(0, rf 2), (1, iv x1)] [] s1 (fun o3 s3 => zkU (wp S 126 0 [(0, rf 48), (1, rf 6), (2, iv x2), (3, iv x3)] [] s3 (fun o5 s5 => zkL (fun y5 => Q (rL y5) s5) (fun e5 => False) o5)) (fun e3 => False) o3)) (fun e1 => Q (rT e1) s1) o1)) :
    wp S 125 0 [(0, rf 2), (1, iv x1), (2, iv x2), (3, iv x3)] [] s Q := by
  refine i_aload_n (a := 2) r_125_0 (n_125_0 _) rfl ?_
  refine i_iload_n (x := x1) r_125_1 (n_125_1 _) rfl ?_
  refine i_iload_n (x := x2) r_125_2 (n_125_2 _) rfl ?_
  refine i_iload_n (x := x3) r_125_3 (n_125_3 _) rfl ?_
  refine wp_virt (b := 2) (rest := []) (Ls := [(0, rf 2), (1, iv x1), (2, iv x2), (3, iv x3)]) r_125_4 (n_125_4 _) rfl ⟨rfl, rfl, by decide, by decide⟩ rfl rfl lf_2 ⟨rfl, Nat.le_of_ble_eq_true rfl, Nat.le_of_ble_eq_true rfl⟩ rfl h ?_
  intro o1 s1 h
  rcases h with ⟨rfl, h⟩ | ⟨e1, rfl, h⟩
  · refine .inl ⟨none, rfl, ?_⟩
    refine i_aload_n (a := 2) r_125_7 (n_125_7 _) rfl ?_
    refine i_iload_n (x := x1) r_125_8 (n_125_8 _) rfl ?_
    refine wp_virt (b := 2) (rest := []) (Ls := [(0, rf 2), (1, iv x1)]) r_125_9 (n_125_9 _) rfl ⟨rfl, rfl, by decide, by decide⟩ rfl rfl lf_2 ⟨rfl, Nat.le_of_ble_eq_true rfl, Nat.le_of_ble_eq_true rfl⟩ rfl h ?_
    intro o3 s3 h
    rcases h with ⟨rfl, h⟩ | ⟨e3, rfl, h⟩
    · refine .inl ⟨none, rfl, ?_⟩
      refine i_aload_n (a := 2) r_125_12 (n_125_12 _) rfl ?_
      refine i_getR (a := 2) (b := 48) r_125_13 (n_125_13 _) rfl rfl rfl (by omega) lf_2 (by omega) ?_
      refine i_aload_n (a := 2) r_125_16 (n_125_16 _) rfl ?_
      refine i_getR (a := 2) (b := 3) r_125_17 (n_125_17 _) rfl rfl rfl (by omega) lf_2 (by omega) ?_
      refine i_getR (a := 3) (b := 6) r_125_20 (n_125_20 _) rfl rfl rfl (by omega) lf_3 (by omega) ?_
      refine i_iload_n (x := x2) r_125_23 (n_125_23 _) rfl ?_
      refine i_iload_n (x := x3) r_125_24 (n_125_24 _) rfl ?_
      refine wp_virt (b := 48) (rest := []) (Ls := [(0, rf 48), (1, rf 6), (2, iv x2), (3, iv x3)]) r_125_25 (n_125_25 _) rfl ⟨rfl, rfl, by decide, by decide⟩ rfl rfl lf_48 ⟨rfl, Nat.le_of_ble_eq_true rfl, Nat.le_of_ble_eq_true rfl⟩ rfl h ?_
      intro o5 s5 h
      rcases h with ⟨y5, rfl, h⟩ | ⟨e5, rfl, h⟩
      · refine .inl ⟨some (.long y5), rfl, ?_⟩
        show wp S 125 28 [(0, rf 2), (1, iv x1), (2, iv x2), (3, iv x3)] [.long y5] s5 Q
        exact i_lreturn r_125_28 (n_125_28 _) rfl h
      · skip
        exact h.elim
    · skip
      exact h.elim
  · skip
    exact .inr ⟨e1, rfl, .inl ⟨rfl, h⟩⟩
theorem r_126_0 : xfetch 126 0 = some (.aload_n 0, 1) := by decide +kernel
theorem n_126_0 : ∀ l, xpr 126 0 l = l := xpr_no (by decide +kernel)
theorem r_126_1 : xfetch 126 1 = some (.iload_n 3, 1) := by decide +kernel
theorem n_126_1 : ∀ l, xpr 126 1 l = l := xpr_no (by decide +kernel)
theorem r_126_2 : xfetch 126 2 = some (.invokevirtual 78, 3) := by decide +kernel
theorem n_126_2 : ∀ l, xpr 126 2 l = l := xpr_no (by decide +kernel)
theorem r_126_5 : xfetch 126 5 = some (.ifCond .ne 5, 3) := by decide +kernel
theorem n_126_5 : ∀ l, xpr 126 5 l = l := xpr_no (by decide +kernel)
theorem r_126_8 : xfetch 126 8 = some (.lconst 0, 1) := by decide +kernel
theorem n_126_8 : ∀ l, xpr 126 8 l = l := xpr_no (by decide +kernel)
theorem r_126_9 : xfetch 126 9 = some (.lreturn, 1) := by decide +kernel
theorem n_126_9 : ∀ l, xpr 126 9 l = l := xpr_no (by decide +kernel)
theorem r_126_10 : xfetch 126 10 = some (.aload_n 0, 1) := by decide +kernel
theorem n_126_10 : ∀ l, xpr 126 10 l = l := xpr_no (by decide +kernel)
theorem r_126_11 : xfetch 126 11 = some (.aload_n 1, 1) := by decide +kernel
theorem n_126_11 : ∀ l, xpr 126 11 l = l := xpr_no (by decide +kernel)
theorem r_126_12 : xfetch 126 12 = some (.aload_n 0, 1) := by decide +kernel
theorem n_126_12 : ∀ l, xpr 126 12 l = l := xpr_no (by decide +kernel)
theorem r_126_13 : xfetch 126 13 = some (.iload_n 2, 1) := by decide +kernel
theorem n_126_13 : ∀ l, xpr 126 13 l = l := xpr_no (by decide +kernel)
theorem r_126_14 : xfetch 126 14 = some (.iload_n 3, 1) := by decide +kernel
theorem n_126_14 : ∀ l, xpr 126 14 l = l := xpr_no (by decide +kernel)
theorem r_126_15 : xfetch 126 15 = some (.invokevirtual 82, 3) := by decide +kernel
theorem n_126_15 : ∀ l, xpr 126 15 l = l := xpr_no (by decide +kernel)
theorem r_126_18 : xfetch 126 18 = some (.aload_n 0, 1) := by decide +kernel
theorem n_126_18 : ∀ l, xpr 126 18 l = l := xpr_no (by decide +kernel)
theorem r_126_19 : xfetch 126 19 = some (.getfield 22, 3) := by decide +kernel
theorem n_126_19 : ∀ l, xpr 126 19 l = l := xpr_no (by decide +kernel)
theorem r_126_22 : xfetch 126 22 = some (.iload_n 3, 1) := by decide +kernel
theorem n_126_22 : ∀ l, xpr 126 22 l = l := xpr_no (by decide +kernel)
theorem r_126_23 : xfetch 126 23 = some (.iaload, 1) := by decide +kernel
theorem n_126_23 : ∀ l, xpr 126 23 l = l := xpr_no (by decide +kernel)
theorem r_126_24 : xfetch 126 24 = some (.invokevirtual 85, 3) := by decide +kernel
theorem n_126_24 : ∀ l, xpr 126 24 l = l := xpr_no (by decide +kernel)
theorem r_126_27 : xfetch 126 27 = some (.lstore 4, 2) := by decide +kernel
theorem n_126_27 : ∀ l, xpr 126 27 l = l := xpr_no (by decide +kernel)
theorem r_126_29 : xfetch 126 29 = some (.aload_n 0, 1) := by decide +kernel
theorem n_126_29 : ∀ l, xpr 126 29 l = l := xpr_no (by decide +kernel)
theorem r_126_30 : xfetch 126 30 = some (.getfield 15, 3) := by decide +kernel
theorem n_126_30 : ∀ l, xpr 126 30 l = l := xpr_no (by decide +kernel)
theorem r_126_33 : xfetch 126 33 = some (.iload_n 3, 1) := by decide +kernel
theorem n_126_33 : ∀ l, xpr 126 33 l = l := xpr_no (by decide +kernel)
theorem r_126_34 : xfetch 126 34 = some (.iaload, 1) := by decide +kernel
theorem n_126_34 : ∀ l, xpr 126 34 l = l := xpr_no (by decide +kernel)
theorem r_126_35 : xfetch 126 35 = some (.istore 6, 2) := by decide +kernel
theorem n_126_35 : ∀ l, xpr 126 35 l = l := xpr_no (by decide +kernel)
theorem r_126_37 : xfetch 126 37 = some (.iload 6, 2) := by decide +kernel
theorem n_126_37 : ∀ l, xpr 126 37 l = l := xpr_no (by decide +kernel)
theorem r_126_39 : xfetch 126 39 = some (.invokestatic 89, 3) := by decide +kernel
theorem n_126_39 : ∀ l, xpr 126 39 l = l := xpr_no (by decide +kernel)
theorem r_126_42 : xfetch 126 42 = some (.ifCond .eq 19, 3) := by decide +kernel
theorem n_126_42 : ∀ l, xpr 126 42 l = l := xpr_no (by decide +kernel)
theorem r_126_45 : xfetch 126 45 = some (.lload 4, 2) := by decide +kernel
theorem n_126_45 : ∀ l, xpr 126 45 l = l := xpr_no (by decide +kernel)
theorem r_126_47 : xfetch 126 47 = some (.aload_n 0, 1) := by decide +kernel
theorem n_126_47 : ∀ l, xpr 126 47 l = l := xpr_no (by decide +kernel)
theorem r_126_48 : xfetch 126 48 = some (.getfield 25, 3) := by decide +kernel
theorem n_126_48 : ∀ l, xpr 126 48 l = l := xpr_no (by decide +kernel)
theorem r_126_51 : xfetch 126 51 = some (.iload_n 3, 1) := by decide +kernel
theorem n_126_51 : ∀ l, xpr 126 51 l = l := xpr_no (by decide +kernel)
theorem r_126_52 : xfetch 126 52 = some (.iaload, 1) := by decide +kernel
theorem n_126_52 : ∀ l, xpr 126 52 l = l := xpr_no (by decide +kernel)
theorem r_126_53 : xfetch 126 53 = some (.lushr, 1) := by decide +kernel
theorem n_126_53 : ∀ l, xpr 126 53 l = l := xpr_no (by decide +kernel)
theorem r_126_54 : xfetch 126 54 = some (.iload 6, 2) := by decide +kernel
theorem n_126_54 : ∀ l, xpr 126 54 l = l := xpr_no (by decide +kernel)
theorem r_126_56 : xfetch 126 56 = some (.invokestatic 92, 3) := by decide +kernel
theorem n_126_56 : ∀ l, xpr 126 56 l = l := xpr_no (by decide +kernel)
theorem r_126_59 : xfetch 126 59 = some (.land, 1) := by decide +kernel
theorem n_126_59 : ∀ l, xpr 126 59 l = l := xpr_no (by decide +kernel)
theorem r_126_60 : xfetch 126 60 = some (.lreturn, 1) := by decide +kernel
theorem n_126_60 : ∀ l, xpr 126 60 l = l := xpr_no (by decide +kernel)
theorem r_126_61 : xfetch 126 61 = some (.iload 6, 2) := by decide +kernel
theorem n_126_61 : ∀ l, xpr 126 61 l = l := xpr_no (by decide +kernel)
theorem r_126_63 : xfetch 126 63 = some (.tableswitch 75 0 7 #[45, 75, 51, 75, 57, 75, 75, 62], 45) := by decide +kernel
theorem n_126_63 : ∀ l, xpr 126 63 l = l := xpr_no (by decide +kernel)
theorem r_126_108 : xfetch 126 108 = some (.lload 4, 2) := by decide +kernel
theorem n_126_108 : ∀ l, xpr 126 108 l = l := xpr_no (by decide +kernel)
theorem r_126_110 : xfetch 126 110 = some (.l2i, 1) := by decide +kernel
theorem n_126_110 : ∀ l, xpr 126 110 l = l := xpr_no (by decide +kernel)
theorem r_126_111 : xfetch 126 111 = some (.i2b, 1) := by decide +kernel
theorem n_126_111 : ∀ l, xpr 126 111 l = l := xpr_no (by decide +kernel)
theorem r_126_112 : xfetch 126 112 = some (.i2l, 1) := by decide +kernel
theorem n_126_112 : ∀ l, xpr 126 112 l = l := xpr_no (by decide +kernel)
theorem r_126_113 : xfetch 126 113 = some (.lreturn, 1) := by decide +kernel
theorem n_126_113 : ∀ l, xpr 126 113 l = l := xpr_no (by decide +kernel)
theorem r_126_114 : xfetch 126 114 = some (.lload 4, 2) := by decide +kernel
theorem n_126_114 : ∀ l, xpr 126 114 l = l := xpr_no (by decide +kernel)
theorem r_126_116 : xfetch 126 116 = some (.l2i, 1) := by decide +kernel
theorem n_126_116 : ∀ l, xpr 126 116 l = l := xpr_no (by decide +kernel)
theorem r_126_117 : xfetch 126 117 = some (.i2s, 1) := by decide +kernel
theorem n_126_117 : ∀ l, xpr 126 117 l = l := xpr_no (by decide +kernel)
theorem r_126_118 : xfetch 126 118 = some (.i2l, 1) := by decide +kernel
theorem n_126_118 : ∀ l, xpr 126 118 l = l := xpr_no (by decide +kernel)
theorem r_126_119 : xfetch 126 119 = some (.lreturn, 1) := by decide +kernel
theorem n_126_119 : ∀ l, xpr 126 119 l = l := xpr_no (by decide +kernel)
theorem r_126_120 : xfetch 126 120 = some (.lload 4, 2) := by decide +kernel
theorem n_126_120 : ∀ l, xpr 126 120 l = l := xpr_no (by decide +kernel)
theorem r_126_122 : xfetch 126 122 = some (.l2i, 1) := by decide +kernel
theorem n_126_122 : ∀ l, xpr 126 122 l = l := xpr_no (by decide +kernel)
theorem r_126_123 : xfetch 126 123 = some (.i2l, 1) := by decide +kernel
theorem n_126_123 : ∀ l, xpr 126 123 l = l := xpr_no (by decide +kernel)
theorem r_126_124 : xfetch 126 124 = some (.lreturn, 1) := by decide +kernel
theorem n_126_124 : ∀ l, xpr 126 124 l = l := xpr_no (by decide +kernel)
theorem r_126_125 : xfetch 126 125 = some (.lload 4, 2) := by decide +kernel
theorem n_126_125 : ∀ l, xpr 126 125 l = l := xpr_no (by decide +kernel)
theorem r_126_127 : xfetch 126 127 = some (.lconst 0, 1) := by decide +kernel
theorem n_126_127 : ∀ l, xpr 126 127 l = l := xpr_no (by decide +kernel)
theorem r_126_128 : xfetch 126 128 = some (.lcmp, 1) := by decide +kernel
theorem n_126_128 : ∀ l, xpr 126 128 l = l := xpr_no (by decide +kernel)
theorem r_126_129 : xfetch 126 129 = some (.ifCond .ne 7, 3) := by decide +kernel
theorem n_126_129 : ∀ l, xpr 126 129 l = l := xpr_no (by decide +kernel)
theorem r_126_132 : xfetch 126 132 = some (.lconst 0, 1) := by decide +kernel
theorem n_126_132 : ∀ l, xpr 126 132 l = l := xpr_no (by decide +kernel)
theorem r_126_133 : xfetch 126 133 = some (.goto 4, 3) := by decide +kernel
theorem n_126_133 : ∀ l, xpr 126 133 l = l := xpr_no (by decide +kernel)
theorem r_126_136 : xfetch 126 136 = some (.lconst 1, 1) := by decide +kernel
theorem n_126_136 : ∀ l, xpr 126 136 l = l := xpr_no (by decide +kernel)
theorem r_126_137 : xfetch 126 137 = some (.lreturn, 1) := by decide +kernel
theorem n_126_137 : ∀ l, xpr 126 137 l = l := xpr_no (by decide +kernel)
theorem r_126_138 : xfetch 126 138 = some (.lload 4, 2) := by decide +kernel
theorem n_126_138 : ∀ l, xpr 126 138 l = l := xpr_no (by decide +kernel)
theorem r_126_140 : xfetch 126 140 = some (.lreturn, 1) := by decide +kernel
theorem n_126_140 : ∀ l, xpr 126 140 l = l := xpr_no (by decide +kernel)
theorem v_View_read_0 {S : Option (Nat × (Nat → Int32))} {s : zSt} {Q : Option Value ⊕ Nat → zSt → Prop} {a0 : Int} {a1 : Int} {x2 : Int} {x3 : Int} (ha0 : isO a0 8) (ha1 : isA a1 3 1024)
    (h : wp S 123 0 [(0, rf a0), (1, iv x3)] [] s (fun o1 s1 => zkI (fun y1 => (y1 ≠ 0 → wp S 122 0 [(0, rf a0), (1, iv x2), (2, iv x3)] [] s1 (fun o4 s4 => zkI (fun y4 => (0 ≤ x3 ∧ x3 < 40) ∧ (wp S 127 0 [(0, rf a0), (1, rf a1), (2, iv y4), (3, iv (zI s4 (a0 + 3) x3))] [] s4 (fun o9 s9 => zkL (fun y9 => wp S 46 0 [(0, iv (zI s9 (a0 + 1) x3))] [] s9 (fun o13 s13 => zkI (fun y13 => (y13 = 0 → ((zI s9 (a0 + 1) x3) = 0 → Q (rL (zi2l (zi2b (zl2i y9)))) s13) ∧ (((zI s9 (a0 + 1) x3) = 1 → Q (rL y9) s13) ∧ (((zI s9 (a0 + 1) x3) = 2 → Q (rL (zi2l (zi2s (zl2i y9)))) s13) ∧ (((zI s9 (a0 + 1) x3) = 3 → Q (rL y9) s13) ∧ (((zI s9 (a0 + 1) x3) = 4 → Q (rL (zi2l (zl2i y9))) s13) ∧ (((zI s9 (a0 + 1) x3) = 5 → Q (rL y9) s13) ∧ (((zI s9 (a0 + 1) x3) = 6 → Q (rL y9) s13) ∧ (((zI s9 (a0 + 1) x3) = 7 → ((zcmp y9 0) ≠ 0 → Q (rL 1) s13) ∧ ((zcmp y9 0) = 0 → Q (rL 0) s13)) ∧ ((((zI s9 (a0 + 1) x3) < 0 ∨ 7 < (zI s9 (a0 + 1) x3)) → Q (rL y9) s13)))))))))) ∧ (y13 ≠ 0 → wp S 128 0 [(0, iv (zI s9 (a0 + 1) x3))] [] s13 (fun o20 s20 => zkL (fun y20 => Q (rL ((zushrL y9 (zI s13 (a0 + 4) x3)) &&& y20)) s20) (fun e20 => False) o20))) (fun e13 => False) o13)) (fun e9 => False) o9))) (fun e4 => False) o4)) ∧ (y1 = 0 → Q (rL 0) s1)) (fun e1 => False) o1)) :
    wp S 126 0 [(0, rf a0), (1, rf a1), (2, iv x2), (3, iv x3)] [] s Q := by
  refine i_aload_n (a := a0) r_126_0 (n_126_0 _) rfl ?_
  refine i_iload_n (x := x3) r_126_1 (n_126_1 _) rfl ?_
  refine wp_virt (b := a0) (rest := []) (Ls := [(0, rf a0), (1, iv x3)]) r_126_2 (n_126_2 _) rfl ⟨rfl, rfl, by decide, by decide⟩ rfl rfl ha0 ⟨rfl, Nat.le_of_ble_eq_true rfl, Nat.le_of_ble_eq_true rfl⟩ rfl h ?_
  intro o1 s1 h
  rcases h with ⟨y1, q2, rfl, h⟩ | ⟨e1, rfl, h⟩
  · refine .inl ⟨some (iv y1), rfl, ?_⟩
    show wp S 126 5 [(0, rf a0), (1, rf a1), (2, iv x2), (3, iv x3)] [iv y1] s1 Q
    refine i_if (t := 10) r_126_5 (n_126_5 _) rfl (T_ne q2 ⟨by omega, by omega⟩) (fun c3 => ?_) (fun c3 => ?_)
    · replace h := h.1 c3
      refine i_aload_n (a := a0) r_126_10 (n_126_10 _) rfl ?_
      refine i_aload_n (a := a1) r_126_11 (n_126_11 _) rfl ?_
      refine i_aload_n (a := a0) r_126_12 (n_126_12 _) rfl ?_
      refine i_iload_n (x := x2) r_126_13 (n_126_13 _) rfl ?_
      refine i_iload_n (x := x3) r_126_14 (n_126_14 _) rfl ?_
      refine wp_virt (b := a0) (rest := [rf a1, rf a0]) (Ls := [(0, rf a0), (1, iv x2), (2, iv x3)]) r_126_15 (n_126_15 _) rfl ⟨rfl, rfl, by decide, by decide⟩ rfl rfl ha0 ⟨rfl, Nat.le_of_ble_eq_true rfl, Nat.le_of_ble_eq_true rfl⟩ rfl h ?_
      intro o4 s4 h
      rcases h with ⟨y4, q5, rfl, h⟩ | ⟨e4, rfl, h⟩
      · refine .inl ⟨some (iv y4), rfl, ?_⟩
        show wp S 126 18 [(0, rf a0), (1, rf a1), (2, iv x2), (3, iv x3)] [iv y4, rf a1, rf a0] s4 Q
        refine i_aload_n (a := a0) r_126_18 (n_126_18 _) rfl ?_
        refine i_getR (a := a0) (b := a0 + 3) r_126_19 (n_126_19 _) rfl rfl rfl (by omega) ha0 (by omega) ?_
        have t6 := (t_8_9 ha0)
        refine i_iload_n (x := x3) r_126_22 (n_126_22 _) rfl ?_
        obtain ⟨g7, h⟩ := h
        refine i_iaload (a := a0 + 3) (j := x3) r_126_23 (n_126_23 _) t6 ⟨by omega, by omega⟩ (by omega) (by omega) (fun q8 => ?_)
        refine wp_virt (b := a0) (rest := []) (Ls := [(0, rf a0), (1, rf a1), (2, iv y4), (3, iv (zI s4 (a0 + 3) x3))]) r_126_24 (n_126_24 _) rfl ⟨rfl, rfl, by decide, by decide⟩ rfl rfl ha0 ⟨rfl, Nat.le_of_ble_eq_true rfl, Nat.le_of_ble_eq_true rfl⟩ rfl h ?_
        intro o9 s9 h
        rcases h with ⟨y9, rfl, h⟩ | ⟨e9, rfl, h⟩
        · refine .inl ⟨some (.long y9), rfl, ?_⟩
          show wp S 126 27 [(0, rf a0), (1, rf a1), (2, iv x2), (3, iv x3)] [.long y9] s9 Q
          refine i_lstore (l' := [(0, rf a0), (1, rf a1), (2, iv x2), (3, iv x3), (4, .long y9)]) r_126_27 (n_126_27 _) (by decide) rfl ?_
          refine i_aload_n (a := a0) r_126_29 (n_126_29 _) rfl ?_
          refine i_getR (a := a0) (b := a0 + 1) r_126_30 (n_126_30 _) rfl rfl rfl (by omega) ha0 (by omega) ?_
          have t11 := (t_8_7 ha0)
          refine i_iload_n (x := x3) r_126_33 (n_126_33 _) rfl ?_
          refine i_iaload (a := a0 + 1) (j := x3) r_126_34 (n_126_34 _) t11 ⟨by omega, by omega⟩ (by omega) (by omega) (fun q12 => ?_)
          refine i_istore (l' := [(0, rf a0), (1, rf a1), (2, iv x2), (3, iv x3), (4, .long y9), (6, iv (zI s9 (a0 + 1) x3))]) r_126_35 (n_126_35 _) (by decide) rfl ?_
          refine i_iload (x := zI s9 (a0 + 1) x3) r_126_37 (n_126_37 _) rfl ?_
          refine wp_stat (rest := []) (Ls := [(0, iv (zI s9 (a0 + 1) x3))]) r_126_39 (n_126_39 _) rfl ⟨rfl, by decide, by decide, by decide⟩ rfl rfl ⟨rfl, Nat.le_of_ble_eq_true rfl, Nat.le_of_ble_eq_true rfl⟩ rfl h ?_
          intro o13 s13 h
          rcases h with ⟨y13, q14, rfl, h⟩ | ⟨e13, rfl, h⟩
          · refine .inl ⟨some (iv y13), rfl, ?_⟩
            show wp S 126 42 [(0, rf a0), (1, rf a1), (2, iv x2), (3, iv x3), (4, .long y9), (6, iv (zI s9 (a0 + 1) x3))] [iv y13] s13 Q
            refine i_if (t := 61) r_126_42 (n_126_42 _) rfl (T_eq q14 ⟨by omega, by omega⟩) (fun c15 => ?_) (fun c15 => ?_)
            · replace h := h.1 c15
              refine i_iload (x := zI s9 (a0 + 1) x3) r_126_61 (n_126_61 _) rfl ?_
              rcases (by omega : (zI s9 (a0 + 1) x3) = 0 ∨ (zI s9 (a0 + 1) x3) = 1 ∨ (zI s9 (a0 + 1) x3) = 2 ∨ (zI s9 (a0 + 1) x3) = 3 ∨ (zI s9 (a0 + 1) x3) = 4 ∨ (zI s9 (a0 + 1) x3) = 5 ∨ (zI s9 (a0 + 1) x3) = 6 ∨ (zI s9 (a0 + 1) x3) = 7 ∨ ((zI s9 (a0 + 1) x3) < 0 ∨ 7 < (zI s9 (a0 + 1) x3))) with c16 | c16 | c16 | c16 | c16 | c16 | c16 | c16 | c16
              · replace h := h.1 c16
                refine i_sw_hit (kk := 0) (t := 108) r_126_63 (n_126_63 _) (by omega) q12 (by omega) rfl rfl ?_
                refine i_lload (u := y9) r_126_108 (n_126_108 _) rfl ?_
                refine i_l2i r_126_110 (n_126_110 _) ?_
                refine i_i2b r_126_111 (n_126_111 _) ?_
                refine i_i2l r_126_112 (n_126_112 _) ?_
                exact i_lreturn r_126_113 (n_126_113 _) rfl h
              · replace h := h.2.1 c16
                refine i_sw_hit (kk := 1) (t := 138) r_126_63 (n_126_63 _) (by omega) q12 (by omega) rfl rfl ?_
                refine i_lload (u := y9) r_126_138 (n_126_138 _) rfl ?_
                exact i_lreturn r_126_140 (n_126_140 _) rfl h
              · replace h := h.2.2.1 c16
                refine i_sw_hit (kk := 2) (t := 114) r_126_63 (n_126_63 _) (by omega) q12 (by omega) rfl rfl ?_
                refine i_lload (u := y9) r_126_114 (n_126_114 _) rfl ?_
                refine i_l2i r_126_116 (n_126_116 _) ?_
                refine i_i2s r_126_117 (n_126_117 _) ?_
                refine i_i2l r_126_118 (n_126_118 _) ?_
                exact i_lreturn r_126_119 (n_126_119 _) rfl h
              · replace h := h.2.2.2.1 c16
                refine i_sw_hit (kk := 3) (t := 138) r_126_63 (n_126_63 _) (by omega) q12 (by omega) rfl rfl ?_
                refine i_lload (u := y9) r_126_138 (n_126_138 _) rfl ?_
                exact i_lreturn r_126_140 (n_126_140 _) rfl h
              · replace h := h.2.2.2.2.1 c16
                refine i_sw_hit (kk := 4) (t := 120) r_126_63 (n_126_63 _) (by omega) q12 (by omega) rfl rfl ?_
                refine i_lload (u := y9) r_126_120 (n_126_120 _) rfl ?_
                refine i_l2i r_126_122 (n_126_122 _) ?_
                refine i_i2l r_126_123 (n_126_123 _) ?_
                exact i_lreturn r_126_124 (n_126_124 _) rfl h
              · replace h := h.2.2.2.2.2.1 c16
                refine i_sw_hit (kk := 5) (t := 138) r_126_63 (n_126_63 _) (by omega) q12 (by omega) rfl rfl ?_
                refine i_lload (u := y9) r_126_138 (n_126_138 _) rfl ?_
                exact i_lreturn r_126_140 (n_126_140 _) rfl h
              · replace h := h.2.2.2.2.2.2.1 c16
                refine i_sw_hit (kk := 6) (t := 138) r_126_63 (n_126_63 _) (by omega) q12 (by omega) rfl rfl ?_
                refine i_lload (u := y9) r_126_138 (n_126_138 _) rfl ?_
                exact i_lreturn r_126_140 (n_126_140 _) rfl h
              · replace h := h.2.2.2.2.2.2.2.1 c16
                refine i_sw_hit (kk := 7) (t := 125) r_126_63 (n_126_63 _) (by omega) q12 (by omega) rfl rfl ?_
                refine i_lload (u := y9) r_126_125 (n_126_125 _) rfl ?_
                refine i_lconst r_126_127 (n_126_127 _) ?_
                refine i_lcmp r_126_128 (n_126_128 _) ?_
                refine i_if (t := 136) r_126_129 (n_126_129 _) rfl (T_ne (zcmp_rng _ _) ⟨by omega, by omega⟩) (fun c17 => ?_) (fun c17 => ?_)
                · replace h := h.1 c17
                  refine i_lconst r_126_136 (n_126_136 _) ?_
                  exact i_lreturn r_126_137 (n_126_137 _) rfl h
                · replace h := h.2 c17
                  refine i_lconst r_126_132 (n_126_132 _) ?_
                  refine i_goto (t := 137) r_126_133 (n_126_133 _) rfl ?_
                  exact i_lreturn r_126_137 (n_126_137 _) rfl h
              · replace h := h.2.2.2.2.2.2.2.2 c16
                refine i_sw_out (t := 138) r_126_63 (n_126_63 _) c16 q12 rfl ?_
                refine i_lload (u := y9) r_126_138 (n_126_138 _) rfl ?_
                exact i_lreturn r_126_140 (n_126_140 _) rfl h
            · replace h := h.2 c15
              refine i_lload (u := y9) r_126_45 (n_126_45 _) rfl ?_
              refine i_aload_n (a := a0) r_126_47 (n_126_47 _) rfl ?_
              refine i_getR (a := a0) (b := a0 + 4) r_126_48 (n_126_48 _) rfl rfl rfl (by omega) ha0 (by omega) ?_
              have t18 := (t_8_10 ha0)
              refine i_iload_n (x := x3) r_126_51 (n_126_51 _) rfl ?_
              refine i_iaload (a := a0 + 4) (j := x3) r_126_52 (n_126_52 _) t18 ⟨by omega, by omega⟩ (by omega) (by omega) (fun q19 => ?_)
              refine i_lushr r_126_53 (n_126_53 _) ?_
              refine i_iload (x := zI s9 (a0 + 1) x3) r_126_54 (n_126_54 _) rfl ?_
              refine wp_stat (rest := [.long (zushrL y9 (zI s13 (a0 + 4) x3))]) (Ls := [(0, iv (zI s9 (a0 + 1) x3))]) r_126_56 (n_126_56 _) rfl ⟨rfl, by decide, by decide, by decide⟩ rfl rfl ⟨rfl, Nat.le_of_ble_eq_true rfl, Nat.le_of_ble_eq_true rfl⟩ rfl h ?_
              intro o20 s20 h
              rcases h with ⟨y20, rfl, h⟩ | ⟨e20, rfl, h⟩
              · refine .inl ⟨some (.long y20), rfl, ?_⟩
                show wp S 126 59 [(0, rf a0), (1, rf a1), (2, iv x2), (3, iv x3), (4, .long y9), (6, iv (zI s9 (a0 + 1) x3))] [.long y20, .long (zushrL y9 (zI s13 (a0 + 4) x3))] s20 Q
                refine i_land r_126_59 (n_126_59 _) ?_
                exact i_lreturn r_126_60 (n_126_60 _) rfl h
              · skip
                exact h.elim
          · skip
            exact h.elim
        · skip
          exact h.elim
      · skip
        exact h.elim
    · replace h := h.2 c3
      refine i_lconst r_126_8 (n_126_8 _) ?_
      exact i_lreturn r_126_9 (n_126_9 _) rfl h
  · skip
    exact h.elim
theorem r_127_0 : xfetch 127 0 = some (.lconst 0, 1) := by decide +kernel
theorem n_127_0 : ∀ l, xpr 127 0 l = l := xpr_no (by decide +kernel)
theorem r_127_1 : xfetch 127 1 = some (.lstore 4, 2) := by decide +kernel
theorem n_127_1 : ∀ l, xpr 127 1 l = l := xpr_no (by decide +kernel)
theorem r_127_3 : xfetch 127 3 = some (.iconst 0, 1) := by decide +kernel
theorem n_127_3 : ∀ l, xpr 127 3 l = l := xpr_no (by decide +kernel)
theorem r_127_4 : xfetch 127 4 = some (.istore 6, 2) := by decide +kernel
theorem n_127_4 : ∀ l, xpr 127 4 l = l := xpr_no (by decide +kernel)
theorem r_127_6 : xfetch 127 6 = some (.iload 6, 2) := by decide +kernel
theorem r_127_8 : xfetch 127 8 = some (.iload_n 3, 1) := by decide +kernel
theorem n_127_8 : ∀ l, xpr 127 8 l = l := xpr_no (by decide +kernel)
theorem r_127_9 : xfetch 127 9 = some (.if_icmp .ge 63, 3) := by decide +kernel
theorem n_127_9 : ∀ l, xpr 127 9 l = l := xpr_no (by decide +kernel)
theorem r_127_12 : xfetch 127 12 = some (.aload_n 0, 1) := by decide +kernel
theorem n_127_12 : ∀ l, xpr 127 12 l = l := xpr_no (by decide +kernel)
theorem r_127_13 : xfetch 127 13 = some (.getfield 75, 3) := by decide +kernel
theorem n_127_13 : ∀ l, xpr 127 13 l = l := xpr_no (by decide +kernel)
theorem r_127_16 : xfetch 127 16 = some (.ifCond .ne 14, 3) := by decide +kernel
theorem n_127_16 : ∀ l, xpr 127 16 l = l := xpr_no (by decide +kernel)
theorem r_127_19 : xfetch 127 19 = some (.iload_n 2, 1) := by decide +kernel
theorem n_127_19 : ∀ l, xpr 127 19 l = l := xpr_no (by decide +kernel)
theorem r_127_20 : xfetch 127 20 = some (.iload_n 3, 1) := by decide +kernel
theorem n_127_20 : ∀ l, xpr 127 20 l = l := xpr_no (by decide +kernel)
theorem r_127_21 : xfetch 127 21 = some (.iadd, 1) := by decide +kernel
theorem n_127_21 : ∀ l, xpr 127 21 l = l := xpr_no (by decide +kernel)
theorem r_127_22 : xfetch 127 22 = some (.iconst 1, 1) := by decide +kernel
theorem n_127_22 : ∀ l, xpr 127 22 l = l := xpr_no (by decide +kernel)
theorem r_127_23 : xfetch 127 23 = some (.isub, 1) := by decide +kernel
theorem n_127_23 : ∀ l, xpr 127 23 l = l := xpr_no (by decide +kernel)
theorem r_127_24 : xfetch 127 24 = some (.iload 6, 2) := by decide +kernel
theorem n_127_24 : ∀ l, xpr 127 24 l = l := xpr_no (by decide +kernel)
theorem r_127_26 : xfetch 127 26 = some (.isub, 1) := by decide +kernel
theorem n_127_26 : ∀ l, xpr 127 26 l = l := xpr_no (by decide +kernel)
theorem r_127_27 : xfetch 127 27 = some (.goto 7, 3) := by decide +kernel
theorem n_127_27 : ∀ l, xpr 127 27 l = l := xpr_no (by decide +kernel)
theorem r_127_30 : xfetch 127 30 = some (.iload_n 2, 1) := by decide +kernel
theorem n_127_30 : ∀ l, xpr 127 30 l = l := xpr_no (by decide +kernel)
theorem r_127_31 : xfetch 127 31 = some (.iload 6, 2) := by decide +kernel
theorem n_127_31 : ∀ l, xpr 127 31 l = l := xpr_no (by decide +kernel)
theorem r_127_33 : xfetch 127 33 = some (.iadd, 1) := by decide +kernel
theorem n_127_33 : ∀ l, xpr 127 33 l = l := xpr_no (by decide +kernel)
theorem r_127_34 : xfetch 127 34 = some (.istore 7, 2) := by decide +kernel
theorem n_127_34 : ∀ l, xpr 127 34 l = l := xpr_no (by decide +kernel)
theorem r_127_36 : xfetch 127 36 = some (.iload 7, 2) := by decide +kernel
theorem n_127_36 : ∀ l, xpr 127 36 l = l := xpr_no (by decide +kernel)
theorem r_127_38 : xfetch 127 38 = some (.ifCond .lt 28, 3) := by decide +kernel
theorem n_127_38 : ∀ l, xpr 127 38 l = l := xpr_no (by decide +kernel)
theorem r_127_41 : xfetch 127 41 = some (.iload 7, 2) := by decide +kernel
theorem n_127_41 : ∀ l, xpr 127 41 l = l := xpr_no (by decide +kernel)
theorem r_127_43 : xfetch 127 43 = some (.sipush 1024, 3) := by decide +kernel
theorem n_127_43 : ∀ l, xpr 127 43 l = l := xpr_no (by decide +kernel)
theorem r_127_46 : xfetch 127 46 = some (.if_icmp .ge 20, 3) := by decide +kernel
theorem n_127_46 : ∀ l, xpr 127 46 l = l := xpr_no (by decide +kernel)
theorem r_127_49 : xfetch 127 49 = some (.lload 4, 2) := by decide +kernel
theorem n_127_49 : ∀ l, xpr 127 49 l = l := xpr_no (by decide +kernel)
theorem r_127_51 : xfetch 127 51 = some (.bipush 8, 2) := by decide +kernel
theorem n_127_51 : ∀ l, xpr 127 51 l = l := xpr_no (by decide +kernel)
theorem r_127_53 : xfetch 127 53 = some (.lshl, 1) := by decide +kernel
theorem n_127_53 : ∀ l, xpr 127 53 l = l := xpr_no (by decide +kernel)
theorem r_127_54 : xfetch 127 54 = some (.aload_n 1, 1) := by decide +kernel
theorem n_127_54 : ∀ l, xpr 127 54 l = l := xpr_no (by decide +kernel)
theorem r_127_55 : xfetch 127 55 = some (.iload 7, 2) := by decide +kernel
theorem n_127_55 : ∀ l, xpr 127 55 l = l := xpr_no (by decide +kernel)
theorem r_127_57 : xfetch 127 57 = some (.baload, 1) := by decide +kernel
theorem n_127_57 : ∀ l, xpr 127 57 l = l := xpr_no (by decide +kernel)
theorem r_127_58 : xfetch 127 58 = some (.sipush 255, 3) := by decide +kernel
theorem n_127_58 : ∀ l, xpr 127 58 l = l := xpr_no (by decide +kernel)
theorem r_127_61 : xfetch 127 61 = some (.iand, 1) := by decide +kernel
theorem n_127_61 : ∀ l, xpr 127 61 l = l := xpr_no (by decide +kernel)
theorem r_127_62 : xfetch 127 62 = some (.i2l, 1) := by decide +kernel
theorem n_127_62 : ∀ l, xpr 127 62 l = l := xpr_no (by decide +kernel)
theorem r_127_63 : xfetch 127 63 = some (.lor, 1) := by decide +kernel
theorem n_127_63 : ∀ l, xpr 127 63 l = l := xpr_no (by decide +kernel)
theorem r_127_64 : xfetch 127 64 = some (.lstore 4, 2) := by decide +kernel
theorem n_127_64 : ∀ l, xpr 127 64 l = l := xpr_no (by decide +kernel)
theorem r_127_66 : xfetch 127 66 = some (.iinc 6 1, 3) := by decide +kernel
theorem n_127_66 : ∀ l, xpr 127 66 l = l := xpr_no (by decide +kernel)
theorem r_127_69 : xfetch 127 69 = some (.goto (-63), 3) := by decide +kernel
theorem n_127_69 : ∀ l, xpr 127 69 l = l := xpr_no (by decide +kernel)
theorem r_127_72 : xfetch 127 72 = some (.lload 4, 2) := by decide +kernel
theorem n_127_72 : ∀ l, xpr 127 72 l = l := xpr_no (by decide +kernel)
theorem r_127_74 : xfetch 127 74 = some (.lreturn, 1) := by decide +kernel
theorem n_127_74 : ∀ l, xpr 127 74 l = l := xpr_no (by decide +kernel)
theorem v_View_rawAt_0 {S : Option (Nat × (Nat → Int32))} {s : zSt} {Q : Option Value ⊕ Nat → zSt → Prop} {a0 : Int} {a1 : Int} {x2 : Int} {x3 : Int} (ha0 : isO a0 8) (ha1 : isA a1 3 1024)
    (h : wp S 127 6 [(0, rf a0), (1, rf a1), (2, iv x2), (3, iv x3), (4, .long 0), (6, iv 0)] [] s Q) :
    wp S 127 0 [(0, rf a0), (1, rf a1), (2, iv x2), (3, iv x3)] [] s Q := by
  refine i_lconst r_127_0 (n_127_0 _) ?_
  refine i_lstore (l' := [(0, rf a0), (1, rf a1), (2, iv x2), (3, iv x3), (4, .long 0)]) r_127_1 (n_127_1 _) (by decide) rfl ?_
  refine i_iconst r_127_3 (n_127_3 _) ?_
  refine i_istore (l' := [(0, rf a0), (1, rf a1), (2, iv x2), (3, iv x3), (4, .long 0), (6, iv 0)]) r_127_4 (n_127_4 _) (by decide) rfl ?_
  exact wp_pr (l' := [(0, rf a0), (1, rf a1), (2, iv x2), (3, iv x3), (4, .long 0), (6, iv 0)]) rfl h
theorem v_View_rawAt_6 {S : Option (Nat × (Nat → Int32))} {s : zSt} {Q : Option Value ⊕ Nat → zSt → Prop} {a0 : Int} {a1 : Int} {x2 : Int} {x3 : Int} {u4 : Int64} {x6 : Int} (ha0 : isO a0 8) (ha1 : isA a1 3 1024)
    (h : rng x6 ∧ (rng x3 ∧ ((x3 ≤ x6 → Q (rL u4) s) ∧ (x6 < x3 → ((zI s a0 1) ≠ 0 → rng (x2 + x6) ∧ (((x2 + x6) < 0 → wp S 127 6 [(0, rf a0), (1, rf a1), (2, iv x2), (3, iv x3), (4, .long u4), (6, iv (x6 + 1))] [] s Q) ∧ (0 ≤ (x2 + x6) → (1024 ≤ (x2 + x6) → wp S 127 6 [(0, rf a0), (1, rf a1), (2, iv x2), (3, iv x3), (4, .long u4), (6, iv (x6 + 1))] [] s Q) ∧ ((x2 + x6) < 1024 → (0 ≤ (x2 + x6) ∧ (x2 + x6) < 1024) ∧ (wp S 127 6 [(0, rf a0), (1, rf a1), (2, iv x2), (3, iv x3), (4, .long ((zshlL u4 8) ||| (zi2l (zand (zI s a1 (x2 + x6)) 255)))), (6, iv (x6 + 1))] [] s Q))))) ∧ ((zI s a0 1) = 0 → rng (((x2 + x3) - 1) - x6) ∧ (((((x2 + x3) - 1) - x6) < 0 → wp S 127 6 [(0, rf a0), (1, rf a1), (2, iv x2), (3, iv x3), (4, .long u4), (6, iv (x6 + 1))] [] s Q) ∧ (0 ≤ (((x2 + x3) - 1) - x6) → (1024 ≤ (((x2 + x3) - 1) - x6) → wp S 127 6 [(0, rf a0), (1, rf a1), (2, iv x2), (3, iv x3), (4, .long u4), (6, iv (x6 + 1))] [] s Q) ∧ ((((x2 + x3) - 1) - x6) < 1024 → (0 ≤ (((x2 + x3) - 1) - x6) ∧ (((x2 + x3) - 1) - x6) < 1024) ∧ (wp S 127 6 [(0, rf a0), (1, rf a1), (2, iv x2), (3, iv x3), (4, .long ((zshlL u4 8) ||| (zi2l (zand (zI s a1 (((x2 + x3) - 1) - x6)) 255)))), (6, iv (x6 + 1))] [] s Q))))))))) :
    wp S 127 6 [(0, rf a0), (1, rf a1), (2, iv x2), (3, iv x3), (4, .long u4), (6, iv x6)] [] s Q := by
  refine i_iload (x := x6) r_127_6 rfl rfl ?_
  refine i_iload_n (x := x3) r_127_8 (n_127_8 _) rfl ?_
  obtain ⟨g1, h⟩ := h
  obtain ⟨g2, h⟩ := h
  refine i_icmp (t := 72) r_127_9 (n_127_9 _) rfl (T_ge g1 g2) (fun c3 => ?_) (fun c3 => ?_)
  · replace h := h.1 c3
    refine i_lload (u := u4) r_127_72 (n_127_72 _) rfl ?_
    exact i_lreturn r_127_74 (n_127_74 _) rfl h
  · replace h := h.2 c3
    refine i_aload_n (a := a0) r_127_12 (n_127_12 _) rfl ?_
    refine i_getI (a := a0) r_127_13 (n_127_13 _) rfl (by decide) ha0 (fun q4 => ?_)
    refine i_if (t := 30) r_127_16 (n_127_16 _) rfl (T_ne q4 ⟨by omega, by omega⟩) (fun c5 => ?_) (fun c5 => ?_)
    · replace h := h.1 c5
      refine i_iload_n (x := x2) r_127_30 (n_127_30 _) rfl ?_
      refine i_iload (x := x6) r_127_31 (n_127_31 _) rfl ?_
      refine i_iadd r_127_33 (n_127_33 _) ?_
      refine i_istore (l' := [(0, rf a0), (1, rf a1), (2, iv x2), (3, iv x3), (4, .long u4), (6, iv x6), (7, iv (x2 + x6))]) r_127_34 (n_127_34 _) (by decide) rfl ?_
      refine i_iload (x := x2 + x6) r_127_36 (n_127_36 _) rfl ?_
      obtain ⟨g6, h⟩ := h
      refine i_if (t := 66) r_127_38 (n_127_38 _) rfl (T_lt g6 ⟨by omega, by omega⟩) (fun c7 => ?_) (fun c7 => ?_)
      · replace h := h.1 c7
        refine i_iinc (x := x6) (l' := [(0, rf a0), (1, rf a1), (2, iv x2), (3, iv x3), (4, .long u4), (6, iv (x6 + 1)), (7, iv (x2 + x6))]) r_127_66 (n_127_66 _) (by decide) rfl rfl ?_
        refine i_goto (t := 6) r_127_69 (n_127_69 _) rfl ?_
        exact wp_pr (l' := [(0, rf a0), (1, rf a1), (2, iv x2), (3, iv x3), (4, .long u4), (6, iv (x6 + 1))]) rfl h
      · replace h := h.2 c7
        refine i_iload (x := x2 + x6) r_127_41 (n_127_41 _) rfl ?_
        refine i_sipush r_127_43 (n_127_43 _) rfl ?_
        refine i_icmp (t := 66) r_127_46 (n_127_46 _) rfl (T_ge g6 ⟨by omega, by omega⟩) (fun c8 => ?_) (fun c8 => ?_)
        · replace h := h.1 c8
          refine i_iinc (x := x6) (l' := [(0, rf a0), (1, rf a1), (2, iv x2), (3, iv x3), (4, .long u4), (6, iv (x6 + 1)), (7, iv (x2 + x6))]) r_127_66 (n_127_66 _) (by decide) rfl rfl ?_
          refine i_goto (t := 6) r_127_69 (n_127_69 _) rfl ?_
          exact wp_pr (l' := [(0, rf a0), (1, rf a1), (2, iv x2), (3, iv x3), (4, .long u4), (6, iv (x6 + 1))]) rfl h
        · replace h := h.2 c8
          refine i_lload (u := u4) r_127_49 (n_127_49 _) rfl ?_
          refine i_bipush r_127_51 (n_127_51 _) rfl ?_
          refine i_lshl r_127_53 (n_127_53 _) ?_
          refine i_aload_n (a := a1) r_127_54 (n_127_54 _) rfl ?_
          refine i_iload (x := x2 + x6) r_127_55 (n_127_55 _) rfl ?_
          obtain ⟨g9, h⟩ := h
          refine i_baload (a := a1) (j := x2 + x6) r_127_57 (n_127_57 _) ha1 ⟨by omega, by omega⟩ (by omega) (by omega) (fun q10 => ?_)
          refine i_sipush r_127_58 (n_127_58 _) rfl ?_
          refine i_iand r_127_61 (n_127_61 _) ?_
          refine i_i2l r_127_62 (n_127_62 _) ?_
          refine i_lor r_127_63 (n_127_63 _) ?_
          refine i_lstore (l' := [(0, rf a0), (1, rf a1), (2, iv x2), (3, iv x3), (4, .long ((zshlL u4 8) ||| (zi2l (zand (zI s a1 (x2 + x6)) 255)))), (6, iv x6), (7, iv (x2 + x6))]) r_127_64 (n_127_64 _) (by decide) rfl ?_
          refine i_iinc (x := x6) (l' := [(0, rf a0), (1, rf a1), (2, iv x2), (3, iv x3), (4, .long ((zshlL u4 8) ||| (zi2l (zand (zI s a1 (x2 + x6)) 255)))), (6, iv (x6 + 1)), (7, iv (x2 + x6))]) r_127_66 (n_127_66 _) (by decide) rfl rfl ?_
          refine i_goto (t := 6) r_127_69 (n_127_69 _) rfl ?_
          exact wp_pr (l' := [(0, rf a0), (1, rf a1), (2, iv x2), (3, iv x3), (4, .long ((zshlL u4 8) ||| (zi2l (zand (zI s a1 (x2 + x6)) 255)))), (6, iv (x6 + 1))]) rfl h
    · replace h := h.2 c5
      refine i_iload_n (x := x2) r_127_19 (n_127_19 _) rfl ?_
      refine i_iload_n (x := x3) r_127_20 (n_127_20 _) rfl ?_
      refine i_iadd r_127_21 (n_127_21 _) ?_
      refine i_iconst r_127_22 (n_127_22 _) ?_
      refine i_isub r_127_23 (n_127_23 _) ?_
      refine i_iload (x := x6) r_127_24 (n_127_24 _) rfl ?_
      refine i_isub r_127_26 (n_127_26 _) ?_
      refine i_goto (t := 34) r_127_27 (n_127_27 _) rfl ?_
      refine i_istore (l' := [(0, rf a0), (1, rf a1), (2, iv x2), (3, iv x3), (4, .long u4), (6, iv x6), (7, iv (((x2 + x3) - 1) - x6))]) r_127_34 (n_127_34 _) (by decide) rfl ?_
      refine i_iload (x := ((x2 + x3) - 1) - x6) r_127_36 (n_127_36 _) rfl ?_
      obtain ⟨g11, h⟩ := h
      refine i_if (t := 66) r_127_38 (n_127_38 _) rfl (T_lt g11 ⟨by omega, by omega⟩) (fun c12 => ?_) (fun c12 => ?_)
      · replace h := h.1 c12
        refine i_iinc (x := x6) (l' := [(0, rf a0), (1, rf a1), (2, iv x2), (3, iv x3), (4, .long u4), (6, iv (x6 + 1)), (7, iv (((x2 + x3) - 1) - x6))]) r_127_66 (n_127_66 _) (by decide) rfl rfl ?_
        refine i_goto (t := 6) r_127_69 (n_127_69 _) rfl ?_
        exact wp_pr (l' := [(0, rf a0), (1, rf a1), (2, iv x2), (3, iv x3), (4, .long u4), (6, iv (x6 + 1))]) rfl h
      · replace h := h.2 c12
        refine i_iload (x := ((x2 + x3) - 1) - x6) r_127_41 (n_127_41 _) rfl ?_
        refine i_sipush r_127_43 (n_127_43 _) rfl ?_
        refine i_icmp (t := 66) r_127_46 (n_127_46 _) rfl (T_ge g11 ⟨by omega, by omega⟩) (fun c13 => ?_) (fun c13 => ?_)
        · replace h := h.1 c13
          refine i_iinc (x := x6) (l' := [(0, rf a0), (1, rf a1), (2, iv x2), (3, iv x3), (4, .long u4), (6, iv (x6 + 1)), (7, iv (((x2 + x3) - 1) - x6))]) r_127_66 (n_127_66 _) (by decide) rfl rfl ?_
          refine i_goto (t := 6) r_127_69 (n_127_69 _) rfl ?_
          exact wp_pr (l' := [(0, rf a0), (1, rf a1), (2, iv x2), (3, iv x3), (4, .long u4), (6, iv (x6 + 1))]) rfl h
        · replace h := h.2 c13
          refine i_lload (u := u4) r_127_49 (n_127_49 _) rfl ?_
          refine i_bipush r_127_51 (n_127_51 _) rfl ?_
          refine i_lshl r_127_53 (n_127_53 _) ?_
          refine i_aload_n (a := a1) r_127_54 (n_127_54 _) rfl ?_
          refine i_iload (x := ((x2 + x3) - 1) - x6) r_127_55 (n_127_55 _) rfl ?_
          obtain ⟨g14, h⟩ := h
          refine i_baload (a := a1) (j := ((x2 + x3) - 1) - x6) r_127_57 (n_127_57 _) ha1 ⟨by omega, by omega⟩ (by omega) (by omega) (fun q15 => ?_)
          refine i_sipush r_127_58 (n_127_58 _) rfl ?_
          refine i_iand r_127_61 (n_127_61 _) ?_
          refine i_i2l r_127_62 (n_127_62 _) ?_
          refine i_lor r_127_63 (n_127_63 _) ?_
          refine i_lstore (l' := [(0, rf a0), (1, rf a1), (2, iv x2), (3, iv x3), (4, .long ((zshlL u4 8) ||| (zi2l (zand (zI s a1 (((x2 + x3) - 1) - x6)) 255)))), (6, iv x6), (7, iv (((x2 + x3) - 1) - x6))]) r_127_64 (n_127_64 _) (by decide) rfl ?_
          refine i_iinc (x := x6) (l' := [(0, rf a0), (1, rf a1), (2, iv x2), (3, iv x3), (4, .long ((zshlL u4 8) ||| (zi2l (zand (zI s a1 (((x2 + x3) - 1) - x6)) 255)))), (6, iv (x6 + 1)), (7, iv (((x2 + x3) - 1) - x6))]) r_127_66 (n_127_66 _) (by decide) rfl rfl ?_
          refine i_goto (t := 6) r_127_69 (n_127_69 _) rfl ?_
          exact wp_pr (l' := [(0, rf a0), (1, rf a1), (2, iv x2), (3, iv x3), (4, .long ((zshlL u4 8) ||| (zi2l (zand (zI s a1 (((x2 + x3) - 1) - x6)) 255)))), (6, iv (x6 + 1))]) rfl h

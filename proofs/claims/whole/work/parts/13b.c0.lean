theorem r_10_0 : xfetch 10 0 = some (.aload_n 0, 1) := by decide +kernel
theorem n_10_0 : ∀ l, xpr 10 0 l = l := xpr_no (by decide +kernel)
theorem r_10_1 : xfetch 10 1 = some (.getfield 10, 3) := by decide +kernel
theorem n_10_1 : ∀ l, xpr 10 1 l = l := xpr_no (by decide +kernel)
theorem r_10_4 : xfetch 10 4 = some (.getfield 80, 3) := by decide +kernel
theorem n_10_4 : ∀ l, xpr 10 4 l = l := xpr_no (by decide +kernel)
theorem r_10_7 : xfetch 10 7 = some (.ireturn, 1) := by decide +kernel
theorem n_10_7 : ∀ l, xpr 10 7 l = l := xpr_no (by decide +kernel)
theorem v_RL_records_0 {S : Option (Nat × (Nat → Int32))} {s : zSt} {Q : Option Value ⊕ Nat → zSt → Prop}  
    (h : Q (rI (zI s 3 0)) s) :
    wp S 10 0 [(0, rf 2)] [] s Q := by
  refine i_aload_n (a := 2) r_10_0 (n_10_0 _) rfl ?_
  refine i_getR (a := 2) (b := 3) r_10_1 (n_10_1 _) rfl rfl rfl (by omega) lf_2 (by omega) ?_
  refine i_getI (a := 3) r_10_4 (n_10_4 _) rfl (by decide) lf_3 (fun q1 => ?_)
  exact i_ireturn r_10_7 (n_10_7 _) rfl h
theorem r_11_0 : xfetch 11 0 = some (.aload_n 0, 1) := by decide +kernel
theorem n_11_0 : ∀ l, xpr 11 0 l = l := xpr_no (by decide +kernel)
theorem r_11_1 : xfetch 11 1 = some (.getfield 29, 3) := by decide +kernel
theorem n_11_1 : ∀ l, xpr 11 1 l = l := xpr_no (by decide +kernel)
theorem r_11_4 : xfetch 11 4 = some (.getfield 205, 3) := by decide +kernel
theorem n_11_4 : ∀ l, xpr 11 4 l = l := xpr_no (by decide +kernel)
theorem r_11_7 : xfetch 11 7 = some (.istore_n 1, 1) := by decide +kernel
theorem n_11_7 : ∀ l, xpr 11 7 l = l := xpr_no (by decide +kernel)
theorem r_11_8 : xfetch 11 8 = some (.aload_n 0, 1) := by decide +kernel
theorem n_11_8 : ∀ l, xpr 11 8 l = l := xpr_no (by decide +kernel)
theorem r_11_9 : xfetch 11 9 = some (.getfield 29, 3) := by decide +kernel
theorem n_11_9 : ∀ l, xpr 11 9 l = l := xpr_no (by decide +kernel)
theorem r_11_12 : xfetch 11 12 = some (.iconst 0, 1) := by decide +kernel
theorem n_11_12 : ∀ l, xpr 11 12 l = l := xpr_no (by decide +kernel)
theorem r_11_13 : xfetch 11 13 = some (.putfield 205, 3) := by decide +kernel
theorem n_11_13 : ∀ l, xpr 11 13 l = l := xpr_no (by decide +kernel)
theorem r_11_16 : xfetch 11 16 = some (.iload_n 1, 1) := by decide +kernel
theorem n_11_16 : ∀ l, xpr 11 16 l = l := xpr_no (by decide +kernel)
theorem r_11_17 : xfetch 11 17 = some (.ireturn, 1) := by decide +kernel
theorem n_11_17 : ∀ l, xpr 11 17 l = l := xpr_no (by decide +kernel)
theorem v_RL_clearText_0 {S : Option (Nat × (Nat → Int32))} {s : zSt} {Q : Option Value ⊕ Nat → zSt → Prop}  
    (h : Q (rI (zI s 36 0)) (zwI s 36 0 0)) :
    wp S 11 0 [(0, rf 2)] [] s Q := by
  refine i_aload_n (a := 2) r_11_0 (n_11_0 _) rfl ?_
  refine i_getR (a := 2) (b := 36) r_11_1 (n_11_1 _) rfl rfl rfl (by omega) lf_2 (by omega) ?_
  refine i_getI (a := 36) r_11_4 (n_11_4 _) rfl (by decide) lf_36 (fun q1 => ?_)
  refine i_istore_n (l' := [(0, rf 2), (1, iv (zI s 36 0))]) r_11_7 (n_11_7 _) (by decide) rfl ?_
  refine i_aload_n (a := 2) r_11_8 (n_11_8 _) rfl ?_
  refine i_getR (a := 2) (b := 36) r_11_9 (n_11_9 _) rfl rfl rfl (by omega) lf_2 (by omega) ?_
  refine i_iconst r_11_12 (n_11_12 _) ?_
  refine i_putI (a := 36) (x := 0) r_11_13 (n_11_13 _) rfl (.inl rfl) rfl lf_36 ⟨by omega, by omega⟩ ?_
  refine i_iload_n (x := zI s 36 0) r_11_16 (n_11_16 _) rfl ?_
  exact i_ireturn r_11_17 (n_11_17 _) rfl h
theorem r_12_0 : xfetch 12 0 = some (.iconst 0, 1) := by decide +kernel
theorem n_12_0 : ∀ l, xpr 12 0 l = l := xpr_no (by decide +kernel)
theorem r_12_1 : xfetch 12 1 = some (.istore_n 1, 1) := by decide +kernel
theorem n_12_1 : ∀ l, xpr 12 1 l = l := xpr_no (by decide +kernel)
theorem r_12_2 : xfetch 12 2 = some (.iconst 0, 1) := by decide +kernel
theorem n_12_2 : ∀ l, xpr 12 2 l = l := xpr_no (by decide +kernel)
theorem r_12_3 : xfetch 12 3 = some (.istore_n 2, 1) := by decide +kernel
theorem n_12_3 : ∀ l, xpr 12 3 l = l := xpr_no (by decide +kernel)
theorem r_12_4 : xfetch 12 4 = some (.iload_n 2, 1) := by decide +kernel
theorem r_12_5 : xfetch 12 5 = some (.iconst 3, 1) := by decide +kernel
theorem n_12_5 : ∀ l, xpr 12 5 l = l := xpr_no (by decide +kernel)
theorem r_12_6 : xfetch 12 6 = some (.if_icmp .ge 30, 3) := by decide +kernel
theorem n_12_6 : ∀ l, xpr 12 6 l = l := xpr_no (by decide +kernel)
theorem r_12_9 : xfetch 12 9 = some (.aload_n 0, 1) := by decide +kernel
theorem n_12_9 : ∀ l, xpr 12 9 l = l := xpr_no (by decide +kernel)
theorem r_12_10 : xfetch 12 10 = some (.getfield 10, 3) := by decide +kernel
theorem n_12_10 : ∀ l, xpr 12 10 l = l := xpr_no (by decide +kernel)
theorem r_12_13 : xfetch 12 13 = some (.getfield 256, 3) := by decide +kernel
theorem n_12_13 : ∀ l, xpr 12 13 l = l := xpr_no (by decide +kernel)
theorem r_12_16 : xfetch 12 16 = some (.iload_n 2, 1) := by decide +kernel
theorem n_12_16 : ∀ l, xpr 12 16 l = l := xpr_no (by decide +kernel)
theorem r_12_17 : xfetch 12 17 = some (.aaload, 1) := by decide +kernel
theorem n_12_17 : ∀ l, xpr 12 17 l = l := xpr_no (by decide +kernel)
theorem r_12_18 : xfetch 12 18 = some (.getfield 260, 3) := by decide +kernel
theorem n_12_18 : ∀ l, xpr 12 18 l = l := xpr_no (by decide +kernel)
theorem r_12_21 : xfetch 12 21 = some (.ifCond .eq 9, 3) := by decide +kernel
theorem n_12_21 : ∀ l, xpr 12 21 l = l := xpr_no (by decide +kernel)
theorem r_12_24 : xfetch 12 24 = some (.iload_n 1, 1) := by decide +kernel
theorem n_12_24 : ∀ l, xpr 12 24 l = l := xpr_no (by decide +kernel)
theorem r_12_25 : xfetch 12 25 = some (.iconst 1, 1) := by decide +kernel
theorem n_12_25 : ∀ l, xpr 12 25 l = l := xpr_no (by decide +kernel)
theorem r_12_26 : xfetch 12 26 = some (.iload_n 2, 1) := by decide +kernel
theorem n_12_26 : ∀ l, xpr 12 26 l = l := xpr_no (by decide +kernel)
theorem r_12_27 : xfetch 12 27 = some (.ishl, 1) := by decide +kernel
theorem n_12_27 : ∀ l, xpr 12 27 l = l := xpr_no (by decide +kernel)
theorem r_12_28 : xfetch 12 28 = some (.ior, 1) := by decide +kernel
theorem n_12_28 : ∀ l, xpr 12 28 l = l := xpr_no (by decide +kernel)
theorem r_12_29 : xfetch 12 29 = some (.istore_n 1, 1) := by decide +kernel
theorem n_12_29 : ∀ l, xpr 12 29 l = l := xpr_no (by decide +kernel)
theorem r_12_30 : xfetch 12 30 = some (.iinc 2 1, 3) := by decide +kernel
theorem n_12_30 : ∀ l, xpr 12 30 l = l := xpr_no (by decide +kernel)
theorem r_12_33 : xfetch 12 33 = some (.goto (-29), 3) := by decide +kernel
theorem n_12_33 : ∀ l, xpr 12 33 l = l := xpr_no (by decide +kernel)
theorem r_12_36 : xfetch 12 36 = some (.iload_n 1, 1) := by decide +kernel
theorem n_12_36 : ∀ l, xpr 12 36 l = l := xpr_no (by decide +kernel)
theorem r_12_37 : xfetch 12 37 = some (.ireturn, 1) := by decide +kernel
theorem n_12_37 : ∀ l, xpr 12 37 l = l := xpr_no (by decide +kernel)
theorem v_RL_tables_0 {S : Option (Nat × (Nat → Int32))} {s : zSt} {Q : Option Value ⊕ Nat → zSt → Prop}  
    (h : wp S 12 4 [(0, rf 2), (1, iv 0), (2, iv 0)] [] s Q) :
    wp S 12 0 [(0, rf 2)] [] s Q := by
  refine i_iconst r_12_0 (n_12_0 _) ?_
  refine i_istore_n (l' := [(0, rf 2), (1, iv 0)]) r_12_1 (n_12_1 _) (by decide) rfl ?_
  refine i_iconst r_12_2 (n_12_2 _) ?_
  refine i_istore_n (l' := [(0, rf 2), (1, iv 0), (2, iv 0)]) r_12_3 (n_12_3 _) (by decide) rfl ?_
  exact wp_pr (l' := [(0, rf 2), (1, iv 0), (2, iv 0)]) rfl h
theorem v_RL_tables_4 {S : Option (Nat × (Nat → Int32))} {s : zSt} {Q : Option Value ⊕ Nat → zSt → Prop} {x1 : Int} {x2 : Int} 
    (h : rng x2 ∧ ((3 ≤ x2 → Q (rI x1) s) ∧ (x2 < 3 → (0 ≤ x2 ∧ x2 < 3) ∧ (((zI s (31 + x2) 0) = 0 → wp S 12 4 [(0, rf 2), (1, iv x1), (2, iv (x2 + 1))] [] s Q) ∧ ((zI s (31 + x2) 0) ≠ 0 → wp S 12 4 [(0, rf 2), (1, iv (zor x1 (zshl 1 x2))), (2, iv (x2 + 1))] [] s Q))))) :
    wp S 12 4 [(0, rf 2), (1, iv x1), (2, iv x2)] [] s Q := by
  refine i_iload_n (x := x2) r_12_4 rfl rfl ?_
  refine i_iconst r_12_5 (n_12_5 _) ?_
  obtain ⟨g1, h⟩ := h
  refine i_icmp (t := 36) r_12_6 (n_12_6 _) rfl (T_ge g1 ⟨by omega, by omega⟩) (fun c2 => ?_) (fun c2 => ?_)
  · replace h := h.1 c2
    refine i_iload_n (x := x1) r_12_36 (n_12_36 _) rfl ?_
    exact i_ireturn r_12_37 (n_12_37 _) rfl h
  · replace h := h.2 c2
    refine i_aload_n (a := 2) r_12_9 (n_12_9 _) rfl ?_
    refine i_getR (a := 2) (b := 3) r_12_10 (n_12_10 _) rfl rfl rfl (by omega) lf_2 (by omega) ?_
    refine i_getR (a := 3) (b := 5) r_12_13 (n_12_13 _) rfl rfl rfl (by omega) lf_3 (by omega) ?_
    refine i_iload_n (x := x2) r_12_16 (n_12_16 _) rfl ?_
    obtain ⟨g3, h⟩ := h
    refine i_aaload (c := 6) (a := 5) (j := x2) (b := 31 + x2) r_12_17 (n_12_17 _) lf_5 ⟨by omega, by omega⟩ (by omega) (by omega) rfl (by omega) ?_
    have t4 := e_6 (j := x2) lf_5 (by omega) (by omega)
    rw [show 5 + 26 + 1 * x2 = 31 + x2 by omega] at t4
    refine i_getI (a := 31 + x2) r_12_18 (n_12_18 _) rfl (by decide) t4 (fun q5 => ?_)
    refine i_if (t := 30) r_12_21 (n_12_21 _) rfl (T_eq q5 ⟨by omega, by omega⟩) (fun c6 => ?_) (fun c6 => ?_)
    · replace h := h.1 c6
      refine i_iinc (x := x2) (l' := [(0, rf 2), (1, iv x1), (2, iv (x2 + 1))]) r_12_30 (n_12_30 _) (by decide) rfl rfl ?_
      refine i_goto (t := 4) r_12_33 (n_12_33 _) rfl ?_
      exact wp_pr (l' := [(0, rf 2), (1, iv x1), (2, iv (x2 + 1))]) rfl h
    · replace h := h.2 c6
      refine i_iload_n (x := x1) r_12_24 (n_12_24 _) rfl ?_
      refine i_iconst r_12_25 (n_12_25 _) ?_
      refine i_iload_n (x := x2) r_12_26 (n_12_26 _) rfl ?_
      refine i_ishl r_12_27 (n_12_27 _) ?_
      refine i_ior r_12_28 (n_12_28 _) ?_
      refine i_istore_n (l' := [(0, rf 2), (1, iv (zor x1 (zshl 1 x2))), (2, iv x2)]) r_12_29 (n_12_29 _) (by decide) rfl ?_
      refine i_iinc (x := x2) (l' := [(0, rf 2), (1, iv (zor x1 (zshl 1 x2))), (2, iv (x2 + 1))]) r_12_30 (n_12_30 _) (by decide) rfl rfl ?_
      refine i_goto (t := 4) r_12_33 (n_12_33 _) rfl ?_
      exact wp_pr (l' := [(0, rf 2), (1, iv (zor x1 (zshl 1 x2))), (2, iv (x2 + 1))]) rfl h
theorem r_13_0 : xfetch 13 0 = some (.iload_n 1, 1) := by decide +kernel
theorem n_13_0 : ∀ l, xpr 13 0 l = l := xpr_no (by decide +kernel)
theorem r_13_1 : xfetch 13 1 = some (.ifCond .eq 32, 3) := by decide +kernel
theorem n_13_1 : ∀ l, xpr 13 1 l = l := xpr_no (by decide +kernel)
theorem r_13_4 : xfetch 13 4 = some (.iconst 0, 1) := by decide +kernel
theorem n_13_4 : ∀ l, xpr 13 4 l = l := xpr_no (by decide +kernel)
theorem r_13_5 : xfetch 13 5 = some (.istore_n 2, 1) := by decide +kernel
theorem n_13_5 : ∀ l, xpr 13 5 l = l := xpr_no (by decide +kernel)
theorem r_13_6 : xfetch 13 6 = some (.iconst 0, 1) := by decide +kernel
theorem n_13_6 : ∀ l, xpr 13 6 l = l := xpr_no (by decide +kernel)
theorem r_13_7 : xfetch 13 7 = some (.istore_n 3, 1) := by decide +kernel
theorem n_13_7 : ∀ l, xpr 13 7 l = l := xpr_no (by decide +kernel)
theorem r_13_8 : xfetch 13 8 = some (.iload_n 3, 1) := by decide +kernel
theorem r_13_9 : xfetch 13 9 = some (.sipush 1024, 3) := by decide +kernel
theorem n_13_9 : ∀ l, xpr 13 9 l = l := xpr_no (by decide +kernel)
theorem r_13_12 : xfetch 13 12 = some (.if_icmp .ge 19, 3) := by decide +kernel
theorem n_13_12 : ∀ l, xpr 13 12 l = l := xpr_no (by decide +kernel)
theorem r_13_15 : xfetch 13 15 = some (.iload_n 2, 1) := by decide +kernel
theorem n_13_15 : ∀ l, xpr 13 15 l = l := xpr_no (by decide +kernel)
theorem r_13_16 : xfetch 13 16 = some (.aload_n 0, 1) := by decide +kernel
theorem n_13_16 : ∀ l, xpr 13 16 l = l := xpr_no (by decide +kernel)
theorem r_13_17 : xfetch 13 17 = some (.iload_n 3, 1) := by decide +kernel
theorem n_13_17 : ∀ l, xpr 13 17 l = l := xpr_no (by decide +kernel)
theorem r_13_18 : xfetch 13 18 = some (.invokevirtual 316, 3) := by decide +kernel
theorem n_13_18 : ∀ l, xpr 13 18 l = l := xpr_no (by decide +kernel)
theorem r_13_21 : xfetch 13 21 = some (.invokestatic 319, 3) := by decide +kernel
theorem n_13_21 : ∀ l, xpr 13 21 l = l := xpr_no (by decide +kernel)
theorem r_13_24 : xfetch 13 24 = some (.istore_n 2, 1) := by decide +kernel
theorem n_13_24 : ∀ l, xpr 13 24 l = l := xpr_no (by decide +kernel)
theorem r_13_25 : xfetch 13 25 = some (.iinc 3 16, 3) := by decide +kernel
theorem n_13_25 : ∀ l, xpr 13 25 l = l := xpr_no (by decide +kernel)
theorem r_13_28 : xfetch 13 28 = some (.goto (-20), 3) := by decide +kernel
theorem n_13_28 : ∀ l, xpr 13 28 l = l := xpr_no (by decide +kernel)
theorem r_13_31 : xfetch 13 31 = some (.iload_n 2, 1) := by decide +kernel
theorem n_13_31 : ∀ l, xpr 13 31 l = l := xpr_no (by decide +kernel)
theorem r_13_32 : xfetch 13 32 = some (.ireturn, 1) := by decide +kernel
theorem n_13_32 : ∀ l, xpr 13 32 l = l := xpr_no (by decide +kernel)
theorem r_13_33 : xfetch 13 33 = some (.sipush 1024, 3) := by decide +kernel
theorem n_13_33 : ∀ l, xpr 13 33 l = l := xpr_no (by decide +kernel)
theorem r_13_36 : xfetch 13 36 = some (.istore_n 2, 1) := by decide +kernel
theorem n_13_36 : ∀ l, xpr 13 36 l = l := xpr_no (by decide +kernel)
theorem r_13_37 : xfetch 13 37 = some (.iconst 0, 1) := by decide +kernel
theorem n_13_37 : ∀ l, xpr 13 37 l = l := xpr_no (by decide +kernel)
theorem r_13_38 : xfetch 13 38 = some (.istore_n 3, 1) := by decide +kernel
theorem n_13_38 : ∀ l, xpr 13 38 l = l := xpr_no (by decide +kernel)
theorem r_13_39 : xfetch 13 39 = some (.iload_n 3, 1) := by decide +kernel
theorem r_13_40 : xfetch 13 40 = some (.iconst 3, 1) := by decide +kernel
theorem n_13_40 : ∀ l, xpr 13 40 l = l := xpr_no (by decide +kernel)
theorem r_13_41 : xfetch 13 41 = some (.if_icmp .ge 39, 3) := by decide +kernel
theorem n_13_41 : ∀ l, xpr 13 41 l = l := xpr_no (by decide +kernel)
theorem r_13_44 : xfetch 13 44 = some (.aload_n 0, 1) := by decide +kernel
theorem n_13_44 : ∀ l, xpr 13 44 l = l := xpr_no (by decide +kernel)
theorem r_13_45 : xfetch 13 45 = some (.getfield 10, 3) := by decide +kernel
theorem n_13_45 : ∀ l, xpr 13 45 l = l := xpr_no (by decide +kernel)
theorem r_13_48 : xfetch 13 48 = some (.getfield 256, 3) := by decide +kernel
theorem n_13_48 : ∀ l, xpr 13 48 l = l := xpr_no (by decide +kernel)
theorem r_13_51 : xfetch 13 51 = some (.iload_n 3, 1) := by decide +kernel
theorem n_13_51 : ∀ l, xpr 13 51 l = l := xpr_no (by decide +kernel)
theorem r_13_52 : xfetch 13 52 = some (.aaload, 1) := by decide +kernel
theorem n_13_52 : ∀ l, xpr 13 52 l = l := xpr_no (by decide +kernel)
theorem r_13_53 : xfetch 13 53 = some (.getfield 260, 3) := by decide +kernel
theorem n_13_53 : ∀ l, xpr 13 53 l = l := xpr_no (by decide +kernel)
theorem r_13_56 : xfetch 13 56 = some (.ifCond .eq 18, 3) := by decide +kernel
theorem n_13_56 : ∀ l, xpr 13 56 l = l := xpr_no (by decide +kernel)
theorem r_13_59 : xfetch 13 59 = some (.iload_n 2, 1) := by decide +kernel
theorem n_13_59 : ∀ l, xpr 13 59 l = l := xpr_no (by decide +kernel)
theorem r_13_60 : xfetch 13 60 = some (.aload_n 0, 1) := by decide +kernel
theorem n_13_60 : ∀ l, xpr 13 60 l = l := xpr_no (by decide +kernel)
theorem r_13_61 : xfetch 13 61 = some (.getfield 10, 3) := by decide +kernel
theorem n_13_61 : ∀ l, xpr 13 61 l = l := xpr_no (by decide +kernel)
theorem r_13_64 : xfetch 13 64 = some (.getfield 256, 3) := by decide +kernel
theorem n_13_64 : ∀ l, xpr 13 64 l = l := xpr_no (by decide +kernel)
theorem r_13_67 : xfetch 13 67 = some (.iload_n 3, 1) := by decide +kernel
theorem n_13_67 : ∀ l, xpr 13 67 l = l := xpr_no (by decide +kernel)
theorem r_13_68 : xfetch 13 68 = some (.aaload, 1) := by decide +kernel
theorem n_13_68 : ∀ l, xpr 13 68 l = l := xpr_no (by decide +kernel)
theorem r_13_69 : xfetch 13 69 = some (.getfield 280, 3) := by decide +kernel
theorem n_13_69 : ∀ l, xpr 13 69 l = l := xpr_no (by decide +kernel)
theorem r_13_72 : xfetch 13 72 = some (.isub, 1) := by decide +kernel
theorem n_13_72 : ∀ l, xpr 13 72 l = l := xpr_no (by decide +kernel)
theorem r_13_73 : xfetch 13 73 = some (.istore_n 2, 1) := by decide +kernel
theorem n_13_73 : ∀ l, xpr 13 73 l = l := xpr_no (by decide +kernel)
theorem r_13_74 : xfetch 13 74 = some (.iinc 3 1, 3) := by decide +kernel
theorem n_13_74 : ∀ l, xpr 13 74 l = l := xpr_no (by decide +kernel)
theorem r_13_77 : xfetch 13 77 = some (.goto (-38), 3) := by decide +kernel
theorem n_13_77 : ∀ l, xpr 13 77 l = l := xpr_no (by decide +kernel)
theorem r_13_80 : xfetch 13 80 = some (.iload_n 2, 1) := by decide +kernel
theorem n_13_80 : ∀ l, xpr 13 80 l = l := xpr_no (by decide +kernel)
theorem r_13_81 : xfetch 13 81 = some (.ireturn, 1) := by decide +kernel
theorem n_13_81 : ∀ l, xpr 13 81 l = l := xpr_no (by decide +kernel)
theorem v_RL_freeBytes_0 {S : Option (Nat × (Nat → Int32))} {s : zSt} {Q : Option Value ⊕ Nat → zSt → Prop} {x1 : Int} 
    (h : rng x1 ∧ ((x1 = 0 → wp S 13 39 [(0, rf 2), (2, iv 1024), (3, iv 0)] [] s Q) ∧ (x1 ≠ 0 → wp S 13 8 [(0, rf 2), (2, iv 0), (3, iv 0)] [] s Q))) :
    wp S 13 0 [(0, rf 2), (1, iv x1)] [] s Q := by
  refine i_iload_n (x := x1) r_13_0 (n_13_0 _) rfl ?_
  obtain ⟨g1, h⟩ := h
  refine i_if (t := 33) r_13_1 (n_13_1 _) rfl (T_eq g1 ⟨by omega, by omega⟩) (fun c2 => ?_) (fun c2 => ?_)
  · replace h := h.1 c2
    refine i_sipush r_13_33 (n_13_33 _) rfl ?_
    refine i_istore_n (l' := [(0, rf 2), (1, iv x1), (2, iv 1024)]) r_13_36 (n_13_36 _) (by decide) rfl ?_
    refine i_iconst r_13_37 (n_13_37 _) ?_
    refine i_istore_n (l' := [(0, rf 2), (1, iv x1), (2, iv 1024), (3, iv 0)]) r_13_38 (n_13_38 _) (by decide) rfl ?_
    exact wp_pr (l' := [(0, rf 2), (2, iv 1024), (3, iv 0)]) rfl h
  · replace h := h.2 c2
    refine i_iconst r_13_4 (n_13_4 _) ?_
    refine i_istore_n (l' := [(0, rf 2), (1, iv x1), (2, iv 0)]) r_13_5 (n_13_5 _) (by decide) rfl ?_
    refine i_iconst r_13_6 (n_13_6 _) ?_
    refine i_istore_n (l' := [(0, rf 2), (1, iv x1), (2, iv 0), (3, iv 0)]) r_13_7 (n_13_7 _) (by decide) rfl ?_
    exact wp_pr (l' := [(0, rf 2), (2, iv 0), (3, iv 0)]) rfl h
theorem v_RL_freeBytes_8 {S : Option (Nat × (Nat → Int32))} {s : zSt} {Q : Option Value ⊕ Nat → zSt → Prop} {x2 : Int} {x3 : Int} 
    (h : rng x3 ∧ ((1024 ≤ x3 → Q (rI x2) s) ∧ (x3 < 1024 → wp S 14 0 [(0, rf 2), (1, iv x3)] [] s (fun o3 s3 => zkI (fun y3 => rng x2 ∧ (wp S 13 8 [(0, rf 2), (2, iv (max x2 y3)), (3, iv (x3 + 16))] [] s3 Q)) (fun e3 => False) o3)))) :
    wp S 13 8 [(0, rf 2), (2, iv x2), (3, iv x3)] [] s Q := by
  refine i_iload_n (x := x3) r_13_8 rfl rfl ?_
  refine i_sipush r_13_9 (n_13_9 _) rfl ?_
  obtain ⟨g1, h⟩ := h
  refine i_icmp (t := 31) r_13_12 (n_13_12 _) rfl (T_ge g1 ⟨by omega, by omega⟩) (fun c2 => ?_) (fun c2 => ?_)
  · replace h := h.1 c2
    refine i_iload_n (x := x2) r_13_31 (n_13_31 _) rfl ?_
    exact i_ireturn r_13_32 (n_13_32 _) rfl h
  · replace h := h.2 c2
    refine i_iload_n (x := x2) r_13_15 (n_13_15 _) rfl ?_
    refine i_aload_n (a := 2) r_13_16 (n_13_16 _) rfl ?_
    refine i_iload_n (x := x3) r_13_17 (n_13_17 _) rfl ?_
    refine wp_virt (b := 2) (rest := [iv x2]) (Ls := [(0, rf 2), (1, iv x3)]) r_13_18 (n_13_18 _) rfl ⟨rfl, rfl, by decide, by decide⟩ rfl rfl lf_2 ⟨rfl, Nat.le_of_ble_eq_true rfl, Nat.le_of_ble_eq_true rfl⟩ rfl h ?_
    intro o3 s3 h
    rcases h with ⟨y3, q4, rfl, h⟩ | ⟨e3, rfl, h⟩
    · refine .inl ⟨some (iv y3), rfl, ?_⟩
      show wp S 13 21 [(0, rf 2), (2, iv x2), (3, iv x3)] [iv y3, iv x2] s3 Q
      obtain ⟨g5, h⟩ := h
      refine wp_stat (rest := []) (Ls := [(0, iv x2), (1, iv y3)]) r_13_21 (n_13_21 _) rfl ⟨rfl, by decide, by decide, by decide⟩ rfl rfl ⟨rfl, Nat.le_of_ble_eq_true rfl, Nat.le_of_ble_eq_true rfl⟩ rfl (K_Math_max g5 q4) ?_
      rintro _ _ ⟨rfl, rfl⟩
      refine .inl ⟨some (iv (max x2 y3)), rfl, ?_⟩
      show wp S 13 24 [(0, rf 2), (2, iv x2), (3, iv x3)] [iv (max x2 y3)] s3 Q
      refine i_istore_n (l' := [(0, rf 2), (2, iv (max x2 y3)), (3, iv x3)]) r_13_24 (n_13_24 _) (by decide) rfl ?_
      refine i_iinc (x := x3) (l' := [(0, rf 2), (2, iv (max x2 y3)), (3, iv (x3 + 16))]) r_13_25 (n_13_25 _) (by decide) rfl rfl ?_
      refine i_goto (t := 8) r_13_28 (n_13_28 _) rfl ?_
      exact wp_pr (l' := [(0, rf 2), (2, iv (max x2 y3)), (3, iv (x3 + 16))]) rfl h
    · skip
      exact h.elim
theorem v_RL_freeBytes_39 {S : Option (Nat × (Nat → Int32))} {s : zSt} {Q : Option Value ⊕ Nat → zSt → Prop} {x2 : Int} {x3 : Int} 
    (h : rng x3 ∧ ((3 ≤ x3 → Q (rI x2) s) ∧ (x3 < 3 → (0 ≤ x3 ∧ x3 < 3) ∧ (((zI s (31 + x3) 0) = 0 → wp S 13 39 [(0, rf 2), (2, iv x2), (3, iv (x3 + 1))] [] s Q) ∧ ((zI s (31 + x3) 0) ≠ 0 → wp S 13 39 [(0, rf 2), (2, iv (x2 - (zI s (31 + x3) 6))), (3, iv (x3 + 1))] [] s Q))))) :
    wp S 13 39 [(0, rf 2), (2, iv x2), (3, iv x3)] [] s Q := by
  refine i_iload_n (x := x3) r_13_39 rfl rfl ?_
  refine i_iconst r_13_40 (n_13_40 _) ?_
  obtain ⟨g1, h⟩ := h
  refine i_icmp (t := 80) r_13_41 (n_13_41 _) rfl (T_ge g1 ⟨by omega, by omega⟩) (fun c2 => ?_) (fun c2 => ?_)
  · replace h := h.1 c2
    refine i_iload_n (x := x2) r_13_80 (n_13_80 _) rfl ?_
    exact i_ireturn r_13_81 (n_13_81 _) rfl h
  · replace h := h.2 c2
    refine i_aload_n (a := 2) r_13_44 (n_13_44 _) rfl ?_
    refine i_getR (a := 2) (b := 3) r_13_45 (n_13_45 _) rfl rfl rfl (by omega) lf_2 (by omega) ?_
    refine i_getR (a := 3) (b := 5) r_13_48 (n_13_48 _) rfl rfl rfl (by omega) lf_3 (by omega) ?_
    refine i_iload_n (x := x3) r_13_51 (n_13_51 _) rfl ?_
    obtain ⟨g3, h⟩ := h
    refine i_aaload (c := 6) (a := 5) (j := x3) (b := 31 + x3) r_13_52 (n_13_52 _) lf_5 ⟨by omega, by omega⟩ (by omega) (by omega) rfl (by omega) ?_
    have t4 := e_6 (j := x3) lf_5 (by omega) (by omega)
    rw [show 5 + 26 + 1 * x3 = 31 + x3 by omega] at t4
    refine i_getI (a := 31 + x3) r_13_53 (n_13_53 _) rfl (by decide) t4 (fun q5 => ?_)
    refine i_if (t := 74) r_13_56 (n_13_56 _) rfl (T_eq q5 ⟨by omega, by omega⟩) (fun c6 => ?_) (fun c6 => ?_)
    · replace h := h.1 c6
      refine i_iinc (x := x3) (l' := [(0, rf 2), (2, iv x2), (3, iv (x3 + 1))]) r_13_74 (n_13_74 _) (by decide) rfl rfl ?_
      refine i_goto (t := 39) r_13_77 (n_13_77 _) rfl ?_
      exact wp_pr (l' := [(0, rf 2), (2, iv x2), (3, iv (x3 + 1))]) rfl h
    · replace h := h.2 c6
      refine i_iload_n (x := x2) r_13_59 (n_13_59 _) rfl ?_
      refine i_aload_n (a := 2) r_13_60 (n_13_60 _) rfl ?_
      refine i_getR (a := 2) (b := 3) r_13_61 (n_13_61 _) rfl rfl rfl (by omega) lf_2 (by omega) ?_
      refine i_getR (a := 3) (b := 5) r_13_64 (n_13_64 _) rfl rfl rfl (by omega) lf_3 (by omega) ?_
      refine i_iload_n (x := x3) r_13_67 (n_13_67 _) rfl ?_
      refine i_aaload (c := 6) (a := 5) (j := x3) (b := 31 + x3) r_13_68 (n_13_68 _) lf_5 ⟨by omega, by omega⟩ (by omega) (by omega) rfl (by omega) ?_
      have t7 := e_6 (j := x3) lf_5 (by omega) (by omega)
      rw [show 5 + 26 + 1 * x3 = 31 + x3 by omega] at t7
      refine i_getI (a := 31 + x3) r_13_69 (n_13_69 _) rfl (by decide) t7 (fun q8 => ?_)
      refine i_isub r_13_72 (n_13_72 _) ?_
      refine i_istore_n (l' := [(0, rf 2), (2, iv (x2 - (zI s (31 + x3) 6))), (3, iv x3)]) r_13_73 (n_13_73 _) (by decide) rfl ?_
      refine i_iinc (x := x3) (l' := [(0, rf 2), (2, iv (x2 - (zI s (31 + x3) 6))), (3, iv (x3 + 1))]) r_13_74 (n_13_74 _) (by decide) rfl rfl ?_
      refine i_goto (t := 39) r_13_77 (n_13_77 _) rfl ?_
      exact wp_pr (l' := [(0, rf 2), (2, iv (x2 - (zI s (31 + x3) 6))), (3, iv (x3 + 1))]) rfl h
theorem r_14_0 : xfetch 14 0 = some (.sipush 1024, 3) := by decide +kernel
theorem n_14_0 : ∀ l, xpr 14 0 l = l := xpr_no (by decide +kernel)
theorem r_14_3 : xfetch 14 3 = some (.istore_n 2, 1) := by decide +kernel
theorem n_14_3 : ∀ l, xpr 14 3 l = l := xpr_no (by decide +kernel)
theorem r_14_4 : xfetch 14 4 = some (.iconst 0, 1) := by decide +kernel
theorem n_14_4 : ∀ l, xpr 14 4 l = l := xpr_no (by decide +kernel)
theorem r_14_5 : xfetch 14 5 = some (.istore_n 3, 1) := by decide +kernel
theorem n_14_5 : ∀ l, xpr 14 5 l = l := xpr_no (by decide +kernel)
theorem r_14_6 : xfetch 14 6 = some (.iload_n 3, 1) := by decide +kernel
theorem r_14_7 : xfetch 14 7 = some (.iconst 3, 1) := by decide +kernel
theorem n_14_7 : ∀ l, xpr 14 7 l = l := xpr_no (by decide +kernel)
theorem r_14_8 : xfetch 14 8 = some (.if_icmp .ge 57, 3) := by decide +kernel
theorem n_14_8 : ∀ l, xpr 14 8 l = l := xpr_no (by decide +kernel)
theorem r_14_11 : xfetch 14 11 = some (.aload_n 0, 1) := by decide +kernel
theorem n_14_11 : ∀ l, xpr 14 11 l = l := xpr_no (by decide +kernel)
theorem r_14_12 : xfetch 14 12 = some (.getfield 10, 3) := by decide +kernel
theorem n_14_12 : ∀ l, xpr 14 12 l = l := xpr_no (by decide +kernel)
theorem r_14_15 : xfetch 14 15 = some (.getfield 256, 3) := by decide +kernel
theorem n_14_15 : ∀ l, xpr 14 15 l = l := xpr_no (by decide +kernel)
theorem r_14_18 : xfetch 14 18 = some (.iload_n 3, 1) := by decide +kernel
theorem n_14_18 : ∀ l, xpr 14 18 l = l := xpr_no (by decide +kernel)
theorem r_14_19 : xfetch 14 19 = some (.aaload, 1) := by decide +kernel
theorem n_14_19 : ∀ l, xpr 14 19 l = l := xpr_no (by decide +kernel)
theorem r_14_20 : xfetch 14 20 = some (.astore 4, 2) := by decide +kernel
theorem n_14_20 : ∀ l, xpr 14 20 l = l := xpr_no (by decide +kernel)
theorem r_14_22 : xfetch 14 22 = some (.aload 4, 2) := by decide +kernel
theorem n_14_22 : ∀ l, xpr 14 22 l = l := xpr_no (by decide +kernel)
theorem r_14_24 : xfetch 14 24 = some (.getfield 260, 3) := by decide +kernel
theorem n_14_24 : ∀ l, xpr 14 24 l = l := xpr_no (by decide +kernel)
theorem r_14_27 : xfetch 14 27 = some (.ifCond .eq 32, 3) := by decide +kernel
theorem n_14_27 : ∀ l, xpr 14 27 l = l := xpr_no (by decide +kernel)
theorem r_14_30 : xfetch 14 30 = some (.iload_n 1, 1) := by decide +kernel
theorem n_14_30 : ∀ l, xpr 14 30 l = l := xpr_no (by decide +kernel)
theorem r_14_31 : xfetch 14 31 = some (.aload 4, 2) := by decide +kernel
theorem n_14_31 : ∀ l, xpr 14 31 l = l := xpr_no (by decide +kernel)
theorem r_14_33 : xfetch 14 33 = some (.getfield 277, 3) := by decide +kernel
theorem n_14_33 : ∀ l, xpr 14 33 l = l := xpr_no (by decide +kernel)
theorem r_14_36 : xfetch 14 36 = some (.aload 4, 2) := by decide +kernel
theorem n_14_36 : ∀ l, xpr 14 36 l = l := xpr_no (by decide +kernel)
theorem r_14_38 : xfetch 14 38 = some (.getfield 280, 3) := by decide +kernel
theorem n_14_38 : ∀ l, xpr 14 38 l = l := xpr_no (by decide +kernel)
theorem r_14_41 : xfetch 14 41 = some (.iadd, 1) := by decide +kernel
theorem n_14_41 : ∀ l, xpr 14 41 l = l := xpr_no (by decide +kernel)
theorem r_14_42 : xfetch 14 42 = some (.if_icmp .ge 17, 3) := by decide +kernel
theorem n_14_42 : ∀ l, xpr 14 42 l = l := xpr_no (by decide +kernel)
theorem r_14_45 : xfetch 14 45 = some (.iload_n 2, 1) := by decide +kernel
theorem n_14_45 : ∀ l, xpr 14 45 l = l := xpr_no (by decide +kernel)
theorem r_14_46 : xfetch 14 46 = some (.iload_n 1, 1) := by decide +kernel
theorem n_14_46 : ∀ l, xpr 14 46 l = l := xpr_no (by decide +kernel)
theorem r_14_47 : xfetch 14 47 = some (.aload 4, 2) := by decide +kernel
theorem n_14_47 : ∀ l, xpr 14 47 l = l := xpr_no (by decide +kernel)
theorem r_14_49 : xfetch 14 49 = some (.getfield 277, 3) := by decide +kernel
theorem n_14_49 : ∀ l, xpr 14 49 l = l := xpr_no (by decide +kernel)
theorem r_14_52 : xfetch 14 52 = some (.invokestatic 319, 3) := by decide +kernel
theorem n_14_52 : ∀ l, xpr 14 52 l = l := xpr_no (by decide +kernel)
theorem r_14_55 : xfetch 14 55 = some (.invokestatic 472, 3) := by decide +kernel
theorem n_14_55 : ∀ l, xpr 14 55 l = l := xpr_no (by decide +kernel)
theorem r_14_58 : xfetch 14 58 = some (.istore_n 2, 1) := by decide +kernel
theorem n_14_58 : ∀ l, xpr 14 58 l = l := xpr_no (by decide +kernel)
theorem r_14_59 : xfetch 14 59 = some (.iinc 3 1, 3) := by decide +kernel
theorem n_14_59 : ∀ l, xpr 14 59 l = l := xpr_no (by decide +kernel)
theorem r_14_62 : xfetch 14 62 = some (.goto (-56), 3) := by decide +kernel
theorem n_14_62 : ∀ l, xpr 14 62 l = l := xpr_no (by decide +kernel)
theorem r_14_65 : xfetch 14 65 = some (.iload_n 2, 1) := by decide +kernel
theorem n_14_65 : ∀ l, xpr 14 65 l = l := xpr_no (by decide +kernel)
theorem r_14_66 : xfetch 14 66 = some (.iload_n 1, 1) := by decide +kernel
theorem n_14_66 : ∀ l, xpr 14 66 l = l := xpr_no (by decide +kernel)
theorem r_14_67 : xfetch 14 67 = some (.isub, 1) := by decide +kernel
theorem n_14_67 : ∀ l, xpr 14 67 l = l := xpr_no (by decide +kernel)
theorem r_14_68 : xfetch 14 68 = some (.ireturn, 1) := by decide +kernel
theorem n_14_68 : ∀ l, xpr 14 68 l = l := xpr_no (by decide +kernel)
theorem v_RL_freeFrom_0 {S : Option (Nat × (Nat → Int32))} {s : zSt} {Q : Option Value ⊕ Nat → zSt → Prop} {x1 : Int} 
    (h : wp S 14 6 [(0, rf 2), (1, iv x1), (2, iv 1024), (3, iv 0)] [] s Q) :
    wp S 14 0 [(0, rf 2), (1, iv x1)] [] s Q := by
  refine i_sipush r_14_0 (n_14_0 _) rfl ?_
  refine i_istore_n (l' := [(0, rf 2), (1, iv x1), (2, iv 1024)]) r_14_3 (n_14_3 _) (by decide) rfl ?_
  refine i_iconst r_14_4 (n_14_4 _) ?_
  refine i_istore_n (l' := [(0, rf 2), (1, iv x1), (2, iv 1024), (3, iv 0)]) r_14_5 (n_14_5 _) (by decide) rfl ?_
  exact wp_pr (l' := [(0, rf 2), (1, iv x1), (2, iv 1024), (3, iv 0)]) rfl h
theorem v_RL_freeFrom_6 {S : Option (Nat × (Nat → Int32))} {s : zSt} {Q : Option Value ⊕ Nat → zSt → Prop} {x1 : Int} {x2 : Int} {x3 : Int} 
    (h : rng x3 ∧ ((3 ≤ x3 → Q (rI (x2 - x1)) s) ∧ (x3 < 3 → (0 ≤ x3 ∧ x3 < 3) ∧ (((zI s (31 + x3) 0) = 0 → wp S 14 6 [(0, rf 2), (1, iv x1), (2, iv x2), (3, iv (x3 + 1))] [] s Q) ∧ ((zI s (31 + x3) 0) ≠ 0 → rng x1 ∧ (rng ((zI s (31 + x3) 5) + (zI s (31 + x3) 6)) ∧ ((((zI s (31 + x3) 5) + (zI s (31 + x3) 6)) ≤ x1 → wp S 14 6 [(0, rf 2), (1, iv x1), (2, iv x2), (3, iv (x3 + 1))] [] s Q) ∧ (x1 < ((zI s (31 + x3) 5) + (zI s (31 + x3) 6)) → rng x2 ∧ (rng (max x1 (zI s (31 + x3) 5)) ∧ (wp S 14 6 [(0, rf 2), (1, iv x1), (2, iv (min x2 (max x1 (zI s (31 + x3) 5)))), (3, iv (x3 + 1))] [] s Q)))))))))) :
    wp S 14 6 [(0, rf 2), (1, iv x1), (2, iv x2), (3, iv x3)] [] s Q := by
  refine i_iload_n (x := x3) r_14_6 rfl rfl ?_
  refine i_iconst r_14_7 (n_14_7 _) ?_
  obtain ⟨g1, h⟩ := h
  refine i_icmp (t := 65) r_14_8 (n_14_8 _) rfl (T_ge g1 ⟨by omega, by omega⟩) (fun c2 => ?_) (fun c2 => ?_)
  · replace h := h.1 c2
    refine i_iload_n (x := x2) r_14_65 (n_14_65 _) rfl ?_
    refine i_iload_n (x := x1) r_14_66 (n_14_66 _) rfl ?_
    refine i_isub r_14_67 (n_14_67 _) ?_
    exact i_ireturn r_14_68 (n_14_68 _) rfl h
  · replace h := h.2 c2
    refine i_aload_n (a := 2) r_14_11 (n_14_11 _) rfl ?_
    refine i_getR (a := 2) (b := 3) r_14_12 (n_14_12 _) rfl rfl rfl (by omega) lf_2 (by omega) ?_
    refine i_getR (a := 3) (b := 5) r_14_15 (n_14_15 _) rfl rfl rfl (by omega) lf_3 (by omega) ?_
    refine i_iload_n (x := x3) r_14_18 (n_14_18 _) rfl ?_
    obtain ⟨g3, h⟩ := h
    refine i_aaload (c := 6) (a := 5) (j := x3) (b := 31 + x3) r_14_19 (n_14_19 _) lf_5 ⟨by omega, by omega⟩ (by omega) (by omega) rfl (by omega) ?_
    have t4 := e_6 (j := x3) lf_5 (by omega) (by omega)
    rw [show 5 + 26 + 1 * x3 = 31 + x3 by omega] at t4
    refine i_astore (l' := [(0, rf 2), (1, iv x1), (2, iv x2), (3, iv x3), (4, rf (31 + x3))]) r_14_20 (n_14_20 _) (by decide) rfl ?_
    refine i_aload (a := 31 + x3) r_14_22 (n_14_22 _) rfl ?_
    refine i_getI (a := 31 + x3) r_14_24 (n_14_24 _) rfl (by decide) t4 (fun q5 => ?_)
    refine i_if (t := 59) r_14_27 (n_14_27 _) rfl (T_eq q5 ⟨by omega, by omega⟩) (fun c6 => ?_) (fun c6 => ?_)
    · replace h := h.1 c6
      refine i_iinc (x := x3) (l' := [(0, rf 2), (1, iv x1), (2, iv x2), (3, iv (x3 + 1)), (4, rf (31 + x3))]) r_14_59 (n_14_59 _) (by decide) rfl rfl ?_
      refine i_goto (t := 6) r_14_62 (n_14_62 _) rfl ?_
      exact wp_pr (l' := [(0, rf 2), (1, iv x1), (2, iv x2), (3, iv (x3 + 1))]) rfl h
    · replace h := h.2 c6
      refine i_iload_n (x := x1) r_14_30 (n_14_30 _) rfl ?_
      refine i_aload (a := 31 + x3) r_14_31 (n_14_31 _) rfl ?_
      refine i_getI (a := 31 + x3) r_14_33 (n_14_33 _) rfl (by decide) t4 (fun q7 => ?_)
      refine i_aload (a := 31 + x3) r_14_36 (n_14_36 _) rfl ?_
      refine i_getI (a := 31 + x3) r_14_38 (n_14_38 _) rfl (by decide) t4 (fun q8 => ?_)
      refine i_iadd r_14_41 (n_14_41 _) ?_
      obtain ⟨g9, h⟩ := h
      obtain ⟨g10, h⟩ := h
      refine i_icmp (t := 59) r_14_42 (n_14_42 _) rfl (T_ge g9 g10) (fun c11 => ?_) (fun c11 => ?_)
      · replace h := h.1 c11
        refine i_iinc (x := x3) (l' := [(0, rf 2), (1, iv x1), (2, iv x2), (3, iv (x3 + 1)), (4, rf (31 + x3))]) r_14_59 (n_14_59 _) (by decide) rfl rfl ?_
        refine i_goto (t := 6) r_14_62 (n_14_62 _) rfl ?_
        exact wp_pr (l' := [(0, rf 2), (1, iv x1), (2, iv x2), (3, iv (x3 + 1))]) rfl h
      · replace h := h.2 c11
        refine i_iload_n (x := x2) r_14_45 (n_14_45 _) rfl ?_
        refine i_iload_n (x := x1) r_14_46 (n_14_46 _) rfl ?_
        refine i_aload (a := 31 + x3) r_14_47 (n_14_47 _) rfl ?_
        refine i_getI (a := 31 + x3) r_14_49 (n_14_49 _) rfl (by decide) t4 (fun q12 => ?_)
        refine wp_stat (rest := [iv x2]) (Ls := [(0, iv x1), (1, iv (zI s (31 + x3) 5))]) r_14_52 (n_14_52 _) rfl ⟨rfl, by decide, by decide, by decide⟩ rfl rfl ⟨rfl, Nat.le_of_ble_eq_true rfl, Nat.le_of_ble_eq_true rfl⟩ rfl (K_Math_max g9 q12) ?_
        rintro _ _ ⟨rfl, rfl⟩
        refine .inl ⟨some (iv (max x1 (zI s (31 + x3) 5))), rfl, ?_⟩
        show wp S 14 55 [(0, rf 2), (1, iv x1), (2, iv x2), (3, iv x3), (4, rf (31 + x3))] [iv (max x1 (zI s (31 + x3) 5)), iv x2] s Q
        obtain ⟨g14, h⟩ := h
        obtain ⟨g15, h⟩ := h
        refine wp_stat (rest := []) (Ls := [(0, iv x2), (1, iv (max x1 (zI s (31 + x3) 5)))]) r_14_55 (n_14_55 _) rfl ⟨rfl, by decide, by decide, by decide⟩ rfl rfl ⟨rfl, Nat.le_of_ble_eq_true rfl, Nat.le_of_ble_eq_true rfl⟩ rfl (K_Math_min g14 g15) ?_
        rintro _ _ ⟨rfl, rfl⟩
        refine .inl ⟨some (iv (min x2 (max x1 (zI s (31 + x3) 5)))), rfl, ?_⟩
        show wp S 14 58 [(0, rf 2), (1, iv x1), (2, iv x2), (3, iv x3), (4, rf (31 + x3))] [iv (min x2 (max x1 (zI s (31 + x3) 5)))] s Q
        refine i_istore_n (l' := [(0, rf 2), (1, iv x1), (2, iv (min x2 (max x1 (zI s (31 + x3) 5)))), (3, iv x3), (4, rf (31 + x3))]) r_14_58 (n_14_58 _) (by decide) rfl ?_
        refine i_iinc (x := x3) (l' := [(0, rf 2), (1, iv x1), (2, iv (min x2 (max x1 (zI s (31 + x3) 5)))), (3, iv (x3 + 1)), (4, rf (31 + x3))]) r_14_59 (n_14_59 _) (by decide) rfl rfl ?_
        refine i_goto (t := 6) r_14_62 (n_14_62 _) rfl ?_
        exact wp_pr (l' := [(0, rf 2), (1, iv x1), (2, iv (min x2 (max x1 (zI s (31 + x3) 5)))), (3, iv (x3 + 1))]) rfl h
theorem r_17_0 : xfetch 17 0 = some (.aload_n 0, 1) := by decide +kernel
theorem n_17_0 : ∀ l, xpr 17 0 l = l := xpr_no (by decide +kernel)
theorem r_17_1 : xfetch 17 1 = some (.invokevirtual 77, 3) := by decide +kernel
theorem n_17_1 : ∀ l, xpr 17 1 l = l := xpr_no (by decide +kernel)
theorem r_17_4 : xfetch 17 4 = some (.iconst 0, 1) := by decide +kernel
theorem n_17_4 : ∀ l, xpr 17 4 l = l := xpr_no (by decide +kernel)
theorem r_17_5 : xfetch 17 5 = some (.istore_n 1, 1) := by decide +kernel
theorem n_17_5 : ∀ l, xpr 17 5 l = l := xpr_no (by decide +kernel)
theorem r_17_6 : xfetch 17 6 = some (.iconst 0, 1) := by decide +kernel
theorem n_17_6 : ∀ l, xpr 17 6 l = l := xpr_no (by decide +kernel)
theorem r_17_7 : xfetch 17 7 = some (.istore_n 2, 1) := by decide +kernel
theorem n_17_7 : ∀ l, xpr 17 7 l = l := xpr_no (by decide +kernel)
theorem r_17_8 : xfetch 17 8 = some (.iconst 0, 1) := by decide +kernel
theorem n_17_8 : ∀ l, xpr 17 8 l = l := xpr_no (by decide +kernel)
theorem r_17_9 : xfetch 17 9 = some (.istore_n 3, 1) := by decide +kernel
theorem n_17_9 : ∀ l, xpr 17 9 l = l := xpr_no (by decide +kernel)
theorem r_17_10 : xfetch 17 10 = some (.iload_n 3, 1) := by decide +kernel
theorem r_17_11 : xfetch 17 11 = some (.iconst 3, 1) := by decide +kernel
theorem n_17_11 : ∀ l, xpr 17 11 l = l := xpr_no (by decide +kernel)
theorem r_17_12 : xfetch 17 12 = some (.if_icmp .ge 77, 3) := by decide +kernel
theorem n_17_12 : ∀ l, xpr 17 12 l = l := xpr_no (by decide +kernel)
theorem r_17_15 : xfetch 17 15 = some (.aload_n 0, 1) := by decide +kernel
theorem n_17_15 : ∀ l, xpr 17 15 l = l := xpr_no (by decide +kernel)
theorem r_17_16 : xfetch 17 16 = some (.iload_n 2, 1) := by decide +kernel
theorem n_17_16 : ∀ l, xpr 17 16 l = l := xpr_no (by decide +kernel)
theorem r_17_17 : xfetch 17 17 = some (.invokevirtual 328, 3) := by decide +kernel
theorem n_17_17 : ∀ l, xpr 17 17 l = l := xpr_no (by decide +kernel)
theorem r_17_20 : xfetch 17 20 = some (.astore 4, 2) := by decide +kernel
theorem n_17_20 : ∀ l, xpr 17 20 l = l := xpr_no (by decide +kernel)
theorem r_17_22 : xfetch 17 22 = some (.aload 4, 2) := by decide +kernel
theorem n_17_22 : ∀ l, xpr 17 22 l = l := xpr_no (by decide +kernel)
theorem r_17_24 : xfetch 17 24 = some (.ifnonnull 6, 3) := by decide +kernel
theorem n_17_24 : ∀ l, xpr 17 24 l = l := xpr_no (by decide +kernel)
theorem r_17_27 : xfetch 17 27 = some (.goto 62, 3) := by decide +kernel
theorem n_17_27 : ∀ l, xpr 17 27 l = l := xpr_no (by decide +kernel)
theorem r_17_30 : xfetch 17 30 = some (.iload_n 2, 1) := by decide +kernel
theorem n_17_30 : ∀ l, xpr 17 30 l = l := xpr_no (by decide +kernel)
theorem r_17_31 : xfetch 17 31 = some (.bipush 16, 2) := by decide +kernel
theorem n_17_31 : ∀ l, xpr 17 31 l = l := xpr_no (by decide +kernel)
theorem r_17_33 : xfetch 17 33 = some (.invokestatic 332, 3) := by decide +kernel
theorem n_17_33 : ∀ l, xpr 17 33 l = l := xpr_no (by decide +kernel)
theorem r_17_36 : xfetch 17 36 = some (.istore 5, 2) := by decide +kernel
theorem n_17_36 : ∀ l, xpr 17 36 l = l := xpr_no (by decide +kernel)
theorem r_17_38 : xfetch 17 38 = some (.iload 5, 2) := by decide +kernel
theorem n_17_38 : ∀ l, xpr 17 38 l = l := xpr_no (by decide +kernel)
theorem r_17_40 : xfetch 17 40 = some (.aload 4, 2) := by decide +kernel
theorem n_17_40 : ∀ l, xpr 17 40 l = l := xpr_no (by decide +kernel)
theorem r_17_42 : xfetch 17 42 = some (.getfield 277, 3) := by decide +kernel
theorem n_17_42 : ∀ l, xpr 17 42 l = l := xpr_no (by decide +kernel)
theorem r_17_45 : xfetch 17 45 = some (.if_icmp .eq 29, 3) := by decide +kernel
theorem n_17_45 : ∀ l, xpr 17 45 l = l := xpr_no (by decide +kernel)
theorem r_17_48 : xfetch 17 48 = some (.aload_n 0, 1) := by decide +kernel
theorem n_17_48 : ∀ l, xpr 17 48 l = l := xpr_no (by decide +kernel)
theorem r_17_49 : xfetch 17 49 = some (.aload 4, 2) := by decide +kernel
theorem n_17_49 : ∀ l, xpr 17 49 l = l := xpr_no (by decide +kernel)
theorem r_17_51 : xfetch 17 51 = some (.getfield 277, 3) := by decide +kernel
theorem n_17_51 : ∀ l, xpr 17 51 l = l := xpr_no (by decide +kernel)
theorem r_17_54 : xfetch 17 54 = some (.iload 5, 2) := by decide +kernel
theorem n_17_54 : ∀ l, xpr 17 54 l = l := xpr_no (by decide +kernel)
theorem r_17_56 : xfetch 17 56 = some (.aload 4, 2) := by decide +kernel
theorem n_17_56 : ∀ l, xpr 17 56 l = l := xpr_no (by decide +kernel)
theorem r_17_58 : xfetch 17 58 = some (.getfield 280, 3) := by decide +kernel
theorem n_17_58 : ∀ l, xpr 17 58 l = l := xpr_no (by decide +kernel)
theorem r_17_61 : xfetch 17 61 = some (.invokevirtual 335, 3) := by decide +kernel
theorem n_17_61 : ∀ l, xpr 17 61 l = l := xpr_no (by decide +kernel)
theorem r_17_64 : xfetch 17 64 = some (.aload 4, 2) := by decide +kernel
theorem n_17_64 : ∀ l, xpr 17 64 l = l := xpr_no (by decide +kernel)
theorem r_17_66 : xfetch 17 66 = some (.iload 5, 2) := by decide +kernel
theorem n_17_66 : ∀ l, xpr 17 66 l = l := xpr_no (by decide +kernel)
theorem r_17_68 : xfetch 17 68 = some (.putfield 277, 3) := by decide +kernel
theorem n_17_68 : ∀ l, xpr 17 68 l = l := xpr_no (by decide +kernel)
theorem r_17_71 : xfetch 17 71 = some (.iinc 1 1, 3) := by decide +kernel
theorem n_17_71 : ∀ l, xpr 17 71 l = l := xpr_no (by decide +kernel)
theorem r_17_74 : xfetch 17 74 = some (.iload 5, 2) := by decide +kernel
theorem n_17_74 : ∀ l, xpr 17 74 l = l := xpr_no (by decide +kernel)
theorem r_17_76 : xfetch 17 76 = some (.aload 4, 2) := by decide +kernel
theorem n_17_76 : ∀ l, xpr 17 76 l = l := xpr_no (by decide +kernel)
theorem r_17_78 : xfetch 17 78 = some (.getfield 280, 3) := by decide +kernel
theorem n_17_78 : ∀ l, xpr 17 78 l = l := xpr_no (by decide +kernel)
theorem r_17_81 : xfetch 17 81 = some (.iadd, 1) := by decide +kernel
theorem n_17_81 : ∀ l, xpr 17 81 l = l := xpr_no (by decide +kernel)
theorem r_17_82 : xfetch 17 82 = some (.istore_n 2, 1) := by decide +kernel
theorem n_17_82 : ∀ l, xpr 17 82 l = l := xpr_no (by decide +kernel)
theorem r_17_83 : xfetch 17 83 = some (.iinc 3 1, 3) := by decide +kernel
theorem n_17_83 : ∀ l, xpr 17 83 l = l := xpr_no (by decide +kernel)
theorem r_17_86 : xfetch 17 86 = some (.goto (-76), 3) := by decide +kernel
theorem n_17_86 : ∀ l, xpr 17 86 l = l := xpr_no (by decide +kernel)
theorem r_17_89 : xfetch 17 89 = some (.iload_n 1, 1) := by decide +kernel
theorem n_17_89 : ∀ l, xpr 17 89 l = l := xpr_no (by decide +kernel)
theorem r_17_90 : xfetch 17 90 = some (.ireturn, 1) := by decide +kernel
theorem n_17_90 : ∀ l, xpr 17 90 l = l := xpr_no (by decide +kernel)
theorem v_RL_compact_0 {S : Option (Nat × (Nat → Int32))} {s : zSt} {Q : Option Value ⊕ Nat → zSt → Prop}  
    (h : wp S 18 0 [(0, rf 2)] [] s (fun o1 s1 => zkU (wp S 17 10 [(0, rf 2), (1, iv 0), (2, iv 0), (3, iv 0)] [] s1 Q) (fun e1 => False) o1)) :
    wp S 17 0 [(0, rf 2)] [] s Q := by
  refine i_aload_n (a := 2) r_17_0 (n_17_0 _) rfl ?_
  refine wp_virt (b := 2) (rest := []) (Ls := [(0, rf 2)]) r_17_1 (n_17_1 _) rfl ⟨rfl, rfl, by decide, by decide⟩ rfl rfl lf_2 ⟨rfl, Nat.le_of_ble_eq_true rfl, Nat.le_of_ble_eq_true rfl⟩ rfl h ?_
  intro o1 s1 h
  rcases h with ⟨rfl, h⟩ | ⟨e1, rfl, h⟩
  · refine .inl ⟨none, rfl, ?_⟩
    refine i_iconst r_17_4 (n_17_4 _) ?_
    refine i_istore_n (l' := [(0, rf 2), (1, iv 0)]) r_17_5 (n_17_5 _) (by decide) rfl ?_
    refine i_iconst r_17_6 (n_17_6 _) ?_
    refine i_istore_n (l' := [(0, rf 2), (1, iv 0), (2, iv 0)]) r_17_7 (n_17_7 _) (by decide) rfl ?_
    refine i_iconst r_17_8 (n_17_8 _) ?_
    refine i_istore_n (l' := [(0, rf 2), (1, iv 0), (2, iv 0), (3, iv 0)]) r_17_9 (n_17_9 _) (by decide) rfl ?_
    exact wp_pr (l' := [(0, rf 2), (1, iv 0), (2, iv 0), (3, iv 0)]) rfl h
  · skip
    exact h.elim
theorem v_RL_compact_10 {S : Option (Nat × (Nat → Int32))} {s : zSt} {Q : Option Value ⊕ Nat → zSt → Prop} {x1 : Int} {x2 : Int} {x3 : Int} 
    (h : rng x3 ∧ ((3 ≤ x3 → Q (rI x1) s) ∧ (x3 < 3 → wp S 23 0 [(0, rf 2), (1, iv x2)] [] s (fun o3 s3 => zkN (fun y3 => (0 ≤ y3 → isO y3 6) ∧ ((0 ≤ y3 → (zp2 16) ∧ ((0 ≤ x2) ∧ ((x2 ≤ 1000000) ∧ (rng (zup x2 16) ∧ (((zup x2 16) = (zI s3 y3 5) → wp S 17 10 [(0, rf 2), (1, iv x1), (2, iv ((zup x2 16) + (zI s3 y3 6))), (3, iv (x3 + 1))] [] s3 Q) ∧ ((zup x2 16) ≠ (zI s3 y3 5) → wp S 25 0 [(0, rf 2), (1, iv (zI s3 y3 5)), (2, iv (zup x2 16)), (3, iv (zI s3 y3 6))] [] s3 (fun o16 s16 => zkU (wp S 17 10 [(0, rf 2), (1, iv (x1 + 1)), (2, iv ((zup x2 16) + (zI s16 y3 6))), (3, iv (x3 + 1))] [] (zwI s16 y3 5 (zup x2 16)) Q) (fun e16 => False) o16))))))) ∧ (y3 < 0 → Q (rI x1) s3))) o3)))) :
    wp S 17 10 [(0, rf 2), (1, iv x1), (2, iv x2), (3, iv x3)] [] s Q := by
  refine i_iload_n (x := x3) r_17_10 rfl rfl ?_
  refine i_iconst r_17_11 (n_17_11 _) ?_
  obtain ⟨g1, h⟩ := h
  refine i_icmp (t := 89) r_17_12 (n_17_12 _) rfl (T_ge g1 ⟨by omega, by omega⟩) (fun c2 => ?_) (fun c2 => ?_)
  · replace h := h.1 c2
    refine i_iload_n (x := x1) r_17_89 (n_17_89 _) rfl ?_
    exact i_ireturn r_17_90 (n_17_90 _) rfl h
  · replace h := h.2 c2
    refine i_aload_n (a := 2) r_17_15 (n_17_15 _) rfl ?_
    refine i_iload_n (x := x2) r_17_16 (n_17_16 _) rfl ?_
    refine wp_virt (b := 2) (rest := []) (Ls := [(0, rf 2), (1, iv x2)]) r_17_17 (n_17_17 _) rfl ⟨rfl, rfl, by decide, by decide⟩ rfl rfl lf_2 ⟨rfl, Nat.le_of_ble_eq_true rfl, Nat.le_of_ble_eq_true rfl⟩ rfl h ?_
    intro o3 s3 h
    obtain ⟨y3, rfl, q4, h⟩ := h
    refine .inl ⟨some (orf y3), rfl, ?_⟩
    show wp S 17 20 [(0, rf 2), (1, iv x1), (2, iv x2), (3, iv x3)] [orf y3] s3 Q
    refine i_astoreN (l' := [(0, rf 2), (1, iv x1), (2, iv x2), (3, iv x3), (4, orf y3)]) r_17_20 (n_17_20 _) (by decide) rfl ?_
    refine i_aloadN (a := y3) r_17_22 (n_17_22 _) rfl ?_
    refine i_ifnonnull (t := 30) r_17_24 (n_17_24 _) rfl (fun c5 => ?_) (fun c5 => ?_)
    · replace h := h.1 c5
      rw [show [(0, rf 2), (1, iv x1), (2, iv x2), (3, iv x3), (4, orf y3)] = [(0, rf 2), (1, iv x1), (2, iv x2), (3, iv x3), (4, rf y3)] by rw [orf_pos c5]]
      refine i_iload_n (x := x2) r_17_30 (n_17_30 _) rfl ?_
      refine i_bipush r_17_31 (n_17_31 _) rfl ?_
      obtain ⟨g6, h⟩ := h
      obtain ⟨g7, h⟩ := h
      obtain ⟨g8, h⟩ := h
      refine wp_stat (rest := []) (Ls := [(0, iv x2), (1, iv 16)]) r_17_33 (n_17_33 _) rfl ⟨rfl, by decide, by decide, by decide⟩ rfl rfl ⟨rfl, Nat.le_of_ble_eq_true rfl, Nat.le_of_ble_eq_true rfl⟩ rfl (K_RL_roundUp g6 g7 g8) ?_
      rintro _ _ ⟨rfl, rfl⟩
      refine .inl ⟨some (iv (zup x2 16)), rfl, ?_⟩
      show wp S 17 36 [(0, rf 2), (1, iv x1), (2, iv x2), (3, iv x3), (4, rf y3)] [iv (zup x2 16)] s3 Q
      refine i_istore (l' := [(0, rf 2), (1, iv x1), (2, iv x2), (3, iv x3), (4, rf y3), (5, iv (zup x2 16))]) r_17_36 (n_17_36 _) (by decide) rfl ?_
      refine i_iload (x := zup x2 16) r_17_38 (n_17_38 _) rfl ?_
      refine i_aload (a := y3) r_17_40 (n_17_40 _) rfl ?_
      refine i_getI (a := y3) r_17_42 (n_17_42 _) rfl (by decide) (q4 c5) (fun q10 => ?_)
      obtain ⟨g11, h⟩ := h
      refine i_icmp (t := 74) r_17_45 (n_17_45 _) rfl (T_eq g11 q10) (fun c12 => ?_) (fun c12 => ?_)
      · replace h := h.1 c12
        refine i_iload (x := zup x2 16) r_17_74 (n_17_74 _) rfl ?_
        refine i_aload (a := y3) r_17_76 (n_17_76 _) rfl ?_
        refine i_getI (a := y3) r_17_78 (n_17_78 _) rfl (by decide) (q4 c5) (fun q13 => ?_)
        refine i_iadd r_17_81 (n_17_81 _) ?_
        refine i_istore_n (l' := [(0, rf 2), (1, iv x1), (2, iv ((zup x2 16) + (zI s3 y3 6))), (3, iv x3), (4, rf y3), (5, iv (zup x2 16))]) r_17_82 (n_17_82 _) (by decide) rfl ?_
        refine i_iinc (x := x3) (l' := [(0, rf 2), (1, iv x1), (2, iv ((zup x2 16) + (zI s3 y3 6))), (3, iv (x3 + 1)), (4, rf y3), (5, iv (zup x2 16))]) r_17_83 (n_17_83 _) (by decide) rfl rfl ?_
        refine i_goto (t := 10) r_17_86 (n_17_86 _) rfl ?_
        exact wp_pr (l' := [(0, rf 2), (1, iv x1), (2, iv ((zup x2 16) + (zI s3 y3 6))), (3, iv (x3 + 1))]) rfl h
      · replace h := h.2 c12
        refine i_aload_n (a := 2) r_17_48 (n_17_48 _) rfl ?_
        refine i_aload (a := y3) r_17_49 (n_17_49 _) rfl ?_
        refine i_getI (a := y3) r_17_51 (n_17_51 _) rfl (by decide) (q4 c5) (fun q14 => ?_)
        refine i_iload (x := zup x2 16) r_17_54 (n_17_54 _) rfl ?_
        refine i_aload (a := y3) r_17_56 (n_17_56 _) rfl ?_
        refine i_getI (a := y3) r_17_58 (n_17_58 _) rfl (by decide) (q4 c5) (fun q15 => ?_)
        refine wp_virt (b := 2) (rest := []) (Ls := [(0, rf 2), (1, iv (zI s3 y3 5)), (2, iv (zup x2 16)), (3, iv (zI s3 y3 6))]) r_17_61 (n_17_61 _) rfl ⟨rfl, rfl, by decide, by decide⟩ rfl rfl lf_2 ⟨rfl, Nat.le_of_ble_eq_true rfl, Nat.le_of_ble_eq_true rfl⟩ rfl h ?_
        intro o16 s16 h
        rcases h with ⟨rfl, h⟩ | ⟨e16, rfl, h⟩
        · refine .inl ⟨none, rfl, ?_⟩
          refine i_aload (a := y3) r_17_64 (n_17_64 _) rfl ?_
          refine i_iload (x := zup x2 16) r_17_66 (n_17_66 _) rfl ?_
          refine i_putI (a := y3) (x := zup x2 16) r_17_68 (n_17_68 _) rfl (.inl rfl) rfl (q4 c5) g11 ?_
          refine i_iinc (x := x1) (l' := [(0, rf 2), (1, iv (x1 + 1)), (2, iv x2), (3, iv x3), (4, rf y3), (5, iv (zup x2 16))]) r_17_71 (n_17_71 _) (by decide) rfl rfl ?_
          refine i_iload (x := zup x2 16) r_17_74 (n_17_74 _) rfl ?_
          refine i_aload (a := y3) r_17_76 (n_17_76 _) rfl ?_
          have e19 : zI (zwI s16 y3 5 (zup x2 16)) y3 6 = zI s16 y3 6 := zI_nj (by omega)
          refine i_getIe (a := y3) (x := zI s16 y3 6) r_17_78 (n_17_78 _) rfl (by decide) (q4 c5) e19 (fun q18 => ?_)
          refine i_iadd r_17_81 (n_17_81 _) ?_
          refine i_istore_n (l' := [(0, rf 2), (1, iv (x1 + 1)), (2, iv ((zup x2 16) + (zI s16 y3 6))), (3, iv x3), (4, rf y3), (5, iv (zup x2 16))]) r_17_82 (n_17_82 _) (by decide) rfl ?_
          refine i_iinc (x := x3) (l' := [(0, rf 2), (1, iv (x1 + 1)), (2, iv ((zup x2 16) + (zI s16 y3 6))), (3, iv (x3 + 1)), (4, rf y3), (5, iv (zup x2 16))]) r_17_83 (n_17_83 _) (by decide) rfl rfl ?_
          refine i_goto (t := 10) r_17_86 (n_17_86 _) rfl ?_
          exact wp_pr (l' := [(0, rf 2), (1, iv (x1 + 1)), (2, iv ((zup x2 16) + (zI s16 y3 6))), (3, iv (x3 + 1))]) rfl h
        · skip
          exact h.elim
    · replace h := h.2 c5
      refine i_goto (t := 89) r_17_27 (n_17_27 _) rfl ?_
      refine i_iload_n (x := x1) r_17_89 (n_17_89 _) rfl ?_
      exact i_ireturn r_17_90 (n_17_90 _) rfl h
theorem r_18_0 : xfetch 18 0 = some (.aload_n 0, 1) := by decide +kernel
theorem n_18_0 : ∀ l, xpr 18 0 l = l := xpr_no (by decide +kernel)
theorem r_18_1 : xfetch 18 1 = some (.iconst (-1), 1) := by decide +kernel
theorem n_18_1 : ∀ l, xpr 18 1 l = l := xpr_no (by decide +kernel)
theorem r_18_2 : xfetch 18 2 = some (.putfield 40, 3) := by decide +kernel
theorem n_18_2 : ∀ l, xpr 18 2 l = l := xpr_no (by decide +kernel)
theorem r_18_5 : xfetch 18 5 = some (.aload_n 0, 1) := by decide +kernel
theorem n_18_5 : ∀ l, xpr 18 5 l = l := xpr_no (by decide +kernel)
theorem r_18_6 : xfetch 18 6 = some (.getfield 374, 3) := by decide +kernel
theorem n_18_6 : ∀ l, xpr 18 6 l = l := xpr_no (by decide +kernel)
theorem r_18_9 : xfetch 18 9 = some (.iconst 4, 1) := by decide +kernel
theorem n_18_9 : ∀ l, xpr 18 9 l = l := xpr_no (by decide +kernel)
theorem r_18_10 : xfetch 18 10 = some (.if_icmp .ge 16, 3) := by decide +kernel
theorem n_18_10 : ∀ l, xpr 18 10 l = l := xpr_no (by decide +kernel)
theorem r_18_13 : xfetch 18 13 = some (.aload_n 0, 1) := by decide +kernel
theorem n_18_13 : ∀ l, xpr 18 13 l = l := xpr_no (by decide +kernel)
theorem r_18_14 : xfetch 18 14 = some (.dup, 1) := by decide +kernel
theorem n_18_14 : ∀ l, xpr 18 14 l = l := xpr_no (by decide +kernel)
theorem r_18_15 : xfetch 18 15 = some (.getfield 374, 3) := by decide +kernel
theorem n_18_15 : ∀ l, xpr 18 15 l = l := xpr_no (by decide +kernel)
theorem r_18_18 : xfetch 18 18 = some (.iconst 1, 1) := by decide +kernel
theorem n_18_18 : ∀ l, xpr 18 18 l = l := xpr_no (by decide +kernel)
theorem r_18_19 : xfetch 18 19 = some (.iadd, 1) := by decide +kernel
theorem n_18_19 : ∀ l, xpr 18 19 l = l := xpr_no (by decide +kernel)
theorem r_18_20 : xfetch 18 20 = some (.putfield 374, 3) := by decide +kernel
theorem n_18_20 : ∀ l, xpr 18 20 l = l := xpr_no (by decide +kernel)
theorem r_18_23 : xfetch 18 23 = some (.goto 15, 3) := by decide +kernel
theorem n_18_23 : ∀ l, xpr 18 23 l = l := xpr_no (by decide +kernel)
theorem r_18_26 : xfetch 18 26 = some (.aload_n 0, 1) := by decide +kernel
theorem n_18_26 : ∀ l, xpr 18 26 l = l := xpr_no (by decide +kernel)
theorem r_18_27 : xfetch 18 27 = some (.aload_n 0, 1) := by decide +kernel
theorem n_18_27 : ∀ l, xpr 18 27 l = l := xpr_no (by decide +kernel)
theorem r_18_28 : xfetch 18 28 = some (.getfield 379, 3) := by decide +kernel
theorem n_18_28 : ∀ l, xpr 18 28 l = l := xpr_no (by decide +kernel)
theorem r_18_31 : xfetch 18 31 = some (.iconst 1, 1) := by decide +kernel
theorem n_18_31 : ∀ l, xpr 18 31 l = l := xpr_no (by decide +kernel)
theorem r_18_32 : xfetch 18 32 = some (.iadd, 1) := by decide +kernel
theorem n_18_32 : ∀ l, xpr 18 32 l = l := xpr_no (by decide +kernel)
theorem r_18_33 : xfetch 18 33 = some (.iconst 4, 1) := by decide +kernel
theorem n_18_33 : ∀ l, xpr 18 33 l = l := xpr_no (by decide +kernel)
theorem r_18_34 : xfetch 18 34 = some (.irem, 1) := by decide +kernel
theorem n_18_34 : ∀ l, xpr 18 34 l = l := xpr_no (by decide +kernel)
theorem r_18_35 : xfetch 18 35 = some (.putfield 379, 3) := by decide +kernel
theorem n_18_35 : ∀ l, xpr 18 35 l = l := xpr_no (by decide +kernel)
theorem r_18_38 : xfetch 18 38 = some (.aload_n 0, 1) := by decide +kernel
theorem n_18_38 : ∀ l, xpr 18 38 l = l := xpr_no (by decide +kernel)
theorem r_18_39 : xfetch 18 39 = some (.getfield 22, 3) := by decide +kernel
theorem n_18_39 : ∀ l, xpr 18 39 l = l := xpr_no (by decide +kernel)
theorem r_18_42 : xfetch 18 42 = some (.aload_n 0, 1) := by decide +kernel
theorem n_18_42 : ∀ l, xpr 18 42 l = l := xpr_no (by decide +kernel)
theorem r_18_43 : xfetch 18 43 = some (.getfield 379, 3) := by decide +kernel
theorem n_18_43 : ∀ l, xpr 18 43 l = l := xpr_no (by decide +kernel)
theorem r_18_46 : xfetch 18 46 = some (.aload_n 0, 1) := by decide +kernel
theorem n_18_46 : ∀ l, xpr 18 46 l = l := xpr_no (by decide +kernel)
theorem r_18_47 : xfetch 18 47 = some (.getfield 374, 3) := by decide +kernel
theorem n_18_47 : ∀ l, xpr 18 47 l = l := xpr_no (by decide +kernel)
theorem r_18_50 : xfetch 18 50 = some (.iadd, 1) := by decide +kernel
theorem n_18_50 : ∀ l, xpr 18 50 l = l := xpr_no (by decide +kernel)
theorem r_18_51 : xfetch 18 51 = some (.iconst 1, 1) := by decide +kernel
theorem n_18_51 : ∀ l, xpr 18 51 l = l := xpr_no (by decide +kernel)
theorem r_18_52 : xfetch 18 52 = some (.isub, 1) := by decide +kernel
theorem n_18_52 : ∀ l, xpr 18 52 l = l := xpr_no (by decide +kernel)
theorem r_18_53 : xfetch 18 53 = some (.iconst 4, 1) := by decide +kernel
theorem n_18_53 : ∀ l, xpr 18 53 l = l := xpr_no (by decide +kernel)
theorem r_18_54 : xfetch 18 54 = some (.irem, 1) := by decide +kernel
theorem n_18_54 : ∀ l, xpr 18 54 l = l := xpr_no (by decide +kernel)
theorem r_18_55 : xfetch 18 55 = some (.aaload, 1) := by decide +kernel
theorem n_18_55 : ∀ l, xpr 18 55 l = l := xpr_no (by decide +kernel)
theorem r_18_56 : xfetch 18 56 = some (.aload_n 0, 1) := by decide +kernel
theorem n_18_56 : ∀ l, xpr 18 56 l = l := xpr_no (by decide +kernel)
theorem r_18_57 : xfetch 18 57 = some (.getfield 10, 3) := by decide +kernel
theorem n_18_57 : ∀ l, xpr 18 57 l = l := xpr_no (by decide +kernel)
theorem r_18_60 : xfetch 18 60 = some (.invokevirtual 382, 3) := by decide +kernel
theorem n_18_60 : ∀ l, xpr 18 60 l = l := xpr_no (by decide +kernel)
theorem r_18_63 : xfetch 18 63 = some (.return_, 1) := by decide +kernel
theorem n_18_63 : ∀ l, xpr 18 63 l = l := xpr_no (by decide +kernel)
theorem v_RL_save_0 {S : Option (Nat × (Nat → Int32))} {s : zSt} {Q : Option Value ⊕ Nat → zSt → Prop}  
    (h : (4 ≤ (zI s 2 4) → rng ((zI s 2 3) + 1) ∧ (0 ≤ ((zI s 2 3) + 1) ∧ (rng (((zI s 2 3) + 1) % 4) ∧ (rng (((((zI s 2 3) + 1) % 4) + (zI s 2 4)) - 1) ∧ (0 ≤ (((((zI s 2 3) + 1) % 4) + (zI s 2 4)) - 1) ∧ ((0 ≤ ((((((zI s 2 3) + 1) % 4) + (zI s 2 4)) - 1) % 4) ∧ ((((((zI s 2 3) + 1) % 4) + (zI s 2 4)) - 1) % 4) < 4) ∧ (wp S 19 0 [(0, rf (128 + 31 * ((((((zI s 2 3) + 1) % 4) + (zI s 2 4)) - 1) % 4))), (1, rf 3)] [] (zwI (zwI s 2 7 (-1)) 2 3 (((zI s 2 3) + 1) % 4)) (fun o17 s17 => zkU (Q rU s17) (fun e17 => False) o17)))))))) ∧ ((zI s 2 4) < 4 → rng ((zI s 2 4) + 1) ∧ (rng (((zI s 2 3) + ((zI s 2 4) + 1)) - 1) ∧ (0 ≤ (((zI s 2 3) + ((zI s 2 4) + 1)) - 1) ∧ ((0 ≤ ((((zI s 2 3) + ((zI s 2 4) + 1)) - 1) % 4) ∧ ((((zI s 2 3) + ((zI s 2 4) + 1)) - 1) % 4) < 4) ∧ (wp S 19 0 [(0, rf (128 + 31 * ((((zI s 2 3) + ((zI s 2 4) + 1)) - 1) % 4))), (1, rf 3)] [] (zwI (zwI s 2 7 (-1)) 2 4 ((zI s 2 4) + 1)) (fun o30 s30 => zkU (Q rU s30) (fun e30 => False) o30))))))) :
    wp S 18 0 [(0, rf 2)] [] s Q := by
  refine i_aload_n (a := 2) r_18_0 (n_18_0 _) rfl ?_
  refine i_iconst r_18_1 (n_18_1 _) ?_
  refine i_putI (a := 2) (x := (-1)) r_18_2 (n_18_2 _) rfl (.inl rfl) rfl lf_2 ⟨by omega, by omega⟩ ?_
  refine i_aload_n (a := 2) r_18_5 (n_18_5 _) rfl ?_
  have e2 : zI (zwI s 2 7 (-1)) 2 4 = zI s 2 4 := zI_nj (by omega)
  refine i_getIe (a := 2) (x := zI s 2 4) r_18_6 (n_18_6 _) rfl (by decide) lf_2 e2 (fun q1 => ?_)
  refine i_iconst r_18_9 (n_18_9 _) ?_
  refine i_icmp (t := 26) r_18_10 (n_18_10 _) rfl (T_ge q1 ⟨by omega, by omega⟩) (fun c3 => ?_) (fun c3 => ?_)
  · replace h := h.1 c3
    refine i_aload_n (a := 2) r_18_26 (n_18_26 _) rfl ?_
    refine i_aload_n (a := 2) r_18_27 (n_18_27 _) rfl ?_
    have e5 : zI (zwI s 2 7 (-1)) 2 3 = zI s 2 3 := zI_nj (by omega)
    refine i_getIe (a := 2) (x := zI s 2 3) r_18_28 (n_18_28 _) rfl (by decide) lf_2 e5 (fun q4 => ?_)
    refine i_iconst r_18_31 (n_18_31 _) ?_
    refine i_iadd r_18_32 (n_18_32 _) ?_
    refine i_iconst r_18_33 (n_18_33 _) ?_
    obtain ⟨g6, h⟩ := h
    obtain ⟨g7, h⟩ := h
    refine i_irem r_18_34 (n_18_34 _) g6 ⟨by omega, by omega⟩ (by omega) (by omega) ?_
    obtain ⟨g8, h⟩ := h
    refine i_putI (a := 2) (x := ((zI s 2 3) + 1) % 4) r_18_35 (n_18_35 _) rfl (.inl rfl) rfl lf_2 g8 ?_
    refine i_aload_n (a := 2) r_18_38 (n_18_38 _) rfl ?_
    refine i_getR (a := 2) (b := 35) r_18_39 (n_18_39 _) rfl rfl rfl (by omega) lf_2 (by omega) ?_
    refine i_aload_n (a := 2) r_18_42 (n_18_42 _) rfl ?_
    have e10 : zI (zwI (zwI s 2 7 (-1)) 2 3 (((zI s 2 3) + 1) % 4)) 2 3 = ((zI s 2 3) + 1) % 4 := zI_eq
    refine i_getIe (a := 2) (x := ((zI s 2 3) + 1) % 4) r_18_43 (n_18_43 _) rfl (by decide) lf_2 e10 (fun q9 => ?_)
    refine i_aload_n (a := 2) r_18_46 (n_18_46 _) rfl ?_
    have e12 : zI (zwI (zwI s 2 7 (-1)) 2 3 (((zI s 2 3) + 1) % 4)) 2 4 = zI s 2 4 := (zI_nj (by omega)).trans (zI_nj (by omega))
    refine i_getIe (a := 2) (x := zI s 2 4) r_18_47 (n_18_47 _) rfl (by decide) lf_2 e12 (fun q11 => ?_)
    refine i_iadd r_18_50 (n_18_50 _) ?_
    refine i_iconst r_18_51 (n_18_51 _) ?_
    refine i_isub r_18_52 (n_18_52 _) ?_
    refine i_iconst r_18_53 (n_18_53 _) ?_
    obtain ⟨g13, h⟩ := h
    obtain ⟨g14, h⟩ := h
    refine i_irem r_18_54 (n_18_54 _) g13 ⟨by omega, by omega⟩ (by omega) (by omega) ?_
    obtain ⟨g15, h⟩ := h
    refine i_aaload (c := 5) (a := 35) (j := (((((zI s 2 3) + 1) % 4) + (zI s 2 4)) - 1) % 4) (b := 128 + 31 * ((((((zI s 2 3) + 1) % 4) + (zI s 2 4)) - 1) % 4)) r_18_55 (n_18_55 _) lf_35 ⟨by omega, by omega⟩ (by omega) (by omega) rfl (by omega) ?_
    have t16 := e_5 (j := (((((zI s 2 3) + 1) % 4) + (zI s 2 4)) - 1) % 4) lf_35 (by omega) (by omega)
    rw [show 35 + 93 + 31 * ((((((zI s 2 3) + 1) % 4) + (zI s 2 4)) - 1) % 4) = 128 + 31 * ((((((zI s 2 3) + 1) % 4) + (zI s 2 4)) - 1) % 4) by omega] at t16
    refine i_aload_n (a := 2) r_18_56 (n_18_56 _) rfl ?_
    refine i_getR (a := 2) (b := 3) r_18_57 (n_18_57 _) rfl rfl rfl (by omega) lf_2 (by omega) ?_
    refine wp_virt (b := 128 + 31 * ((((((zI s 2 3) + 1) % 4) + (zI s 2 4)) - 1) % 4)) (rest := []) (Ls := [(0, rf (128 + 31 * ((((((zI s 2 3) + 1) % 4) + (zI s 2 4)) - 1) % 4))), (1, rf 3)]) r_18_60 (n_18_60 _) rfl ⟨rfl, rfl, by decide, by decide⟩ rfl rfl t16 ⟨rfl, Nat.le_of_ble_eq_true rfl, Nat.le_of_ble_eq_true rfl⟩ rfl h ?_
    intro o17 s17 h
    rcases h with ⟨rfl, h⟩ | ⟨e17, rfl, h⟩
    · refine .inl ⟨none, rfl, ?_⟩
      exact i_return r_18_63 (n_18_63 _) rfl h
    · skip
      exact h.elim
  · replace h := h.2 c3
    refine i_aload_n (a := 2) r_18_13 (n_18_13 _) rfl ?_
    refine i_dup r_18_14 (n_18_14 _) rfl ?_
    have e20 : zI (zwI s 2 7 (-1)) 2 4 = zI s 2 4 := zI_nj (by omega)
    refine i_getIe (a := 2) (x := zI s 2 4) r_18_15 (n_18_15 _) rfl (by decide) lf_2 e20 (fun q19 => ?_)
    refine i_iconst r_18_18 (n_18_18 _) ?_
    refine i_iadd r_18_19 (n_18_19 _) ?_
    obtain ⟨g21, h⟩ := h
    refine i_putI (a := 2) (x := (zI s 2 4) + 1) r_18_20 (n_18_20 _) rfl (.inl rfl) rfl lf_2 g21 ?_
    refine i_goto (t := 38) r_18_23 (n_18_23 _) rfl ?_
    refine i_aload_n (a := 2) r_18_38 (n_18_38 _) rfl ?_
    refine i_getR (a := 2) (b := 35) r_18_39 (n_18_39 _) rfl rfl rfl (by omega) lf_2 (by omega) ?_
    refine i_aload_n (a := 2) r_18_42 (n_18_42 _) rfl ?_
    have e23 : zI (zwI (zwI s 2 7 (-1)) 2 4 ((zI s 2 4) + 1)) 2 3 = zI s 2 3 := (zI_nj (by omega)).trans (zI_nj (by omega))
    refine i_getIe (a := 2) (x := zI s 2 3) r_18_43 (n_18_43 _) rfl (by decide) lf_2 e23 (fun q22 => ?_)
    refine i_aload_n (a := 2) r_18_46 (n_18_46 _) rfl ?_
    have e25 : zI (zwI (zwI s 2 7 (-1)) 2 4 ((zI s 2 4) + 1)) 2 4 = (zI s 2 4) + 1 := zI_eq
    refine i_getIe (a := 2) (x := (zI s 2 4) + 1) r_18_47 (n_18_47 _) rfl (by decide) lf_2 e25 (fun q24 => ?_)
    refine i_iadd r_18_50 (n_18_50 _) ?_
    refine i_iconst r_18_51 (n_18_51 _) ?_
    refine i_isub r_18_52 (n_18_52 _) ?_
    refine i_iconst r_18_53 (n_18_53 _) ?_
    obtain ⟨g26, h⟩ := h
    obtain ⟨g27, h⟩ := h
    refine i_irem r_18_54 (n_18_54 _) g26 ⟨by omega, by omega⟩ (by omega) (by omega) ?_
    obtain ⟨g28, h⟩ := h
    refine i_aaload (c := 5) (a := 35) (j := (((zI s 2 3) + ((zI s 2 4) + 1)) - 1) % 4) (b := 128 + 31 * ((((zI s 2 3) + ((zI s 2 4) + 1)) - 1) % 4)) r_18_55 (n_18_55 _) lf_35 ⟨by omega, by omega⟩ (by omega) (by omega) rfl (by omega) ?_
    have t29 := e_5 (j := (((zI s 2 3) + ((zI s 2 4) + 1)) - 1) % 4) lf_35 (by omega) (by omega)
    rw [show 35 + 93 + 31 * ((((zI s 2 3) + ((zI s 2 4) + 1)) - 1) % 4) = 128 + 31 * ((((zI s 2 3) + ((zI s 2 4) + 1)) - 1) % 4) by omega] at t29
    refine i_aload_n (a := 2) r_18_56 (n_18_56 _) rfl ?_
    refine i_getR (a := 2) (b := 3) r_18_57 (n_18_57 _) rfl rfl rfl (by omega) lf_2 (by omega) ?_
    refine wp_virt (b := 128 + 31 * ((((zI s 2 3) + ((zI s 2 4) + 1)) - 1) % 4)) (rest := []) (Ls := [(0, rf (128 + 31 * ((((zI s 2 3) + ((zI s 2 4) + 1)) - 1) % 4))), (1, rf 3)]) r_18_60 (n_18_60 _) rfl ⟨rfl, rfl, by decide, by decide⟩ rfl rfl t29 ⟨rfl, Nat.le_of_ble_eq_true rfl, Nat.le_of_ble_eq_true rfl⟩ rfl h ?_
    intro o30 s30 h
    rcases h with ⟨rfl, h⟩ | ⟨e30, rfl, h⟩
    · refine .inl ⟨none, rfl, ?_⟩
      exact i_return r_18_63 (n_18_63 _) rfl h
    · skip
      exact h.elim
theorem r_19_0 : xfetch 19 0 = some (.aload_n 0, 1) := by decide +kernel
theorem n_19_0 : ∀ l, xpr 19 0 l = l := xpr_no (by decide +kernel)
theorem r_19_1 : xfetch 19 1 = some (.aload_n 1, 1) := by decide +kernel
theorem n_19_1 : ∀ l, xpr 19 1 l = l := xpr_no (by decide +kernel)
theorem r_19_2 : xfetch 19 2 = some (.getfield 29, 3) := by decide +kernel
theorem n_19_2 : ∀ l, xpr 19 2 l = l := xpr_no (by decide +kernel)
theorem r_19_5 : xfetch 19 5 = some (.putfield 29, 3) := by decide +kernel
theorem n_19_5 : ∀ l, xpr 19 5 l = l := xpr_no (by decide +kernel)
theorem r_19_8 : xfetch 19 8 = some (.iconst 0, 1) := by decide +kernel
theorem n_19_8 : ∀ l, xpr 19 8 l = l := xpr_no (by decide +kernel)
theorem r_19_9 : xfetch 19 9 = some (.istore_n 2, 1) := by decide +kernel
theorem n_19_9 : ∀ l, xpr 19 9 l = l := xpr_no (by decide +kernel)
theorem r_19_10 : xfetch 19 10 = some (.iload_n 2, 1) := by decide +kernel
theorem r_19_11 : xfetch 19 11 = some (.aload_n 0, 1) := by decide +kernel
theorem n_19_11 : ∀ l, xpr 19 11 l = l := xpr_no (by decide +kernel)
theorem r_19_12 : xfetch 19 12 = some (.getfield 29, 3) := by decide +kernel
theorem n_19_12 : ∀ l, xpr 19 12 l = l := xpr_no (by decide +kernel)
theorem r_19_15 : xfetch 19 15 = some (.if_icmp .ge 24, 3) := by decide +kernel
theorem n_19_15 : ∀ l, xpr 19 15 l = l := xpr_no (by decide +kernel)
theorem r_19_18 : xfetch 19 18 = some (.aload_n 0, 1) := by decide +kernel
theorem n_19_18 : ∀ l, xpr 19 18 l = l := xpr_no (by decide +kernel)
theorem r_19_19 : xfetch 19 19 = some (.getfield 11, 3) := by decide +kernel
theorem n_19_19 : ∀ l, xpr 19 19 l = l := xpr_no (by decide +kernel)
theorem r_19_22 : xfetch 19 22 = some (.iload_n 2, 1) := by decide +kernel
theorem n_19_22 : ∀ l, xpr 19 22 l = l := xpr_no (by decide +kernel)
theorem r_19_23 : xfetch 19 23 = some (.aaload, 1) := by decide +kernel
theorem n_19_23 : ∀ l, xpr 19 23 l = l := xpr_no (by decide +kernel)
theorem r_19_24 : xfetch 19 24 = some (.aload_n 1, 1) := by decide +kernel
theorem n_19_24 : ∀ l, xpr 19 24 l = l := xpr_no (by decide +kernel)
theorem r_19_25 : xfetch 19 25 = some (.getfield 11, 3) := by decide +kernel
theorem n_19_25 : ∀ l, xpr 19 25 l = l := xpr_no (by decide +kernel)
theorem r_19_28 : xfetch 19 28 = some (.iload_n 2, 1) := by decide +kernel
theorem n_19_28 : ∀ l, xpr 19 28 l = l := xpr_no (by decide +kernel)
theorem r_19_29 : xfetch 19 29 = some (.aaload, 1) := by decide +kernel
theorem n_19_29 : ∀ l, xpr 19 29 l = l := xpr_no (by decide +kernel)
theorem r_19_30 : xfetch 19 30 = some (.invokevirtual 33, 3) := by decide +kernel
theorem n_19_30 : ∀ l, xpr 19 30 l = l := xpr_no (by decide +kernel)
theorem r_19_33 : xfetch 19 33 = some (.iinc 2 1, 3) := by decide +kernel
theorem n_19_33 : ∀ l, xpr 19 33 l = l := xpr_no (by decide +kernel)
theorem r_19_36 : xfetch 19 36 = some (.goto (-26), 3) := by decide +kernel
theorem n_19_36 : ∀ l, xpr 19 36 l = l := xpr_no (by decide +kernel)
theorem r_19_39 : xfetch 19 39 = some (.iconst 0, 1) := by decide +kernel
theorem n_19_39 : ∀ l, xpr 19 39 l = l := xpr_no (by decide +kernel)
theorem r_19_40 : xfetch 19 40 = some (.istore_n 2, 1) := by decide +kernel
theorem n_19_40 : ∀ l, xpr 19 40 l = l := xpr_no (by decide +kernel)
theorem r_19_41 : xfetch 19 41 = some (.iload_n 2, 1) := by decide +kernel
theorem r_19_42 : xfetch 19 42 = some (.iconst 3, 1) := by decide +kernel
theorem n_19_42 : ∀ l, xpr 19 42 l = l := xpr_no (by decide +kernel)
theorem r_19_43 : xfetch 19 43 = some (.if_icmp .ge 24, 3) := by decide +kernel
theorem n_19_43 : ∀ l, xpr 19 43 l = l := xpr_no (by decide +kernel)
theorem r_19_46 : xfetch 19 46 = some (.aload_n 0, 1) := by decide +kernel
theorem n_19_46 : ∀ l, xpr 19 46 l = l := xpr_no (by decide +kernel)
theorem r_19_47 : xfetch 19 47 = some (.getfield 19, 3) := by decide +kernel
theorem n_19_47 : ∀ l, xpr 19 47 l = l := xpr_no (by decide +kernel)
theorem r_19_50 : xfetch 19 50 = some (.iload_n 2, 1) := by decide +kernel
theorem n_19_50 : ∀ l, xpr 19 50 l = l := xpr_no (by decide +kernel)
theorem r_19_51 : xfetch 19 51 = some (.aaload, 1) := by decide +kernel
theorem n_19_51 : ∀ l, xpr 19 51 l = l := xpr_no (by decide +kernel)
theorem r_19_52 : xfetch 19 52 = some (.aload_n 1, 1) := by decide +kernel
theorem n_19_52 : ∀ l, xpr 19 52 l = l := xpr_no (by decide +kernel)
theorem r_19_53 : xfetch 19 53 = some (.getfield 19, 3) := by decide +kernel
theorem n_19_53 : ∀ l, xpr 19 53 l = l := xpr_no (by decide +kernel)
theorem r_19_56 : xfetch 19 56 = some (.iload_n 2, 1) := by decide +kernel
theorem n_19_56 : ∀ l, xpr 19 56 l = l := xpr_no (by decide +kernel)
theorem r_19_57 : xfetch 19 57 = some (.aaload, 1) := by decide +kernel
theorem n_19_57 : ∀ l, xpr 19 57 l = l := xpr_no (by decide +kernel)
theorem r_19_58 : xfetch 19 58 = some (.invokevirtual 37, 3) := by decide +kernel
theorem n_19_58 : ∀ l, xpr 19 58 l = l := xpr_no (by decide +kernel)
theorem r_19_61 : xfetch 19 61 = some (.iinc 2 1, 3) := by decide +kernel
theorem n_19_61 : ∀ l, xpr 19 61 l = l := xpr_no (by decide +kernel)
theorem r_19_64 : xfetch 19 64 = some (.goto (-23), 3) := by decide +kernel
theorem n_19_64 : ∀ l, xpr 19 64 l = l := xpr_no (by decide +kernel)
theorem r_19_67 : xfetch 19 67 = some (.aload_n 1, 1) := by decide +kernel
theorem n_19_67 : ∀ l, xpr 19 67 l = l := xpr_no (by decide +kernel)
theorem r_19_68 : xfetch 19 68 = some (.getfield 23, 3) := by decide +kernel
theorem n_19_68 : ∀ l, xpr 19 68 l = l := xpr_no (by decide +kernel)
theorem r_19_71 : xfetch 19 71 = some (.iconst 0, 1) := by decide +kernel
theorem n_19_71 : ∀ l, xpr 19 71 l = l := xpr_no (by decide +kernel)
theorem r_19_72 : xfetch 19 72 = some (.aload_n 0, 1) := by decide +kernel
theorem n_19_72 : ∀ l, xpr 19 72 l = l := xpr_no (by decide +kernel)
theorem r_19_73 : xfetch 19 73 = some (.getfield 23, 3) := by decide +kernel
theorem n_19_73 : ∀ l, xpr 19 73 l = l := xpr_no (by decide +kernel)
theorem r_19_76 : xfetch 19 76 = some (.iconst 0, 1) := by decide +kernel
theorem n_19_76 : ∀ l, xpr 19 76 l = l := xpr_no (by decide +kernel)
theorem r_19_77 : xfetch 19 77 = some (.sipush 1024, 3) := by decide +kernel
theorem n_19_77 : ∀ l, xpr 19 77 l = l := xpr_no (by decide +kernel)
theorem r_19_80 : xfetch 19 80 = some (.invokestatic 40, 3) := by decide +kernel
theorem n_19_80 : ∀ l, xpr 19 80 l = l := xpr_no (by decide +kernel)
theorem r_19_83 : xfetch 19 83 = some (.return_, 1) := by decide +kernel
theorem n_19_83 : ∀ l, xpr 19 83 l = l := xpr_no (by decide +kernel)
theorem v_State_copyFrom_0 {S : Option (Nat × (Nat → Int32))} {s : zSt} {Q : Option Value ⊕ Nat → zSt → Prop} {a0 : Int} {a1 : Int} (ha0 : isO a0 5) (ha1 : isO a1 5)
    (h : wp S 19 10 [(0, rf a0), (1, rf a1), (2, iv 0)] [] (zwI s a0 0 (zI s a1 0)) Q) :
    wp S 19 0 [(0, rf a0), (1, rf a1)] [] s Q := by
  refine i_aload_n (a := a0) r_19_0 (n_19_0 _) rfl ?_
  refine i_aload_n (a := a1) r_19_1 (n_19_1 _) rfl ?_
  refine i_getI (a := a1) r_19_2 (n_19_2 _) rfl (by decide) ha1 (fun q1 => ?_)
  refine i_putI (a := a0) (x := zI s a1 0) r_19_5 (n_19_5 _) rfl (.inl rfl) rfl ha0 q1 ?_
  refine i_iconst r_19_8 (n_19_8 _) ?_
  refine i_istore_n (l' := [(0, rf a0), (1, rf a1), (2, iv 0)]) r_19_9 (n_19_9 _) (by decide) rfl ?_
  exact wp_pr (l' := [(0, rf a0), (1, rf a1), (2, iv 0)]) rfl h
theorem v_State_copyFrom_10 {S : Option (Nat × (Nat → Int32))} {s : zSt} {Q : Option Value ⊕ Nat → zSt → Prop} {a0 : Int} {a1 : Int} {x2 : Int} (ha0 : isO a0 5) (ha1 : isO a1 5)
    (h : rng x2 ∧ (((zI s a0 0) ≤ x2 → wp S 19 41 [(0, rf a0), (1, rf a1), (2, iv 0)] [] s Q) ∧ (x2 < (zI s a0 0) → (0 ≤ x2 ∧ x2 < 6) ∧ (wp S 20 0 [(0, rf (a0 + 4 + 4 * x2)), (1, rf (a1 + 4 + 4 * x2))] [] s (fun o9 s9 => zkU (wp S 19 10 [(0, rf a0), (1, rf a1), (2, iv (x2 + 1))] [] s9 Q) (fun e9 => False) o9))))) :
    wp S 19 10 [(0, rf a0), (1, rf a1), (2, iv x2)] [] s Q := by
  refine i_iload_n (x := x2) r_19_10 rfl rfl ?_
  refine i_aload_n (a := a0) r_19_11 (n_19_11 _) rfl ?_
  refine i_getI (a := a0) r_19_12 (n_19_12 _) rfl (by decide) ha0 (fun q1 => ?_)
  obtain ⟨g2, h⟩ := h
  refine i_icmp (t := 39) r_19_15 (n_19_15 _) rfl (T_ge g2 q1) (fun c3 => ?_) (fun c3 => ?_)
  · replace h := h.1 c3
    refine i_iconst r_19_39 (n_19_39 _) ?_
    refine i_istore_n (l' := [(0, rf a0), (1, rf a1), (2, iv 0)]) r_19_40 (n_19_40 _) (by decide) rfl ?_
    exact wp_pr (l' := [(0, rf a0), (1, rf a1), (2, iv 0)]) rfl h
  · replace h := h.2 c3
    refine i_aload_n (a := a0) r_19_18 (n_19_18 _) rfl ?_
    refine i_getR (a := a0) (b := a0 + 1) r_19_19 (n_19_19 _) rfl rfl rfl (by omega) ha0 (by omega) ?_
    have t4 := (t_5_1 ha0)
    refine i_iload_n (x := x2) r_19_22 (n_19_22 _) rfl ?_
    obtain ⟨g5, h⟩ := h
    refine i_aaload (c := 1) (a := a0 + 1) (j := x2) (b := a0 + 4 + 4 * x2) r_19_23 (n_19_23 _) t4 ⟨by omega, by omega⟩ (by omega) (by omega) rfl (by omega) ?_
    have t6 := e_1 (j := x2) t4 (by omega) (by omega)
    rw [show (a0 + 1) + 3 + 4 * x2 = a0 + 4 + 4 * x2 by omega] at t6
    refine i_aload_n (a := a1) r_19_24 (n_19_24 _) rfl ?_
    refine i_getR (a := a1) (b := a1 + 1) r_19_25 (n_19_25 _) rfl rfl rfl (by omega) ha1 (by omega) ?_
    have t7 := (t_5_1 ha1)
    refine i_iload_n (x := x2) r_19_28 (n_19_28 _) rfl ?_
    refine i_aaload (c := 1) (a := a1 + 1) (j := x2) (b := a1 + 4 + 4 * x2) r_19_29 (n_19_29 _) t7 ⟨by omega, by omega⟩ (by omega) (by omega) rfl (by omega) ?_
    have t8 := e_1 (j := x2) t7 (by omega) (by omega)
    rw [show (a1 + 1) + 3 + 4 * x2 = a1 + 4 + 4 * x2 by omega] at t8
    refine wp_virt (b := a0 + 4 + 4 * x2) (rest := []) (Ls := [(0, rf (a0 + 4 + 4 * x2)), (1, rf (a1 + 4 + 4 * x2))]) r_19_30 (n_19_30 _) rfl ⟨rfl, rfl, by decide, by decide⟩ rfl rfl t6 ⟨rfl, Nat.le_of_ble_eq_true rfl, Nat.le_of_ble_eq_true rfl⟩ rfl h ?_
    intro o9 s9 h
    rcases h with ⟨rfl, h⟩ | ⟨e9, rfl, h⟩
    · refine .inl ⟨none, rfl, ?_⟩
      refine i_iinc (x := x2) (l' := [(0, rf a0), (1, rf a1), (2, iv (x2 + 1))]) r_19_33 (n_19_33 _) (by decide) rfl rfl ?_
      refine i_goto (t := 10) r_19_36 (n_19_36 _) rfl ?_
      exact wp_pr (l' := [(0, rf a0), (1, rf a1), (2, iv (x2 + 1))]) rfl h
    · skip
      exact h.elim
theorem v_State_copyFrom_41 {S : Option (Nat × (Nat → Int32))} {s : zSt} {Q : Option Value ⊕ Nat → zSt → Prop} {a0 : Int} {a1 : Int} {x2 : Int} (ha0 : isO a0 5) (ha1 : isO a1 5)
    (h : rng x2 ∧ ((3 ≤ x2 → ((a0 + 3) ≠ (a1 + 3)) ∧ ((∀ j, 0 ≤ j → j < 1024 → -128 ≤ zI s (a1 + 3) j ∧ zI s (a1 + 3) j ≤ 127) ∧ (Q rU (zwC s (a0 + 3) (a1 + 3) 1024)))) ∧ (x2 < 3 → (0 ≤ x2 ∧ x2 < 3) ∧ (wp S 22 0 [(0, rf (a0 + 28 + x2)), (1, rf (a1 + 28 + x2))] [] s (fun o12 s12 => zkU (wp S 19 41 [(0, rf a0), (1, rf a1), (2, iv (x2 + 1))] [] s12 Q) (fun e12 => False) o12))))) :
    wp S 19 41 [(0, rf a0), (1, rf a1), (2, iv x2)] [] s Q := by
  refine i_iload_n (x := x2) r_19_41 rfl rfl ?_
  refine i_iconst r_19_42 (n_19_42 _) ?_
  obtain ⟨g1, h⟩ := h
  refine i_icmp (t := 67) r_19_43 (n_19_43 _) rfl (T_ge g1 ⟨by omega, by omega⟩) (fun c2 => ?_) (fun c2 => ?_)
  · replace h := h.1 c2
    refine i_aload_n (a := a1) r_19_67 (n_19_67 _) rfl ?_
    refine i_getR (a := a1) (b := a1 + 3) r_19_68 (n_19_68 _) rfl rfl rfl (by omega) ha1 (by omega) ?_
    have t3 := (t_5_3 ha1)
    refine i_iconst r_19_71 (n_19_71 _) ?_
    refine i_aload_n (a := a0) r_19_72 (n_19_72 _) rfl ?_
    refine i_getR (a := a0) (b := a0 + 3) r_19_73 (n_19_73 _) rfl rfl rfl (by omega) ha0 (by omega) ?_
    have t4 := (t_5_3 ha0)
    refine i_iconst r_19_76 (n_19_76 _) ?_
    refine i_sipush r_19_77 (n_19_77 _) rfl ?_
    obtain ⟨g5, h⟩ := h
    obtain ⟨g6, h⟩ := h
    refine i_copy r_19_80 (n_19_80 _) rfl t4 t3 g5 g6 ?_
    exact i_return r_19_83 (n_19_83 _) rfl h
  · replace h := h.2 c2
    refine i_aload_n (a := a0) r_19_46 (n_19_46 _) rfl ?_
    refine i_getR (a := a0) (b := a0 + 2) r_19_47 (n_19_47 _) rfl rfl rfl (by omega) ha0 (by omega) ?_
    have t7 := (t_5_2 ha0)
    refine i_iload_n (x := x2) r_19_50 (n_19_50 _) rfl ?_
    obtain ⟨g8, h⟩ := h
    refine i_aaload (c := 6) (a := a0 + 2) (j := x2) (b := a0 + 28 + x2) r_19_51 (n_19_51 _) t7 ⟨by omega, by omega⟩ (by omega) (by omega) rfl (by omega) ?_
    have t9 := e_6 (j := x2) t7 (by omega) (by omega)
    rw [show (a0 + 2) + 26 + 1 * x2 = a0 + 28 + x2 by omega] at t9
    refine i_aload_n (a := a1) r_19_52 (n_19_52 _) rfl ?_
    refine i_getR (a := a1) (b := a1 + 2) r_19_53 (n_19_53 _) rfl rfl rfl (by omega) ha1 (by omega) ?_
    have t10 := (t_5_2 ha1)
    refine i_iload_n (x := x2) r_19_56 (n_19_56 _) rfl ?_
    refine i_aaload (c := 6) (a := a1 + 2) (j := x2) (b := a1 + 28 + x2) r_19_57 (n_19_57 _) t10 ⟨by omega, by omega⟩ (by omega) (by omega) rfl (by omega) ?_
    have t11 := e_6 (j := x2) t10 (by omega) (by omega)
    rw [show (a1 + 2) + 26 + 1 * x2 = a1 + 28 + x2 by omega] at t11
    refine wp_virt (b := a0 + 28 + x2) (rest := []) (Ls := [(0, rf (a0 + 28 + x2)), (1, rf (a1 + 28 + x2))]) r_19_58 (n_19_58 _) rfl ⟨rfl, rfl, by decide, by decide⟩ rfl rfl t9 ⟨rfl, Nat.le_of_ble_eq_true rfl, Nat.le_of_ble_eq_true rfl⟩ rfl h ?_
    intro o12 s12 h
    rcases h with ⟨rfl, h⟩ | ⟨e12, rfl, h⟩
    · refine .inl ⟨none, rfl, ?_⟩
      refine i_iinc (x := x2) (l' := [(0, rf a0), (1, rf a1), (2, iv (x2 + 1))]) r_19_61 (n_19_61 _) (by decide) rfl rfl ?_
      refine i_goto (t := 41) r_19_64 (n_19_64 _) rfl ?_
      exact wp_pr (l' := [(0, rf a0), (1, rf a1), (2, iv (x2 + 1))]) rfl h
    · skip
      exact h.elim
theorem r_20_0 : xfetch 20 0 = some (.aload_n 0, 1) := by decide +kernel
theorem n_20_0 : ∀ l, xpr 20 0 l = l := xpr_no (by decide +kernel)
theorem r_20_1 : xfetch 20 1 = some (.aload_n 1, 1) := by decide +kernel
theorem n_20_1 : ∀ l, xpr 20 1 l = l := xpr_no (by decide +kernel)
theorem r_20_2 : xfetch 20 2 = some (.getfield 9, 3) := by decide +kernel
theorem n_20_2 : ∀ l, xpr 20 2 l = l := xpr_no (by decide +kernel)
theorem r_20_5 : xfetch 20 5 = some (.putfield 9, 3) := by decide +kernel
theorem n_20_5 : ∀ l, xpr 20 5 l = l := xpr_no (by decide +kernel)
theorem r_20_8 : xfetch 20 8 = some (.aload_n 0, 1) := by decide +kernel
theorem n_20_8 : ∀ l, xpr 20 8 l = l := xpr_no (by decide +kernel)
theorem r_20_9 : xfetch 20 9 = some (.iconst 0, 1) := by decide +kernel
theorem n_20_9 : ∀ l, xpr 20 9 l = l := xpr_no (by decide +kernel)
theorem r_20_10 : xfetch 20 10 = some (.putfield 25, 3) := by decide +kernel
theorem n_20_10 : ∀ l, xpr 20 10 l = l := xpr_no (by decide +kernel)
theorem r_20_13 : xfetch 20 13 = some (.iconst 0, 1) := by decide +kernel
theorem n_20_13 : ∀ l, xpr 20 13 l = l := xpr_no (by decide +kernel)
theorem r_20_14 : xfetch 20 14 = some (.istore_n 2, 1) := by decide +kernel
theorem n_20_14 : ∀ l, xpr 20 14 l = l := xpr_no (by decide +kernel)
theorem r_20_15 : xfetch 20 15 = some (.iload_n 2, 1) := by decide +kernel
theorem r_20_16 : xfetch 20 16 = some (.aload_n 1, 1) := by decide +kernel
theorem n_20_16 : ∀ l, xpr 20 16 l = l := xpr_no (by decide +kernel)
theorem r_20_17 : xfetch 20 17 = some (.getfield 25, 3) := by decide +kernel
theorem n_20_17 : ∀ l, xpr 20 17 l = l := xpr_no (by decide +kernel)
theorem r_20_20 : xfetch 20 20 = some (.if_icmp .ge 31, 3) := by decide +kernel
theorem n_20_20 : ∀ l, xpr 20 20 l = l := xpr_no (by decide +kernel)
theorem r_20_23 : xfetch 20 23 = some (.aload_n 0, 1) := by decide +kernel
theorem n_20_23 : ∀ l, xpr 20 23 l = l := xpr_no (by decide +kernel)
theorem r_20_24 : xfetch 20 24 = some (.aload_n 1, 1) := by decide +kernel
theorem n_20_24 : ∀ l, xpr 20 24 l = l := xpr_no (by decide +kernel)
theorem r_20_25 : xfetch 20 25 = some (.getfield 15, 3) := by decide +kernel
theorem n_20_25 : ∀ l, xpr 20 25 l = l := xpr_no (by decide +kernel)
theorem r_20_28 : xfetch 20 28 = some (.iload_n 2, 1) := by decide +kernel
theorem n_20_28 : ∀ l, xpr 20 28 l = l := xpr_no (by decide +kernel)
theorem r_20_29 : xfetch 20 29 = some (.iaload, 1) := by decide +kernel
theorem n_20_29 : ∀ l, xpr 20 29 l = l := xpr_no (by decide +kernel)
theorem r_20_30 : xfetch 20 30 = some (.aload_n 1, 1) := by decide +kernel
theorem n_20_30 : ∀ l, xpr 20 30 l = l := xpr_no (by decide +kernel)
theorem r_20_31 : xfetch 20 31 = some (.getfield 19, 3) := by decide +kernel
theorem n_20_31 : ∀ l, xpr 20 31 l = l := xpr_no (by decide +kernel)
theorem r_20_34 : xfetch 20 34 = some (.iload_n 2, 1) := by decide +kernel
theorem n_20_34 : ∀ l, xpr 20 34 l = l := xpr_no (by decide +kernel)
theorem r_20_35 : xfetch 20 35 = some (.iaload, 1) := by decide +kernel
theorem n_20_35 : ∀ l, xpr 20 35 l = l := xpr_no (by decide +kernel)
theorem r_20_36 : xfetch 20 36 = some (.aload_n 1, 1) := by decide +kernel
theorem n_20_36 : ∀ l, xpr 20 36 l = l := xpr_no (by decide +kernel)
theorem r_20_37 : xfetch 20 37 = some (.getfield 22, 3) := by decide +kernel
theorem n_20_37 : ∀ l, xpr 20 37 l = l := xpr_no (by decide +kernel)
theorem r_20_40 : xfetch 20 40 = some (.iload_n 2, 1) := by decide +kernel
theorem n_20_40 : ∀ l, xpr 20 40 l = l := xpr_no (by decide +kernel)
theorem r_20_41 : xfetch 20 41 = some (.iaload, 1) := by decide +kernel
theorem n_20_41 : ∀ l, xpr 20 41 l = l := xpr_no (by decide +kernel)
theorem r_20_42 : xfetch 20 42 = some (.invokevirtual 28, 3) := by decide +kernel
theorem n_20_42 : ∀ l, xpr 20 42 l = l := xpr_no (by decide +kernel)
theorem r_20_45 : xfetch 20 45 = some (.iinc 2 1, 3) := by decide +kernel
theorem n_20_45 : ∀ l, xpr 20 45 l = l := xpr_no (by decide +kernel)
theorem r_20_48 : xfetch 20 48 = some (.goto (-33), 3) := by decide +kernel
theorem n_20_48 : ∀ l, xpr 20 48 l = l := xpr_no (by decide +kernel)
theorem r_20_51 : xfetch 20 51 = some (.return_, 1) := by decide +kernel
theorem n_20_51 : ∀ l, xpr 20 51 l = l := xpr_no (by decide +kernel)
theorem v_Fields_copyFrom_0 {S : Option (Nat × (Nat → Int32))} {s : zSt} {Q : Option Value ⊕ Nat → zSt → Prop} {a0 : Int} {a1 : Int} (ha0 : isO a0 1) (ha1 : isO a1 1)
    (h : wp S 20 15 [(0, rf a0), (1, rf a1), (2, iv 0)] [] (zwI (zwI s a0 0 (zI s a1 0)) a0 1 0) Q) :
    wp S 20 0 [(0, rf a0), (1, rf a1)] [] s Q := by
  refine i_aload_n (a := a0) r_20_0 (n_20_0 _) rfl ?_
  refine i_aload_n (a := a1) r_20_1 (n_20_1 _) rfl ?_
  refine i_getI (a := a1) r_20_2 (n_20_2 _) rfl (by decide) ha1 (fun q1 => ?_)
  refine i_putI (a := a0) (x := zI s a1 0) r_20_5 (n_20_5 _) rfl (.inl rfl) rfl ha0 q1 ?_
  refine i_aload_n (a := a0) r_20_8 (n_20_8 _) rfl ?_
  refine i_iconst r_20_9 (n_20_9 _) ?_
  refine i_putI (a := a0) (x := 0) r_20_10 (n_20_10 _) rfl (.inl rfl) rfl ha0 ⟨by omega, by omega⟩ ?_
  refine i_iconst r_20_13 (n_20_13 _) ?_
  refine i_istore_n (l' := [(0, rf a0), (1, rf a1), (2, iv 0)]) r_20_14 (n_20_14 _) (by decide) rfl ?_
  exact wp_pr (l' := [(0, rf a0), (1, rf a1), (2, iv 0)]) rfl h
theorem v_Fields_copyFrom_15 {S : Option (Nat × (Nat → Int32))} {s : zSt} {Q : Option Value ⊕ Nat → zSt → Prop} {a0 : Int} {a1 : Int} {x2 : Int} (ha0 : isO a0 1) (ha1 : isO a1 1)
    (h : rng x2 ∧ (((zI s a1 1) ≤ x2 → Q rU s) ∧ (x2 < (zI s a1 1) → (0 ≤ x2 ∧ x2 < 8) ∧ (wp S 21 0 [(0, rf a0), (1, iv (zI s (a1 + 1) x2)), (2, iv (zI s (a1 + 2) x2)), (3, iv (zI s (a1 + 3) x2))] [] s (fun o11 s11 => zkU (wp S 20 15 [(0, rf a0), (1, rf a1), (2, iv (x2 + 1))] [] s11 Q) (fun e11 => False) o11))))) :
    wp S 20 15 [(0, rf a0), (1, rf a1), (2, iv x2)] [] s Q := by
  refine i_iload_n (x := x2) r_20_15 rfl rfl ?_
  refine i_aload_n (a := a1) r_20_16 (n_20_16 _) rfl ?_
  refine i_getI (a := a1) r_20_17 (n_20_17 _) rfl (by decide) ha1 (fun q1 => ?_)
  obtain ⟨g2, h⟩ := h
  refine i_icmp (t := 51) r_20_20 (n_20_20 _) rfl (T_ge g2 q1) (fun c3 => ?_) (fun c3 => ?_)
  · replace h := h.1 c3
    exact i_return r_20_51 (n_20_51 _) rfl h
  · replace h := h.2 c3
    refine i_aload_n (a := a0) r_20_23 (n_20_23 _) rfl ?_
    refine i_aload_n (a := a1) r_20_24 (n_20_24 _) rfl ?_
    refine i_getR (a := a1) (b := a1 + 1) r_20_25 (n_20_25 _) rfl rfl rfl (by omega) ha1 (by omega) ?_
    have t4 := (t_1_2 ha1)
    refine i_iload_n (x := x2) r_20_28 (n_20_28 _) rfl ?_
    obtain ⟨g5, h⟩ := h
    refine i_iaload (a := a1 + 1) (j := x2) r_20_29 (n_20_29 _) t4 ⟨by omega, by omega⟩ (by omega) (by omega) (fun q6 => ?_)
    refine i_aload_n (a := a1) r_20_30 (n_20_30 _) rfl ?_
    refine i_getR (a := a1) (b := a1 + 2) r_20_31 (n_20_31 _) rfl rfl rfl (by omega) ha1 (by omega) ?_
    have t7 := (t_1_3 ha1)
    refine i_iload_n (x := x2) r_20_34 (n_20_34 _) rfl ?_
    refine i_iaload (a := a1 + 2) (j := x2) r_20_35 (n_20_35 _) t7 ⟨by omega, by omega⟩ (by omega) (by omega) (fun q8 => ?_)
    refine i_aload_n (a := a1) r_20_36 (n_20_36 _) rfl ?_
    refine i_getR (a := a1) (b := a1 + 3) r_20_37 (n_20_37 _) rfl rfl rfl (by omega) ha1 (by omega) ?_
    have t9 := (t_1_4 ha1)
    refine i_iload_n (x := x2) r_20_40 (n_20_40 _) rfl ?_
    refine i_iaload (a := a1 + 3) (j := x2) r_20_41 (n_20_41 _) t9 ⟨by omega, by omega⟩ (by omega) (by omega) (fun q10 => ?_)
    refine wp_virt (b := a0) (rest := []) (Ls := [(0, rf a0), (1, iv (zI s (a1 + 1) x2)), (2, iv (zI s (a1 + 2) x2)), (3, iv (zI s (a1 + 3) x2))]) r_20_42 (n_20_42 _) rfl ⟨rfl, rfl, by decide, by decide⟩ rfl rfl ha0 ⟨rfl, Nat.le_of_ble_eq_true rfl, Nat.le_of_ble_eq_true rfl⟩ rfl h ?_
    intro o11 s11 h
    rcases h with ⟨rfl, h⟩ | ⟨e11, rfl, h⟩
    · refine .inl ⟨none, rfl, ?_⟩
      refine i_iinc (x := x2) (l' := [(0, rf a0), (1, rf a1), (2, iv (x2 + 1))]) r_20_45 (n_20_45 _) (by decide) rfl rfl ?_
      refine i_goto (t := 15) r_20_48 (n_20_48 _) rfl ?_
      exact wp_pr (l' := [(0, rf a0), (1, rf a1), (2, iv (x2 + 1))]) rfl h
    · skip
      exact h.elim
theorem r_21_0 : xfetch 21 0 = some (.aload_n 0, 1) := by decide +kernel
theorem n_21_0 : ∀ l, xpr 21 0 l = l := xpr_no (by decide +kernel)
theorem r_21_1 : xfetch 21 1 = some (.getfield 25, 3) := by decide +kernel
theorem n_21_1 : ∀ l, xpr 21 1 l = l := xpr_no (by decide +kernel)
theorem r_21_4 : xfetch 21 4 = some (.bipush 8, 2) := by decide +kernel
theorem n_21_4 : ∀ l, xpr 21 4 l = l := xpr_no (by decide +kernel)
theorem r_21_6 : xfetch 21 6 = some (.if_icmp .lt 4, 3) := by decide +kernel
theorem n_21_6 : ∀ l, xpr 21 6 l = l := xpr_no (by decide +kernel)
theorem r_21_9 : xfetch 21 9 = some (.return_, 1) := by decide +kernel
theorem n_21_9 : ∀ l, xpr 21 9 l = l := xpr_no (by decide +kernel)
theorem r_21_10 : xfetch 21 10 = some (.aload_n 0, 1) := by decide +kernel
theorem n_21_10 : ∀ l, xpr 21 10 l = l := xpr_no (by decide +kernel)
theorem r_21_11 : xfetch 21 11 = some (.getfield 15, 3) := by decide +kernel
theorem n_21_11 : ∀ l, xpr 21 11 l = l := xpr_no (by decide +kernel)
theorem r_21_14 : xfetch 21 14 = some (.aload_n 0, 1) := by decide +kernel
theorem n_21_14 : ∀ l, xpr 21 14 l = l := xpr_no (by decide +kernel)
theorem r_21_15 : xfetch 21 15 = some (.getfield 25, 3) := by decide +kernel
theorem n_21_15 : ∀ l, xpr 21 15 l = l := xpr_no (by decide +kernel)
theorem r_21_18 : xfetch 21 18 = some (.iload_n 1, 1) := by decide +kernel
theorem n_21_18 : ∀ l, xpr 21 18 l = l := xpr_no (by decide +kernel)
theorem r_21_19 : xfetch 21 19 = some (.iastore, 1) := by decide +kernel
theorem n_21_19 : ∀ l, xpr 21 19 l = l := xpr_no (by decide +kernel)
theorem r_21_20 : xfetch 21 20 = some (.aload_n 0, 1) := by decide +kernel
theorem n_21_20 : ∀ l, xpr 21 20 l = l := xpr_no (by decide +kernel)
theorem r_21_21 : xfetch 21 21 = some (.getfield 19, 3) := by decide +kernel
theorem n_21_21 : ∀ l, xpr 21 21 l = l := xpr_no (by decide +kernel)
theorem r_21_24 : xfetch 21 24 = some (.aload_n 0, 1) := by decide +kernel
theorem n_21_24 : ∀ l, xpr 21 24 l = l := xpr_no (by decide +kernel)
theorem r_21_25 : xfetch 21 25 = some (.getfield 25, 3) := by decide +kernel
theorem n_21_25 : ∀ l, xpr 21 25 l = l := xpr_no (by decide +kernel)
theorem r_21_28 : xfetch 21 28 = some (.iload_n 2, 1) := by decide +kernel
theorem n_21_28 : ∀ l, xpr 21 28 l = l := xpr_no (by decide +kernel)
theorem r_21_29 : xfetch 21 29 = some (.iastore, 1) := by decide +kernel
theorem n_21_29 : ∀ l, xpr 21 29 l = l := xpr_no (by decide +kernel)
theorem r_21_30 : xfetch 21 30 = some (.aload_n 0, 1) := by decide +kernel
theorem n_21_30 : ∀ l, xpr 21 30 l = l := xpr_no (by decide +kernel)
theorem r_21_31 : xfetch 21 31 = some (.getfield 22, 3) := by decide +kernel
theorem n_21_31 : ∀ l, xpr 21 31 l = l := xpr_no (by decide +kernel)
theorem r_21_34 : xfetch 21 34 = some (.aload_n 0, 1) := by decide +kernel
theorem n_21_34 : ∀ l, xpr 21 34 l = l := xpr_no (by decide +kernel)
theorem r_21_35 : xfetch 21 35 = some (.getfield 25, 3) := by decide +kernel
theorem n_21_35 : ∀ l, xpr 21 35 l = l := xpr_no (by decide +kernel)
theorem r_21_38 : xfetch 21 38 = some (.iload_n 3, 1) := by decide +kernel
theorem n_21_38 : ∀ l, xpr 21 38 l = l := xpr_no (by decide +kernel)
theorem r_21_39 : xfetch 21 39 = some (.iastore, 1) := by decide +kernel
theorem n_21_39 : ∀ l, xpr 21 39 l = l := xpr_no (by decide +kernel)
theorem r_21_40 : xfetch 21 40 = some (.aload_n 0, 1) := by decide +kernel
theorem n_21_40 : ∀ l, xpr 21 40 l = l := xpr_no (by decide +kernel)
theorem r_21_41 : xfetch 21 41 = some (.dup, 1) := by decide +kernel
theorem n_21_41 : ∀ l, xpr 21 41 l = l := xpr_no (by decide +kernel)
theorem r_21_42 : xfetch 21 42 = some (.getfield 25, 3) := by decide +kernel
theorem n_21_42 : ∀ l, xpr 21 42 l = l := xpr_no (by decide +kernel)
theorem r_21_45 : xfetch 21 45 = some (.iconst 1, 1) := by decide +kernel
theorem n_21_45 : ∀ l, xpr 21 45 l = l := xpr_no (by decide +kernel)
theorem r_21_46 : xfetch 21 46 = some (.iadd, 1) := by decide +kernel
theorem n_21_46 : ∀ l, xpr 21 46 l = l := xpr_no (by decide +kernel)
theorem r_21_47 : xfetch 21 47 = some (.putfield 25, 3) := by decide +kernel
theorem n_21_47 : ∀ l, xpr 21 47 l = l := xpr_no (by decide +kernel)
theorem r_21_50 : xfetch 21 50 = some (.return_, 1) := by decide +kernel
theorem n_21_50 : ∀ l, xpr 21 50 l = l := xpr_no (by decide +kernel)
theorem v_Fields_add_0 {S : Option (Nat × (Nat → Int32))} {s : zSt} {Q : Option Value ⊕ Nat → zSt → Prop} {a0 : Int} {x1 : Int} {x2 : Int} {x3 : Int} (ha0 : isO a0 1)
    (h : ((zI s a0 1) < 8 → (0 ≤ (zI s a0 1) ∧ (zI s a0 1) < 8) ∧ (rng x1 ∧ (rng x2 ∧ (rng x3 ∧ (rng ((zI s a0 1) + 1) ∧ (Q rU (zwI (zwI (zwI (zwI s (a0 + 1) (zI s a0 1) x1) (a0 + 2) (zI s a0 1) x2) (a0 + 3) (zI s a0 1) x3) a0 1 ((zI s a0 1) + 1)))))))) ∧ (8 ≤ (zI s a0 1) → Q rU s)) :
    wp S 21 0 [(0, rf a0), (1, iv x1), (2, iv x2), (3, iv x3)] [] s Q := by
  refine i_aload_n (a := a0) r_21_0 (n_21_0 _) rfl ?_
  refine i_getI (a := a0) r_21_1 (n_21_1 _) rfl (by decide) ha0 (fun q1 => ?_)
  refine i_bipush r_21_4 (n_21_4 _) rfl ?_
  refine i_icmp (t := 10) r_21_6 (n_21_6 _) rfl (T_lt q1 ⟨by omega, by omega⟩) (fun c2 => ?_) (fun c2 => ?_)
  · replace h := h.1 c2
    refine i_aload_n (a := a0) r_21_10 (n_21_10 _) rfl ?_
    refine i_getR (a := a0) (b := a0 + 1) r_21_11 (n_21_11 _) rfl rfl rfl (by omega) ha0 (by omega) ?_
    have t3 := (t_1_2 ha0)
    refine i_aload_n (a := a0) r_21_14 (n_21_14 _) rfl ?_
    refine i_getI (a := a0) r_21_15 (n_21_15 _) rfl (by decide) ha0 (fun q4 => ?_)
    refine i_iload_n (x := x1) r_21_18 (n_21_18 _) rfl ?_
    obtain ⟨g5, h⟩ := h
    obtain ⟨g6, h⟩ := h
    refine i_iastore (a := a0 + 1) (j := zI s a0 1) (x := x1) r_21_19 (n_21_19 _) t3 ⟨by omega, by omega⟩ (by omega) (by omega) g6 ?_
    refine i_aload_n (a := a0) r_21_20 (n_21_20 _) rfl ?_
    refine i_getR (a := a0) (b := a0 + 2) r_21_21 (n_21_21 _) rfl rfl rfl (by omega) ha0 (by omega) ?_
    have t7 := (t_1_3 ha0)
    refine i_aload_n (a := a0) r_21_24 (n_21_24 _) rfl ?_
    have e9 : zI (zwI s (a0 + 1) (zI s a0 1) x1) a0 1 = zI s a0 1 := zI_ne (by omega)
    refine i_getIe (a := a0) (x := zI s a0 1) r_21_25 (n_21_25 _) rfl (by decide) ha0 e9 (fun q8 => ?_)
    refine i_iload_n (x := x2) r_21_28 (n_21_28 _) rfl ?_
    obtain ⟨g10, h⟩ := h
    refine i_iastore (a := a0 + 2) (j := zI s a0 1) (x := x2) r_21_29 (n_21_29 _) t7 ⟨by omega, by omega⟩ (by omega) (by omega) g10 ?_
    refine i_aload_n (a := a0) r_21_30 (n_21_30 _) rfl ?_
    refine i_getR (a := a0) (b := a0 + 3) r_21_31 (n_21_31 _) rfl rfl rfl (by omega) ha0 (by omega) ?_
    have t11 := (t_1_4 ha0)
    refine i_aload_n (a := a0) r_21_34 (n_21_34 _) rfl ?_
    have e13 : zI (zwI (zwI s (a0 + 1) (zI s a0 1) x1) (a0 + 2) (zI s a0 1) x2) a0 1 = zI s a0 1 := (zI_ne (by omega)).trans (zI_ne (by omega))
    refine i_getIe (a := a0) (x := zI s a0 1) r_21_35 (n_21_35 _) rfl (by decide) ha0 e13 (fun q12 => ?_)
    refine i_iload_n (x := x3) r_21_38 (n_21_38 _) rfl ?_
    obtain ⟨g14, h⟩ := h
    refine i_iastore (a := a0 + 3) (j := zI s a0 1) (x := x3) r_21_39 (n_21_39 _) t11 ⟨by omega, by omega⟩ (by omega) (by omega) g14 ?_
    refine i_aload_n (a := a0) r_21_40 (n_21_40 _) rfl ?_
    refine i_dup r_21_41 (n_21_41 _) rfl ?_
    have e16 : zI (zwI (zwI (zwI s (a0 + 1) (zI s a0 1) x1) (a0 + 2) (zI s a0 1) x2) (a0 + 3) (zI s a0 1) x3) a0 1 = zI s a0 1 := (zI_ne (by omega)).trans ((zI_ne (by omega)).trans (zI_ne (by omega)))
    refine i_getIe (a := a0) (x := zI s a0 1) r_21_42 (n_21_42 _) rfl (by decide) ha0 e16 (fun q15 => ?_)
    refine i_iconst r_21_45 (n_21_45 _) ?_
    refine i_iadd r_21_46 (n_21_46 _) ?_
    obtain ⟨g17, h⟩ := h
    refine i_putI (a := a0) (x := (zI s a0 1) + 1) r_21_47 (n_21_47 _) rfl (.inl rfl) rfl ha0 g17 ?_
    exact i_return r_21_50 (n_21_50 _) rfl h
  · replace h := h.2 c2
    exact i_return r_21_9 (n_21_9 _) rfl h
theorem r_22_0 : xfetch 22 0 = some (.aload_n 0, 1) := by decide +kernel
theorem n_22_0 : ∀ l, xpr 22 0 l = l := xpr_no (by decide +kernel)
theorem r_22_1 : xfetch 22 1 = some (.aload_n 1, 1) := by decide +kernel
theorem n_22_1 : ∀ l, xpr 22 1 l = l := xpr_no (by decide +kernel)
theorem r_22_2 : xfetch 22 2 = some (.getfield 7, 3) := by decide +kernel
theorem n_22_2 : ∀ l, xpr 22 2 l = l := xpr_no (by decide +kernel)
theorem r_22_5 : xfetch 22 5 = some (.putfield 7, 3) := by decide +kernel
theorem n_22_5 : ∀ l, xpr 22 5 l = l := xpr_no (by decide +kernel)
theorem r_22_8 : xfetch 22 8 = some (.aload_n 0, 1) := by decide +kernel
theorem n_22_8 : ∀ l, xpr 22 8 l = l := xpr_no (by decide +kernel)
theorem r_22_9 : xfetch 22 9 = some (.aload_n 1, 1) := by decide +kernel
theorem n_22_9 : ∀ l, xpr 22 9 l = l := xpr_no (by decide +kernel)
theorem r_22_10 : xfetch 22 10 = some (.getfield 13, 3) := by decide +kernel
theorem n_22_10 : ∀ l, xpr 22 10 l = l := xpr_no (by decide +kernel)
theorem r_22_13 : xfetch 22 13 = some (.putfield 13, 3) := by decide +kernel
theorem n_22_13 : ∀ l, xpr 22 13 l = l := xpr_no (by decide +kernel)
theorem r_22_16 : xfetch 22 16 = some (.aload_n 0, 1) := by decide +kernel
theorem n_22_16 : ∀ l, xpr 22 16 l = l := xpr_no (by decide +kernel)
theorem r_22_17 : xfetch 22 17 = some (.aload_n 1, 1) := by decide +kernel
theorem n_22_17 : ∀ l, xpr 22 17 l = l := xpr_no (by decide +kernel)
theorem r_22_18 : xfetch 22 18 = some (.getfield 17, 3) := by decide +kernel
theorem n_22_18 : ∀ l, xpr 22 18 l = l := xpr_no (by decide +kernel)
theorem r_22_21 : xfetch 22 21 = some (.putfield 17, 3) := by decide +kernel
theorem n_22_21 : ∀ l, xpr 22 21 l = l := xpr_no (by decide +kernel)
theorem r_22_24 : xfetch 22 24 = some (.aload_n 0, 1) := by decide +kernel
theorem n_22_24 : ∀ l, xpr 22 24 l = l := xpr_no (by decide +kernel)
theorem r_22_25 : xfetch 22 25 = some (.aload_n 1, 1) := by decide +kernel
theorem n_22_25 : ∀ l, xpr 22 25 l = l := xpr_no (by decide +kernel)
theorem r_22_26 : xfetch 22 26 = some (.getfield 20, 3) := by decide +kernel
theorem n_22_26 : ∀ l, xpr 22 26 l = l := xpr_no (by decide +kernel)
theorem r_22_29 : xfetch 22 29 = some (.putfield 20, 3) := by decide +kernel
theorem n_22_29 : ∀ l, xpr 22 29 l = l := xpr_no (by decide +kernel)
theorem r_22_32 : xfetch 22 32 = some (.aload_n 0, 1) := by decide +kernel
theorem n_22_32 : ∀ l, xpr 22 32 l = l := xpr_no (by decide +kernel)
theorem r_22_33 : xfetch 22 33 = some (.aload_n 1, 1) := by decide +kernel
theorem n_22_33 : ∀ l, xpr 22 33 l = l := xpr_no (by decide +kernel)
theorem r_22_34 : xfetch 22 34 = some (.getfield 23, 3) := by decide +kernel
theorem n_22_34 : ∀ l, xpr 22 34 l = l := xpr_no (by decide +kernel)
theorem r_22_37 : xfetch 22 37 = some (.putfield 23, 3) := by decide +kernel
theorem n_22_37 : ∀ l, xpr 22 37 l = l := xpr_no (by decide +kernel)
theorem r_22_40 : xfetch 22 40 = some (.aload_n 0, 1) := by decide +kernel
theorem n_22_40 : ∀ l, xpr 22 40 l = l := xpr_no (by decide +kernel)
theorem r_22_41 : xfetch 22 41 = some (.aload_n 1, 1) := by decide +kernel
theorem n_22_41 : ∀ l, xpr 22 41 l = l := xpr_no (by decide +kernel)
theorem r_22_42 : xfetch 22 42 = some (.getfield 26, 3) := by decide +kernel
theorem n_22_42 : ∀ l, xpr 22 42 l = l := xpr_no (by decide +kernel)
theorem r_22_45 : xfetch 22 45 = some (.putfield 26, 3) := by decide +kernel
theorem n_22_45 : ∀ l, xpr 22 45 l = l := xpr_no (by decide +kernel)
theorem r_22_48 : xfetch 22 48 = some (.aload_n 0, 1) := by decide +kernel
theorem n_22_48 : ∀ l, xpr 22 48 l = l := xpr_no (by decide +kernel)
theorem r_22_49 : xfetch 22 49 = some (.aload_n 1, 1) := by decide +kernel
theorem n_22_49 : ∀ l, xpr 22 49 l = l := xpr_no (by decide +kernel)
theorem r_22_50 : xfetch 22 50 = some (.getfield 29, 3) := by decide +kernel
theorem n_22_50 : ∀ l, xpr 22 50 l = l := xpr_no (by decide +kernel)
theorem r_22_53 : xfetch 22 53 = some (.putfield 29, 3) := by decide +kernel
theorem n_22_53 : ∀ l, xpr 22 53 l = l := xpr_no (by decide +kernel)
theorem r_22_56 : xfetch 22 56 = some (.return_, 1) := by decide +kernel
theorem n_22_56 : ∀ l, xpr 22 56 l = l := xpr_no (by decide +kernel)
theorem v_Table_copyFrom_0 {S : Option (Nat × (Nat → Int32))} {s : zSt} {Q : Option Value ⊕ Nat → zSt → Prop} {a0 : Int} {a1 : Int} (ha0 : isO a0 6) (ha1 : isO a1 6)
    (h : ((zI s a1 0) = 0 ∨ (zI s a1 0) = 1) ∧ (Q rU (zwI (zwI (zwI (zwI (zwI (zwI (zwI s a0 0 (zI s a1 0)) a0 1 (zI (zwI s a0 0 (zI s a1 0)) a1 1)) a0 2 (zI (zwI (zwI s a0 0 (zI s a1 0)) a0 1 (zI (zwI s a0 0 (zI s a1 0)) a1 1)) a1 2)) a0 3 (zI (zwI (zwI (zwI s a0 0 (zI s a1 0)) a0 1 (zI (zwI s a0 0 (zI s a1 0)) a1 1)) a0 2 (zI (zwI (zwI s a0 0 (zI s a1 0)) a0 1 (zI (zwI s a0 0 (zI s a1 0)) a1 1)) a1 2)) a1 3)) a0 4 (zI (zwI (zwI (zwI (zwI s a0 0 (zI s a1 0)) a0 1 (zI (zwI s a0 0 (zI s a1 0)) a1 1)) a0 2 (zI (zwI (zwI s a0 0 (zI s a1 0)) a0 1 (zI (zwI s a0 0 (zI s a1 0)) a1 1)) a1 2)) a0 3 (zI (zwI (zwI (zwI s a0 0 (zI s a1 0)) a0 1 (zI (zwI s a0 0 (zI s a1 0)) a1 1)) a0 2 (zI (zwI (zwI s a0 0 (zI s a1 0)) a0 1 (zI (zwI s a0 0 (zI s a1 0)) a1 1)) a1 2)) a1 3)) a1 4)) a0 5 (zI (zwI (zwI (zwI (zwI (zwI s a0 0 (zI s a1 0)) a0 1 (zI (zwI s a0 0 (zI s a1 0)) a1 1)) a0 2 (zI (zwI (zwI s a0 0 (zI s a1 0)) a0 1 (zI (zwI s a0 0 (zI s a1 0)) a1 1)) a1 2)) a0 3 (zI (zwI (zwI (zwI s a0 0 (zI s a1 0)) a0 1 (zI (zwI s a0 0 (zI s a1 0)) a1 1)) a0 2 (zI (zwI (zwI s a0 0 (zI s a1 0)) a0 1 (zI (zwI s a0 0 (zI s a1 0)) a1 1)) a1 2)) a1 3)) a0 4 (zI (zwI (zwI (zwI (zwI s a0 0 (zI s a1 0)) a0 1 (zI (zwI s a0 0 (zI s a1 0)) a1 1)) a0 2 (zI (zwI (zwI s a0 0 (zI s a1 0)) a0 1 (zI (zwI s a0 0 (zI s a1 0)) a1 1)) a1 2)) a0 3 (zI (zwI (zwI (zwI s a0 0 (zI s a1 0)) a0 1 (zI (zwI s a0 0 (zI s a1 0)) a1 1)) a0 2 (zI (zwI (zwI s a0 0 (zI s a1 0)) a0 1 (zI (zwI s a0 0 (zI s a1 0)) a1 1)) a1 2)) a1 3)) a1 4)) a1 5)) a0 6 (zI (zwI (zwI (zwI (zwI (zwI (zwI s a0 0 (zI s a1 0)) a0 1 (zI (zwI s a0 0 (zI s a1 0)) a1 1)) a0 2 (zI (zwI (zwI s a0 0 (zI s a1 0)) a0 1 (zI (zwI s a0 0 (zI s a1 0)) a1 1)) a1 2)) a0 3 (zI (zwI (zwI (zwI s a0 0 (zI s a1 0)) a0 1 (zI (zwI s a0 0 (zI s a1 0)) a1 1)) a0 2 (zI (zwI (zwI s a0 0 (zI s a1 0)) a0 1 (zI (zwI s a0 0 (zI s a1 0)) a1 1)) a1 2)) a1 3)) a0 4 (zI (zwI (zwI (zwI (zwI s a0 0 (zI s a1 0)) a0 1 (zI (zwI s a0 0 (zI s a1 0)) a1 1)) a0 2 (zI (zwI (zwI s a0 0 (zI s a1 0)) a0 1 (zI (zwI s a0 0 (zI s a1 0)) a1 1)) a1 2)) a0 3 (zI (zwI (zwI (zwI s a0 0 (zI s a1 0)) a0 1 (zI (zwI s a0 0 (zI s a1 0)) a1 1)) a0 2 (zI (zwI (zwI s a0 0 (zI s a1 0)) a0 1 (zI (zwI s a0 0 (zI s a1 0)) a1 1)) a1 2)) a1 3)) a1 4)) a0 5 (zI (zwI (zwI (zwI (zwI (zwI s a0 0 (zI s a1 0)) a0 1 (zI (zwI s a0 0 (zI s a1 0)) a1 1)) a0 2 (zI (zwI (zwI s a0 0 (zI s a1 0)) a0 1 (zI (zwI s a0 0 (zI s a1 0)) a1 1)) a1 2)) a0 3 (zI (zwI (zwI (zwI s a0 0 (zI s a1 0)) a0 1 (zI (zwI s a0 0 (zI s a1 0)) a1 1)) a0 2 (zI (zwI (zwI s a0 0 (zI s a1 0)) a0 1 (zI (zwI s a0 0 (zI s a1 0)) a1 1)) a1 2)) a1 3)) a0 4 (zI (zwI (zwI (zwI (zwI s a0 0 (zI s a1 0)) a0 1 (zI (zwI s a0 0 (zI s a1 0)) a1 1)) a0 2 (zI (zwI (zwI s a0 0 (zI s a1 0)) a0 1 (zI (zwI s a0 0 (zI s a1 0)) a1 1)) a1 2)) a0 3 (zI (zwI (zwI (zwI s a0 0 (zI s a1 0)) a0 1 (zI (zwI s a0 0 (zI s a1 0)) a1 1)) a0 2 (zI (zwI (zwI s a0 0 (zI s a1 0)) a0 1 (zI (zwI s a0 0 (zI s a1 0)) a1 1)) a1 2)) a1 3)) a1 4)) a1 5)) a1 6)))) :
    wp S 22 0 [(0, rf a0), (1, rf a1)] [] s Q := by
  refine i_aload_n (a := a0) r_22_0 (n_22_0 _) rfl ?_
  refine i_aload_n (a := a1) r_22_1 (n_22_1 _) rfl ?_
  refine i_getI (a := a1) r_22_2 (n_22_2 _) rfl (by decide) ha1 (fun q1 => ?_)
  obtain ⟨g2, h⟩ := h
  refine i_putI (a := a0) (x := zI s a1 0) r_22_5 (n_22_5 _) rfl (.inr ⟨rfl, g2⟩) rfl ha0 q1 ?_
  refine i_aload_n (a := a0) r_22_8 (n_22_8 _) rfl ?_
  refine i_aload_n (a := a1) r_22_9 (n_22_9 _) rfl ?_
  refine i_getI (a := a1) r_22_10 (n_22_10 _) rfl (by decide) ha1 (fun q3 => ?_)
  refine i_putI (a := a0) (x := zI (zwI s a0 0 (zI s a1 0)) a1 1) r_22_13 (n_22_13 _) rfl (.inl rfl) rfl ha0 q3 ?_
  refine i_aload_n (a := a0) r_22_16 (n_22_16 _) rfl ?_
  refine i_aload_n (a := a1) r_22_17 (n_22_17 _) rfl ?_
  refine i_getI (a := a1) r_22_18 (n_22_18 _) rfl (by decide) ha1 (fun q4 => ?_)
  refine i_putI (a := a0) (x := zI (zwI (zwI s a0 0 (zI s a1 0)) a0 1 (zI (zwI s a0 0 (zI s a1 0)) a1 1)) a1 2) r_22_21 (n_22_21 _) rfl (.inl rfl) rfl ha0 q4 ?_
  refine i_aload_n (a := a0) r_22_24 (n_22_24 _) rfl ?_
  refine i_aload_n (a := a1) r_22_25 (n_22_25 _) rfl ?_
  refine i_getI (a := a1) r_22_26 (n_22_26 _) rfl (by decide) ha1 (fun q5 => ?_)
  refine i_putI (a := a0) (x := zI (zwI (zwI (zwI s a0 0 (zI s a1 0)) a0 1 (zI (zwI s a0 0 (zI s a1 0)) a1 1)) a0 2 (zI (zwI (zwI s a0 0 (zI s a1 0)) a0 1 (zI (zwI s a0 0 (zI s a1 0)) a1 1)) a1 2)) a1 3) r_22_29 (n_22_29 _) rfl (.inl rfl) rfl ha0 q5 ?_
  refine i_aload_n (a := a0) r_22_32 (n_22_32 _) rfl ?_
  refine i_aload_n (a := a1) r_22_33 (n_22_33 _) rfl ?_
  refine i_getI (a := a1) r_22_34 (n_22_34 _) rfl (by decide) ha1 (fun q6 => ?_)
  refine i_putI (a := a0) (x := zI (zwI (zwI (zwI (zwI s a0 0 (zI s a1 0)) a0 1 (zI (zwI s a0 0 (zI s a1 0)) a1 1)) a0 2 (zI (zwI (zwI s a0 0 (zI s a1 0)) a0 1 (zI (zwI s a0 0 (zI s a1 0)) a1 1)) a1 2)) a0 3 (zI (zwI (zwI (zwI s a0 0 (zI s a1 0)) a0 1 (zI (zwI s a0 0 (zI s a1 0)) a1 1)) a0 2 (zI (zwI (zwI s a0 0 (zI s a1 0)) a0 1 (zI (zwI s a0 0 (zI s a1 0)) a1 1)) a1 2)) a1 3)) a1 4) r_22_37 (n_22_37 _) rfl (.inl rfl) rfl ha0 q6 ?_
  refine i_aload_n (a := a0) r_22_40 (n_22_40 _) rfl ?_
  refine i_aload_n (a := a1) r_22_41 (n_22_41 _) rfl ?_
  refine i_getI (a := a1) r_22_42 (n_22_42 _) rfl (by decide) ha1 (fun q7 => ?_)
  refine i_putI (a := a0) (x := zI (zwI (zwI (zwI (zwI (zwI s a0 0 (zI s a1 0)) a0 1 (zI (zwI s a0 0 (zI s a1 0)) a1 1)) a0 2 (zI (zwI (zwI s a0 0 (zI s a1 0)) a0 1 (zI (zwI s a0 0 (zI s a1 0)) a1 1)) a1 2)) a0 3 (zI (zwI (zwI (zwI s a0 0 (zI s a1 0)) a0 1 (zI (zwI s a0 0 (zI s a1 0)) a1 1)) a0 2 (zI (zwI (zwI s a0 0 (zI s a1 0)) a0 1 (zI (zwI s a0 0 (zI s a1 0)) a1 1)) a1 2)) a1 3)) a0 4 (zI (zwI (zwI (zwI (zwI s a0 0 (zI s a1 0)) a0 1 (zI (zwI s a0 0 (zI s a1 0)) a1 1)) a0 2 (zI (zwI (zwI s a0 0 (zI s a1 0)) a0 1 (zI (zwI s a0 0 (zI s a1 0)) a1 1)) a1 2)) a0 3 (zI (zwI (zwI (zwI s a0 0 (zI s a1 0)) a0 1 (zI (zwI s a0 0 (zI s a1 0)) a1 1)) a0 2 (zI (zwI (zwI s a0 0 (zI s a1 0)) a0 1 (zI (zwI s a0 0 (zI s a1 0)) a1 1)) a1 2)) a1 3)) a1 4)) a1 5) r_22_45 (n_22_45 _) rfl (.inl rfl) rfl ha0 q7 ?_
  refine i_aload_n (a := a0) r_22_48 (n_22_48 _) rfl ?_
  refine i_aload_n (a := a1) r_22_49 (n_22_49 _) rfl ?_
  refine i_getI (a := a1) r_22_50 (n_22_50 _) rfl (by decide) ha1 (fun q8 => ?_)
  refine i_putI (a := a0) (x := zI (zwI (zwI (zwI (zwI (zwI (zwI s a0 0 (zI s a1 0)) a0 1 (zI (zwI s a0 0 (zI s a1 0)) a1 1)) a0 2 (zI (zwI (zwI s a0 0 (zI s a1 0)) a0 1 (zI (zwI s a0 0 (zI s a1 0)) a1 1)) a1 2)) a0 3 (zI (zwI (zwI (zwI s a0 0 (zI s a1 0)) a0 1 (zI (zwI s a0 0 (zI s a1 0)) a1 1)) a0 2 (zI (zwI (zwI s a0 0 (zI s a1 0)) a0 1 (zI (zwI s a0 0 (zI s a1 0)) a1 1)) a1 2)) a1 3)) a0 4 (zI (zwI (zwI (zwI (zwI s a0 0 (zI s a1 0)) a0 1 (zI (zwI s a0 0 (zI s a1 0)) a1 1)) a0 2 (zI (zwI (zwI s a0 0 (zI s a1 0)) a0 1 (zI (zwI s a0 0 (zI s a1 0)) a1 1)) a1 2)) a0 3 (zI (zwI (zwI (zwI s a0 0 (zI s a1 0)) a0 1 (zI (zwI s a0 0 (zI s a1 0)) a1 1)) a0 2 (zI (zwI (zwI s a0 0 (zI s a1 0)) a0 1 (zI (zwI s a0 0 (zI s a1 0)) a1 1)) a1 2)) a1 3)) a1 4)) a0 5 (zI (zwI (zwI (zwI (zwI (zwI s a0 0 (zI s a1 0)) a0 1 (zI (zwI s a0 0 (zI s a1 0)) a1 1)) a0 2 (zI (zwI (zwI s a0 0 (zI s a1 0)) a0 1 (zI (zwI s a0 0 (zI s a1 0)) a1 1)) a1 2)) a0 3 (zI (zwI (zwI (zwI s a0 0 (zI s a1 0)) a0 1 (zI (zwI s a0 0 (zI s a1 0)) a1 1)) a0 2 (zI (zwI (zwI s a0 0 (zI s a1 0)) a0 1 (zI (zwI s a0 0 (zI s a1 0)) a1 1)) a1 2)) a1 3)) a0 4 (zI (zwI (zwI (zwI (zwI s a0 0 (zI s a1 0)) a0 1 (zI (zwI s a0 0 (zI s a1 0)) a1 1)) a0 2 (zI (zwI (zwI s a0 0 (zI s a1 0)) a0 1 (zI (zwI s a0 0 (zI s a1 0)) a1 1)) a1 2)) a0 3 (zI (zwI (zwI (zwI s a0 0 (zI s a1 0)) a0 1 (zI (zwI s a0 0 (zI s a1 0)) a1 1)) a0 2 (zI (zwI (zwI s a0 0 (zI s a1 0)) a0 1 (zI (zwI s a0 0 (zI s a1 0)) a1 1)) a1 2)) a1 3)) a1 4)) a1 5)) a1 6) r_22_53 (n_22_53 _) rfl (.inl rfl) rfl ha0 q8 ?_
  exact i_return r_22_56 (n_22_56 _) rfl h
theorem r_23_0 : xfetch 23 0 = some (.aconst_null, 1) := by decide +kernel
theorem n_23_0 : ∀ l, xpr 23 0 l = l := xpr_no (by decide +kernel)
theorem r_23_1 : xfetch 23 1 = some (.astore_n 2, 1) := by decide +kernel
theorem n_23_1 : ∀ l, xpr 23 1 l = l := xpr_no (by decide +kernel)
theorem r_23_2 : xfetch 23 2 = some (.iconst 0, 1) := by decide +kernel
theorem n_23_2 : ∀ l, xpr 23 2 l = l := xpr_no (by decide +kernel)
theorem r_23_3 : xfetch 23 3 = some (.istore_n 3, 1) := by decide +kernel
theorem n_23_3 : ∀ l, xpr 23 3 l = l := xpr_no (by decide +kernel)
theorem r_23_4 : xfetch 23 4 = some (.iload_n 3, 1) := by decide +kernel
theorem r_23_5 : xfetch 23 5 = some (.iconst 3, 1) := by decide +kernel
theorem n_23_5 : ∀ l, xpr 23 5 l = l := xpr_no (by decide +kernel)
theorem r_23_6 : xfetch 23 6 = some (.if_icmp .ge 56, 3) := by decide +kernel
theorem n_23_6 : ∀ l, xpr 23 6 l = l := xpr_no (by decide +kernel)
theorem r_23_9 : xfetch 23 9 = some (.aload_n 0, 1) := by decide +kernel
theorem n_23_9 : ∀ l, xpr 23 9 l = l := xpr_no (by decide +kernel)
theorem r_23_10 : xfetch 23 10 = some (.getfield 10, 3) := by decide +kernel
theorem n_23_10 : ∀ l, xpr 23 10 l = l := xpr_no (by decide +kernel)
theorem r_23_13 : xfetch 23 13 = some (.getfield 256, 3) := by decide +kernel
theorem n_23_13 : ∀ l, xpr 23 13 l = l := xpr_no (by decide +kernel)
theorem r_23_16 : xfetch 23 16 = some (.iload_n 3, 1) := by decide +kernel
theorem n_23_16 : ∀ l, xpr 23 16 l = l := xpr_no (by decide +kernel)
theorem r_23_17 : xfetch 23 17 = some (.aaload, 1) := by decide +kernel
theorem n_23_17 : ∀ l, xpr 23 17 l = l := xpr_no (by decide +kernel)
theorem r_23_18 : xfetch 23 18 = some (.astore 4, 2) := by decide +kernel
theorem n_23_18 : ∀ l, xpr 23 18 l = l := xpr_no (by decide +kernel)
theorem r_23_20 : xfetch 23 20 = some (.aload 4, 2) := by decide +kernel
theorem n_23_20 : ∀ l, xpr 23 20 l = l := xpr_no (by decide +kernel)
theorem r_23_22 : xfetch 23 22 = some (.getfield 260, 3) := by decide +kernel
theorem n_23_22 : ∀ l, xpr 23 22 l = l := xpr_no (by decide +kernel)
theorem r_23_25 : xfetch 23 25 = some (.ifCond .eq 31, 3) := by decide +kernel
theorem n_23_25 : ∀ l, xpr 23 25 l = l := xpr_no (by decide +kernel)
theorem r_23_28 : xfetch 23 28 = some (.aload 4, 2) := by decide +kernel
theorem n_23_28 : ∀ l, xpr 23 28 l = l := xpr_no (by decide +kernel)
theorem r_23_30 : xfetch 23 30 = some (.getfield 277, 3) := by decide +kernel
theorem n_23_30 : ∀ l, xpr 23 30 l = l := xpr_no (by decide +kernel)
theorem r_23_33 : xfetch 23 33 = some (.iload_n 1, 1) := by decide +kernel
theorem n_23_33 : ∀ l, xpr 23 33 l = l := xpr_no (by decide +kernel)
theorem r_23_34 : xfetch 23 34 = some (.if_icmp .lt 22, 3) := by decide +kernel
theorem n_23_34 : ∀ l, xpr 23 34 l = l := xpr_no (by decide +kernel)
theorem r_23_37 : xfetch 23 37 = some (.aload_n 2, 1) := by decide +kernel
theorem n_23_37 : ∀ l, xpr 23 37 l = l := xpr_no (by decide +kernel)
theorem r_23_38 : xfetch 23 38 = some (.ifnull 15, 3) := by decide +kernel
theorem n_23_38 : ∀ l, xpr 23 38 l = l := xpr_no (by decide +kernel)
theorem r_23_41 : xfetch 23 41 = some (.aload 4, 2) := by decide +kernel
theorem n_23_41 : ∀ l, xpr 23 41 l = l := xpr_no (by decide +kernel)
theorem r_23_43 : xfetch 23 43 = some (.getfield 277, 3) := by decide +kernel
theorem n_23_43 : ∀ l, xpr 23 43 l = l := xpr_no (by decide +kernel)
theorem r_23_46 : xfetch 23 46 = some (.aload_n 2, 1) := by decide +kernel
theorem n_23_46 : ∀ l, xpr 23 46 l = l := xpr_no (by decide +kernel)
theorem r_23_47 : xfetch 23 47 = some (.getfield 277, 3) := by decide +kernel
theorem n_23_47 : ∀ l, xpr 23 47 l = l := xpr_no (by decide +kernel)
theorem r_23_50 : xfetch 23 50 = some (.if_icmp .ge 6, 3) := by decide +kernel
theorem n_23_50 : ∀ l, xpr 23 50 l = l := xpr_no (by decide +kernel)
theorem r_23_53 : xfetch 23 53 = some (.aload 4, 2) := by decide +kernel
theorem n_23_53 : ∀ l, xpr 23 53 l = l := xpr_no (by decide +kernel)
theorem r_23_55 : xfetch 23 55 = some (.astore_n 2, 1) := by decide +kernel
theorem n_23_55 : ∀ l, xpr 23 55 l = l := xpr_no (by decide +kernel)
theorem r_23_56 : xfetch 23 56 = some (.iinc 3 1, 3) := by decide +kernel
theorem n_23_56 : ∀ l, xpr 23 56 l = l := xpr_no (by decide +kernel)
theorem r_23_59 : xfetch 23 59 = some (.goto (-55), 3) := by decide +kernel
theorem n_23_59 : ∀ l, xpr 23 59 l = l := xpr_no (by decide +kernel)
theorem r_23_62 : xfetch 23 62 = some (.aload_n 2, 1) := by decide +kernel
theorem n_23_62 : ∀ l, xpr 23 62 l = l := xpr_no (by decide +kernel)
theorem r_23_63 : xfetch 23 63 = some (.areturn, 1) := by decide +kernel
theorem n_23_63 : ∀ l, xpr 23 63 l = l := xpr_no (by decide +kernel)
theorem v_RL_firstTableFrom_0 {S : Option (Nat × (Nat → Int32))} {s : zSt} {Q : Option Value ⊕ Nat → zSt → Prop} {x1 : Int} 
    (h : wp S 23 4 [(0, rf 2), (1, iv x1), (2, .null), (3, iv 0)] [] s Q) :
    wp S 23 0 [(0, rf 2), (1, iv x1)] [] s Q := by
  refine i_null r_23_0 (n_23_0 _) ?_
  refine i_astore0_n (l' := [(0, rf 2), (1, iv x1), (2, .null)]) r_23_1 (n_23_1 _) (by decide) rfl ?_
  refine i_iconst r_23_2 (n_23_2 _) ?_
  refine i_istore_n (l' := [(0, rf 2), (1, iv x1), (2, .null), (3, iv 0)]) r_23_3 (n_23_3 _) (by decide) rfl ?_
  exact wp_pr (l' := [(0, rf 2), (1, iv x1), (2, .null), (3, iv 0)]) rfl h
theorem v_RL_firstTableFrom_4 {S : Option (Nat × (Nat → Int32))} {s : zSt} {Q : Option Value ⊕ Nat → zSt → Prop} {x1 : Int} {a2 : Int} {x3 : Int} (ha2 : 0 ≤ a2 → isO a2 6)
    (h : rng x3 ∧ ((3 ≤ x3 → Q (.inl (some (orf a2))) s) ∧ (x3 < 3 → (0 ≤ x3 ∧ x3 < 3) ∧ (((zI s (31 + x3) 0) = 0 → wp S 23 4 [(0, rf 2), (1, iv x1), (2, orf a2), (3, iv (x3 + 1))] [] s Q) ∧ ((zI s (31 + x3) 0) ≠ 0 → rng x1 ∧ (((zI s (31 + x3) 5) < x1 → wp S 23 4 [(0, rf 2), (1, iv x1), (2, orf a2), (3, iv (x3 + 1))] [] s Q) ∧ (x1 ≤ (zI s (31 + x3) 5) → (a2 < 0 → wp S 23 4 [(0, rf 2), (1, iv x1), (2, rf (31 + x3)), (3, iv (x3 + 1))] [] s Q) ∧ (0 ≤ a2 → ((zI s a2 5) ≤ (zI s (31 + x3) 5) → wp S 23 4 [(0, rf 2), (1, iv x1), (2, rf a2), (3, iv (x3 + 1))] [] s Q) ∧ ((zI s (31 + x3) 5) < (zI s a2 5) → wp S 23 4 [(0, rf 2), (1, iv x1), (2, rf (31 + x3)), (3, iv (x3 + 1))] [] s Q))))))))) :
    wp S 23 4 [(0, rf 2), (1, iv x1), (2, orf a2), (3, iv x3)] [] s Q := by
  refine i_iload_n (x := x3) r_23_4 rfl rfl ?_
  refine i_iconst r_23_5 (n_23_5 _) ?_
  obtain ⟨g1, h⟩ := h
  refine i_icmp (t := 62) r_23_6 (n_23_6 _) rfl (T_ge g1 ⟨by omega, by omega⟩) (fun c2 => ?_) (fun c2 => ?_)
  · replace h := h.1 c2
    refine i_aloadN_n (a := a2) r_23_62 (n_23_62 _) rfl ?_
    exact i_Nreturn r_23_63 (n_23_63 _) rfl h
  · replace h := h.2 c2
    refine i_aload_n (a := 2) r_23_9 (n_23_9 _) rfl ?_
    refine i_getR (a := 2) (b := 3) r_23_10 (n_23_10 _) rfl rfl rfl (by omega) lf_2 (by omega) ?_
    refine i_getR (a := 3) (b := 5) r_23_13 (n_23_13 _) rfl rfl rfl (by omega) lf_3 (by omega) ?_
    refine i_iload_n (x := x3) r_23_16 (n_23_16 _) rfl ?_
    obtain ⟨g3, h⟩ := h
    refine i_aaload (c := 6) (a := 5) (j := x3) (b := 31 + x3) r_23_17 (n_23_17 _) lf_5 ⟨by omega, by omega⟩ (by omega) (by omega) rfl (by omega) ?_
    have t4 := e_6 (j := x3) lf_5 (by omega) (by omega)
    rw [show 5 + 26 + 1 * x3 = 31 + x3 by omega] at t4
    refine i_astore (l' := [(0, rf 2), (1, iv x1), (2, orf a2), (3, iv x3), (4, rf (31 + x3))]) r_23_18 (n_23_18 _) (by decide) rfl ?_
    refine i_aload (a := 31 + x3) r_23_20 (n_23_20 _) rfl ?_
    refine i_getI (a := 31 + x3) r_23_22 (n_23_22 _) rfl (by decide) t4 (fun q5 => ?_)
    refine i_if (t := 56) r_23_25 (n_23_25 _) rfl (T_eq q5 ⟨by omega, by omega⟩) (fun c6 => ?_) (fun c6 => ?_)
    · replace h := h.1 c6
      refine i_iinc (x := x3) (l' := [(0, rf 2), (1, iv x1), (2, orf a2), (3, iv (x3 + 1)), (4, rf (31 + x3))]) r_23_56 (n_23_56 _) (by decide) rfl (by rcases Int.lt_or_le a2 0 with z | z <;> first | (rw [orf_neg z]; done) | (rw [orf_pos z]; done) | (rw [orf_neg z]; rfl) | (rw [orf_pos z]; rfl)) ?_
      refine i_goto (t := 4) r_23_59 (n_23_59 _) rfl ?_
      exact wp_pr (l' := [(0, rf 2), (1, iv x1), (2, orf a2), (3, iv (x3 + 1))]) rfl h
    · replace h := h.2 c6
      refine i_aload (a := 31 + x3) r_23_28 (n_23_28 _) rfl ?_
      refine i_getI (a := 31 + x3) r_23_30 (n_23_30 _) rfl (by decide) t4 (fun q7 => ?_)
      refine i_iload_n (x := x1) r_23_33 (n_23_33 _) rfl ?_
      obtain ⟨g8, h⟩ := h
      refine i_icmp (t := 56) r_23_34 (n_23_34 _) rfl (T_lt q7 g8) (fun c9 => ?_) (fun c9 => ?_)
      · replace h := h.1 c9
        refine i_iinc (x := x3) (l' := [(0, rf 2), (1, iv x1), (2, orf a2), (3, iv (x3 + 1)), (4, rf (31 + x3))]) r_23_56 (n_23_56 _) (by decide) rfl (by rcases Int.lt_or_le a2 0 with z | z <;> first | (rw [orf_neg z]; done) | (rw [orf_pos z]; done) | (rw [orf_neg z]; rfl) | (rw [orf_pos z]; rfl)) ?_
        refine i_goto (t := 4) r_23_59 (n_23_59 _) rfl ?_
        exact wp_pr (l' := [(0, rf 2), (1, iv x1), (2, orf a2), (3, iv (x3 + 1))]) rfl h
      · replace h := h.2 c9
        refine i_aloadN_n (a := a2) r_23_37 (n_23_37 _) rfl ?_
        refine i_ifnull (t := 53) r_23_38 (n_23_38 _) rfl (fun c10 => ?_) (fun c10 => ?_)
        · replace h := h.1 c10
          refine i_aload (a := 31 + x3) r_23_53 (n_23_53 _) rfl ?_
          refine i_astore_n (l' := [(0, rf 2), (1, iv x1), (2, rf (31 + x3)), (3, iv x3), (4, rf (31 + x3))]) r_23_55 (n_23_55 _) (by decide) rfl ?_
          refine i_iinc (x := x3) (l' := [(0, rf 2), (1, iv x1), (2, rf (31 + x3)), (3, iv (x3 + 1)), (4, rf (31 + x3))]) r_23_56 (n_23_56 _) (by decide) rfl rfl ?_
          refine i_goto (t := 4) r_23_59 (n_23_59 _) rfl ?_
          exact wp_pr (l' := [(0, rf 2), (1, iv x1), (2, rf (31 + x3)), (3, iv (x3 + 1))]) rfl h
        · replace h := h.2 c10
          rw [show [(0, rf 2), (1, iv x1), (2, orf a2), (3, iv x3), (4, rf (31 + x3))] = [(0, rf 2), (1, iv x1), (2, rf a2), (3, iv x3), (4, rf (31 + x3))] by rw [orf_pos c10]]
          refine i_aload (a := 31 + x3) r_23_41 (n_23_41 _) rfl ?_
          refine i_getI (a := 31 + x3) r_23_43 (n_23_43 _) rfl (by decide) t4 (fun q11 => ?_)
          refine i_aload_n (a := a2) r_23_46 (n_23_46 _) rfl ?_
          refine i_getI (a := a2) r_23_47 (n_23_47 _) rfl (by decide) (ha2 c10) (fun q12 => ?_)
          refine i_icmp (t := 56) r_23_50 (n_23_50 _) rfl (T_ge q11 q12) (fun c13 => ?_) (fun c13 => ?_)
          · replace h := h.1 c13
            refine i_iinc (x := x3) (l' := [(0, rf 2), (1, iv x1), (2, rf a2), (3, iv (x3 + 1)), (4, rf (31 + x3))]) r_23_56 (n_23_56 _) (by decide) rfl rfl ?_
            refine i_goto (t := 4) r_23_59 (n_23_59 _) rfl ?_
            exact wp_pr (l' := [(0, rf 2), (1, iv x1), (2, rf a2), (3, iv (x3 + 1))]) rfl h
          · replace h := h.2 c13
            refine i_aload (a := 31 + x3) r_23_53 (n_23_53 _) rfl ?_
            refine i_astore_n (l' := [(0, rf 2), (1, iv x1), (2, rf (31 + x3)), (3, iv x3), (4, rf (31 + x3))]) r_23_55 (n_23_55 _) (by decide) rfl ?_
            refine i_iinc (x := x3) (l' := [(0, rf 2), (1, iv x1), (2, rf (31 + x3)), (3, iv (x3 + 1)), (4, rf (31 + x3))]) r_23_56 (n_23_56 _) (by decide) rfl rfl ?_
            refine i_goto (t := 4) r_23_59 (n_23_59 _) rfl ?_
            exact wp_pr (l' := [(0, rf 2), (1, iv x1), (2, rf (31 + x3)), (3, iv (x3 + 1))]) rfl h
theorem r_25_0 : xfetch 25 0 = some (.iload_n 1, 1) := by decide +kernel
theorem n_25_0 : ∀ l, xpr 25 0 l = l := xpr_no (by decide +kernel)
theorem r_25_1 : xfetch 25 1 = some (.ifCond .lt 7, 3) := by decide +kernel
theorem n_25_1 : ∀ l, xpr 25 1 l = l := xpr_no (by decide +kernel)
theorem r_25_4 : xfetch 25 4 = some (.iload_n 2, 1) := by decide +kernel
theorem n_25_4 : ∀ l, xpr 25 4 l = l := xpr_no (by decide +kernel)
theorem r_25_5 : xfetch 25 5 = some (.ifCond .ge 4, 3) := by decide +kernel
theorem n_25_5 : ∀ l, xpr 25 5 l = l := xpr_no (by decide +kernel)
theorem r_25_8 : xfetch 25 8 = some (.return_, 1) := by decide +kernel
theorem n_25_8 : ∀ l, xpr 25 8 l = l := xpr_no (by decide +kernel)
theorem r_25_9 : xfetch 25 9 = some (.iconst 0, 1) := by decide +kernel
theorem n_25_9 : ∀ l, xpr 25 9 l = l := xpr_no (by decide +kernel)
theorem r_25_10 : xfetch 25 10 = some (.istore 4, 2) := by decide +kernel
theorem n_25_10 : ∀ l, xpr 25 10 l = l := xpr_no (by decide +kernel)
theorem r_25_12 : xfetch 25 12 = some (.iload 4, 2) := by decide +kernel
theorem r_25_14 : xfetch 25 14 = some (.iload_n 3, 1) := by decide +kernel
theorem n_25_14 : ∀ l, xpr 25 14 l = l := xpr_no (by decide +kernel)
theorem r_25_15 : xfetch 25 15 = some (.if_icmp .ge 53, 3) := by decide +kernel
theorem n_25_15 : ∀ l, xpr 25 15 l = l := xpr_no (by decide +kernel)
theorem r_25_18 : xfetch 25 18 = some (.iload_n 1, 1) := by decide +kernel
theorem n_25_18 : ∀ l, xpr 25 18 l = l := xpr_no (by decide +kernel)
theorem r_25_19 : xfetch 25 19 = some (.iload 4, 2) := by decide +kernel
theorem n_25_19 : ∀ l, xpr 25 19 l = l := xpr_no (by decide +kernel)
theorem r_25_21 : xfetch 25 21 = some (.iadd, 1) := by decide +kernel
theorem n_25_21 : ∀ l, xpr 25 21 l = l := xpr_no (by decide +kernel)
theorem r_25_22 : xfetch 25 22 = some (.sipush 1024, 3) := by decide +kernel
theorem n_25_22 : ∀ l, xpr 25 22 l = l := xpr_no (by decide +kernel)
theorem r_25_25 : xfetch 25 25 = some (.if_icmp .ge 43, 3) := by decide +kernel
theorem n_25_25 : ∀ l, xpr 25 25 l = l := xpr_no (by decide +kernel)
theorem r_25_28 : xfetch 25 28 = some (.iload_n 2, 1) := by decide +kernel
theorem n_25_28 : ∀ l, xpr 25 28 l = l := xpr_no (by decide +kernel)
theorem r_25_29 : xfetch 25 29 = some (.iload 4, 2) := by decide +kernel
theorem n_25_29 : ∀ l, xpr 25 29 l = l := xpr_no (by decide +kernel)
theorem r_25_31 : xfetch 25 31 = some (.iadd, 1) := by decide +kernel
theorem n_25_31 : ∀ l, xpr 25 31 l = l := xpr_no (by decide +kernel)
theorem r_25_32 : xfetch 25 32 = some (.sipush 1024, 3) := by decide +kernel
theorem n_25_32 : ∀ l, xpr 25 32 l = l := xpr_no (by decide +kernel)
theorem r_25_35 : xfetch 25 35 = some (.if_icmp .ge 33, 3) := by decide +kernel
theorem n_25_35 : ∀ l, xpr 25 35 l = l := xpr_no (by decide +kernel)
theorem r_25_38 : xfetch 25 38 = some (.aload_n 0, 1) := by decide +kernel
theorem n_25_38 : ∀ l, xpr 25 38 l = l := xpr_no (by decide +kernel)
theorem r_25_39 : xfetch 25 39 = some (.getfield 10, 3) := by decide +kernel
theorem n_25_39 : ∀ l, xpr 25 39 l = l := xpr_no (by decide +kernel)
theorem r_25_42 : xfetch 25 42 = some (.getfield 299, 3) := by decide +kernel
theorem n_25_42 : ∀ l, xpr 25 42 l = l := xpr_no (by decide +kernel)
theorem r_25_45 : xfetch 25 45 = some (.iload_n 2, 1) := by decide +kernel
theorem n_25_45 : ∀ l, xpr 25 45 l = l := xpr_no (by decide +kernel)
theorem r_25_46 : xfetch 25 46 = some (.iload 4, 2) := by decide +kernel
theorem n_25_46 : ∀ l, xpr 25 46 l = l := xpr_no (by decide +kernel)
theorem r_25_48 : xfetch 25 48 = some (.iadd, 1) := by decide +kernel
theorem n_25_48 : ∀ l, xpr 25 48 l = l := xpr_no (by decide +kernel)
theorem r_25_49 : xfetch 25 49 = some (.aload_n 0, 1) := by decide +kernel
theorem n_25_49 : ∀ l, xpr 25 49 l = l := xpr_no (by decide +kernel)
theorem r_25_50 : xfetch 25 50 = some (.getfield 10, 3) := by decide +kernel
theorem n_25_50 : ∀ l, xpr 25 50 l = l := xpr_no (by decide +kernel)
theorem r_25_53 : xfetch 25 53 = some (.getfield 299, 3) := by decide +kernel
theorem n_25_53 : ∀ l, xpr 25 53 l = l := xpr_no (by decide +kernel)
theorem r_25_56 : xfetch 25 56 = some (.iload_n 1, 1) := by decide +kernel
theorem n_25_56 : ∀ l, xpr 25 56 l = l := xpr_no (by decide +kernel)
theorem r_25_57 : xfetch 25 57 = some (.iload 4, 2) := by decide +kernel
theorem n_25_57 : ∀ l, xpr 25 57 l = l := xpr_no (by decide +kernel)
theorem r_25_59 : xfetch 25 59 = some (.iadd, 1) := by decide +kernel
theorem n_25_59 : ∀ l, xpr 25 59 l = l := xpr_no (by decide +kernel)
theorem r_25_60 : xfetch 25 60 = some (.baload, 1) := by decide +kernel
theorem n_25_60 : ∀ l, xpr 25 60 l = l := xpr_no (by decide +kernel)
theorem r_25_61 : xfetch 25 61 = some (.bastore, 1) := by decide +kernel
theorem n_25_61 : ∀ l, xpr 25 61 l = l := xpr_no (by decide +kernel)
theorem r_25_62 : xfetch 25 62 = some (.iinc 4 1, 3) := by decide +kernel
theorem n_25_62 : ∀ l, xpr 25 62 l = l := xpr_no (by decide +kernel)
theorem r_25_65 : xfetch 25 65 = some (.goto (-53), 3) := by decide +kernel
theorem n_25_65 : ∀ l, xpr 25 65 l = l := xpr_no (by decide +kernel)
theorem r_25_68 : xfetch 25 68 = some (.return_, 1) := by decide +kernel
theorem n_25_68 : ∀ l, xpr 25 68 l = l := xpr_no (by decide +kernel)
theorem v_RL_copyMemory_0 {S : Option (Nat × (Nat → Int32))} {s : zSt} {Q : Option Value ⊕ Nat → zSt → Prop} {x1 : Int} {x2 : Int} {x3 : Int} 
    (h : rng x1 ∧ ((x1 < 0 → Q rU s) ∧ (0 ≤ x1 → rng x2 ∧ ((0 ≤ x2 → wp S 25 12 [(0, rf 2), (1, iv x1), (2, iv x2), (3, iv x3), (4, iv 0)] [] s Q) ∧ (x2 < 0 → Q rU s))))) :
    wp S 25 0 [(0, rf 2), (1, iv x1), (2, iv x2), (3, iv x3)] [] s Q := by
  refine i_iload_n (x := x1) r_25_0 (n_25_0 _) rfl ?_
  obtain ⟨g1, h⟩ := h
  refine i_if (t := 8) r_25_1 (n_25_1 _) rfl (T_lt g1 ⟨by omega, by omega⟩) (fun c2 => ?_) (fun c2 => ?_)
  · replace h := h.1 c2
    exact i_return r_25_8 (n_25_8 _) rfl h
  · replace h := h.2 c2
    refine i_iload_n (x := x2) r_25_4 (n_25_4 _) rfl ?_
    obtain ⟨g3, h⟩ := h
    refine i_if (t := 9) r_25_5 (n_25_5 _) rfl (T_ge g3 ⟨by omega, by omega⟩) (fun c4 => ?_) (fun c4 => ?_)
    · replace h := h.1 c4
      refine i_iconst r_25_9 (n_25_9 _) ?_
      refine i_istore (l' := [(0, rf 2), (1, iv x1), (2, iv x2), (3, iv x3), (4, iv 0)]) r_25_10 (n_25_10 _) (by decide) rfl ?_
      exact wp_pr (l' := [(0, rf 2), (1, iv x1), (2, iv x2), (3, iv x3), (4, iv 0)]) rfl h
    · replace h := h.2 c4
      exact i_return r_25_8 (n_25_8 _) rfl h
theorem v_RL_copyMemory_12 {S : Option (Nat × (Nat → Int32))} {s : zSt} {Q : Option Value ⊕ Nat → zSt → Prop} {x1 : Int} {x2 : Int} {x3 : Int} {x4 : Int} 
    (h : rng x4 ∧ (rng x3 ∧ ((x3 ≤ x4 → Q rU s) ∧ (x4 < x3 → rng (x1 + x4) ∧ ((1024 ≤ (x1 + x4) → Q rU s) ∧ ((x1 + x4) < 1024 → rng (x2 + x4) ∧ ((1024 ≤ (x2 + x4) → Q rU s) ∧ ((x2 + x4) < 1024 → (0 ≤ (x1 + x4) ∧ (x1 + x4) < 1024) ∧ ((0 ≤ (x2 + x4) ∧ (x2 + x4) < 1024) ∧ (wp S 25 12 [(0, rf 2), (1, iv x1), (2, iv x2), (3, iv x3), (4, iv (x4 + 1))] [] (zwI s 6 (x2 + x4) (zi2b (zI s 6 (x1 + x4)))) Q)))))))))) :
    wp S 25 12 [(0, rf 2), (1, iv x1), (2, iv x2), (3, iv x3), (4, iv x4)] [] s Q := by
  refine i_iload (x := x4) r_25_12 rfl rfl ?_
  refine i_iload_n (x := x3) r_25_14 (n_25_14 _) rfl ?_
  obtain ⟨g1, h⟩ := h
  obtain ⟨g2, h⟩ := h
  refine i_icmp (t := 68) r_25_15 (n_25_15 _) rfl (T_ge g1 g2) (fun c3 => ?_) (fun c3 => ?_)
  · replace h := h.1 c3
    exact i_return r_25_68 (n_25_68 _) rfl h
  · replace h := h.2 c3
    refine i_iload_n (x := x1) r_25_18 (n_25_18 _) rfl ?_
    refine i_iload (x := x4) r_25_19 (n_25_19 _) rfl ?_
    refine i_iadd r_25_21 (n_25_21 _) ?_
    refine i_sipush r_25_22 (n_25_22 _) rfl ?_
    obtain ⟨g4, h⟩ := h
    refine i_icmp (t := 68) r_25_25 (n_25_25 _) rfl (T_ge g4 ⟨by omega, by omega⟩) (fun c5 => ?_) (fun c5 => ?_)
    · replace h := h.1 c5
      exact i_return r_25_68 (n_25_68 _) rfl h
    · replace h := h.2 c5
      refine i_iload_n (x := x2) r_25_28 (n_25_28 _) rfl ?_
      refine i_iload (x := x4) r_25_29 (n_25_29 _) rfl ?_
      refine i_iadd r_25_31 (n_25_31 _) ?_
      refine i_sipush r_25_32 (n_25_32 _) rfl ?_
      obtain ⟨g6, h⟩ := h
      refine i_icmp (t := 68) r_25_35 (n_25_35 _) rfl (T_ge g6 ⟨by omega, by omega⟩) (fun c7 => ?_) (fun c7 => ?_)
      · replace h := h.1 c7
        exact i_return r_25_68 (n_25_68 _) rfl h
      · replace h := h.2 c7
        refine i_aload_n (a := 2) r_25_38 (n_25_38 _) rfl ?_
        refine i_getR (a := 2) (b := 3) r_25_39 (n_25_39 _) rfl rfl rfl (by omega) lf_2 (by omega) ?_
        refine i_getR (a := 3) (b := 6) r_25_42 (n_25_42 _) rfl rfl rfl (by omega) lf_3 (by omega) ?_
        refine i_iload_n (x := x2) r_25_45 (n_25_45 _) rfl ?_
        refine i_iload (x := x4) r_25_46 (n_25_46 _) rfl ?_
        refine i_iadd r_25_48 (n_25_48 _) ?_
        refine i_aload_n (a := 2) r_25_49 (n_25_49 _) rfl ?_
        refine i_getR (a := 2) (b := 3) r_25_50 (n_25_50 _) rfl rfl rfl (by omega) lf_2 (by omega) ?_
        refine i_getR (a := 3) (b := 6) r_25_53 (n_25_53 _) rfl rfl rfl (by omega) lf_3 (by omega) ?_
        refine i_iload_n (x := x1) r_25_56 (n_25_56 _) rfl ?_
        refine i_iload (x := x4) r_25_57 (n_25_57 _) rfl ?_
        refine i_iadd r_25_59 (n_25_59 _) ?_
        obtain ⟨g8, h⟩ := h
        refine i_baload (a := 6) (j := x1 + x4) r_25_60 (n_25_60 _) lf_6 ⟨by omega, by omega⟩ (by omega) (by omega) (fun q9 => ?_)
        obtain ⟨g10, h⟩ := h
        refine i_bastore (a := 6) (j := x2 + x4) (x := zI s 6 (x1 + x4)) r_25_61 (n_25_61 _) lf_6 ⟨by omega, by omega⟩ (by omega) (by omega) ?_
        refine i_iinc (x := x4) (l' := [(0, rf 2), (1, iv x1), (2, iv x2), (3, iv x3), (4, iv (x4 + 1))]) r_25_62 (n_25_62 _) (by decide) rfl rfl ?_
        refine i_goto (t := 12) r_25_65 (n_25_65 _) rfl ?_
        exact wp_pr (l' := [(0, rf 2), (1, iv x1), (2, iv x2), (3, iv x3), (4, iv (x4 + 1))]) rfl h
theorem r_26_0 : xfetch 26 0 = some (.ldc2_w 385, 3) := by decide +kernel
theorem n_26_0 : ∀ l, xpr 26 0 l = l := xpr_no (by decide +kernel)
theorem r_26_3 : xfetch 26 3 = some (.aload_n 0, 1) := by decide +kernel
theorem n_26_3 : ∀ l, xpr 26 3 l = l := xpr_no (by decide +kernel)
theorem r_26_4 : xfetch 26 4 = some (.getfield 10, 3) := by decide +kernel
theorem n_26_4 : ∀ l, xpr 26 4 l = l := xpr_no (by decide +kernel)
theorem r_26_7 : xfetch 26 7 = some (.getfield 80, 3) := by decide +kernel
theorem n_26_7 : ∀ l, xpr 26 7 l = l := xpr_no (by decide +kernel)
theorem r_26_10 : xfetch 26 10 = some (.i2l, 1) := by decide +kernel
theorem n_26_10 : ∀ l, xpr 26 10 l = l := xpr_no (by decide +kernel)
theorem r_26_11 : xfetch 26 11 = some (.ladd, 1) := by decide +kernel
theorem n_26_11 : ∀ l, xpr 26 11 l = l := xpr_no (by decide +kernel)
theorem r_26_12 : xfetch 26 12 = some (.lstore_n 1, 1) := by decide +kernel
theorem n_26_12 : ∀ l, xpr 26 12 l = l := xpr_no (by decide +kernel)
theorem r_26_13 : xfetch 26 13 = some (.iconst 0, 1) := by decide +kernel
theorem n_26_13 : ∀ l, xpr 26 13 l = l := xpr_no (by decide +kernel)
theorem r_26_14 : xfetch 26 14 = some (.istore_n 3, 1) := by decide +kernel
theorem n_26_14 : ∀ l, xpr 26 14 l = l := xpr_no (by decide +kernel)
theorem r_26_15 : xfetch 26 15 = some (.iload_n 3, 1) := by decide +kernel
theorem r_26_16 : xfetch 26 16 = some (.aload_n 0, 1) := by decide +kernel
theorem n_26_16 : ∀ l, xpr 26 16 l = l := xpr_no (by decide +kernel)
theorem r_26_17 : xfetch 26 17 = some (.getfield 10, 3) := by decide +kernel
theorem n_26_17 : ∀ l, xpr 26 17 l = l := xpr_no (by decide +kernel)
theorem r_26_20 : xfetch 26 20 = some (.getfield 80, 3) := by decide +kernel
theorem n_26_20 : ∀ l, xpr 26 20 l = l := xpr_no (by decide +kernel)
theorem r_26_23 : xfetch 26 23 = some (.if_icmp .ge 16, 3) := by decide +kernel
theorem n_26_23 : ∀ l, xpr 26 23 l = l := xpr_no (by decide +kernel)
theorem r_26_26 : xfetch 26 26 = some (.aload_n 0, 1) := by decide +kernel
theorem n_26_26 : ∀ l, xpr 26 26 l = l := xpr_no (by decide +kernel)
theorem r_26_27 : xfetch 26 27 = some (.lload_n 1, 1) := by decide +kernel
theorem n_26_27 : ∀ l, xpr 26 27 l = l := xpr_no (by decide +kernel)
theorem r_26_28 : xfetch 26 28 = some (.iload_n 3, 1) := by decide +kernel
theorem n_26_28 : ∀ l, xpr 26 28 l = l := xpr_no (by decide +kernel)
theorem r_26_29 : xfetch 26 29 = some (.invokevirtual 387, 3) := by decide +kernel
theorem n_26_29 : ∀ l, xpr 26 29 l = l := xpr_no (by decide +kernel)
theorem r_26_32 : xfetch 26 32 = some (.lstore_n 1, 1) := by decide +kernel
theorem n_26_32 : ∀ l, xpr 26 32 l = l := xpr_no (by decide +kernel)
theorem r_26_33 : xfetch 26 33 = some (.iinc 3 1, 3) := by decide +kernel
theorem n_26_33 : ∀ l, xpr 26 33 l = l := xpr_no (by decide +kernel)
theorem r_26_36 : xfetch 26 36 = some (.goto (-21), 3) := by decide +kernel
theorem n_26_36 : ∀ l, xpr 26 36 l = l := xpr_no (by decide +kernel)
theorem r_26_39 : xfetch 26 39 = some (.ldc2_w 391, 3) := by decide +kernel
theorem n_26_39 : ∀ l, xpr 26 39 l = l := xpr_no (by decide +kernel)
theorem r_26_42 : xfetch 26 42 = some (.lload_n 1, 1) := by decide +kernel
theorem n_26_42 : ∀ l, xpr 26 42 l = l := xpr_no (by decide +kernel)
theorem r_26_43 : xfetch 26 43 = some (.lmul, 1) := by decide +kernel
theorem n_26_43 : ∀ l, xpr 26 43 l = l := xpr_no (by decide +kernel)
theorem r_26_44 : xfetch 26 44 = some (.aload_n 0, 1) := by decide +kernel
theorem n_26_44 : ∀ l, xpr 26 44 l = l := xpr_no (by decide +kernel)
theorem r_26_45 : xfetch 26 45 = some (.invokevirtual 393, 3) := by decide +kernel
theorem n_26_45 : ∀ l, xpr 26 45 l = l := xpr_no (by decide +kernel)
theorem r_26_48 : xfetch 26 48 = some (.i2l, 1) := by decide +kernel
theorem n_26_48 : ∀ l, xpr 26 48 l = l := xpr_no (by decide +kernel)
theorem r_26_49 : xfetch 26 49 = some (.ladd, 1) := by decide +kernel
theorem n_26_49 : ∀ l, xpr 26 49 l = l := xpr_no (by decide +kernel)
theorem r_26_50 : xfetch 26 50 = some (.lstore_n 1, 1) := by decide +kernel
theorem n_26_50 : ∀ l, xpr 26 50 l = l := xpr_no (by decide +kernel)
theorem r_26_51 : xfetch 26 51 = some (.iconst 0, 1) := by decide +kernel
theorem n_26_51 : ∀ l, xpr 26 51 l = l := xpr_no (by decide +kernel)
theorem r_26_52 : xfetch 26 52 = some (.istore_n 3, 1) := by decide +kernel
theorem n_26_52 : ∀ l, xpr 26 52 l = l := xpr_no (by decide +kernel)
theorem r_26_53 : xfetch 26 53 = some (.iload_n 3, 1) := by decide +kernel
theorem r_26_54 : xfetch 26 54 = some (.iconst 3, 1) := by decide +kernel
theorem n_26_54 : ∀ l, xpr 26 54 l = l := xpr_no (by decide +kernel)
theorem r_26_55 : xfetch 26 55 = some (.if_icmp .ge 54, 3) := by decide +kernel
theorem n_26_55 : ∀ l, xpr 26 55 l = l := xpr_no (by decide +kernel)
theorem r_26_58 : xfetch 26 58 = some (.iconst 0, 1) := by decide +kernel
theorem n_26_58 : ∀ l, xpr 26 58 l = l := xpr_no (by decide +kernel)
theorem r_26_59 : xfetch 26 59 = some (.istore 4, 2) := by decide +kernel
theorem n_26_59 : ∀ l, xpr 26 59 l = l := xpr_no (by decide +kernel)
theorem r_26_61 : xfetch 26 61 = some (.iload 4, 2) := by decide +kernel
theorem r_26_63 : xfetch 26 63 = some (.iconst 5, 1) := by decide +kernel
theorem n_26_63 : ∀ l, xpr 26 63 l = l := xpr_no (by decide +kernel)
theorem r_26_64 : xfetch 26 64 = some (.if_icmp .gt 39, 3) := by decide +kernel
theorem n_26_64 : ∀ l, xpr 26 64 l = l := xpr_no (by decide +kernel)
theorem r_26_67 : xfetch 26 67 = some (.aload_n 0, 1) := by decide +kernel
theorem n_26_67 : ∀ l, xpr 26 67 l = l := xpr_no (by decide +kernel)
theorem r_26_68 : xfetch 26 68 = some (.getfield 10, 3) := by decide +kernel
theorem n_26_68 : ∀ l, xpr 26 68 l = l := xpr_no (by decide +kernel)
theorem r_26_71 : xfetch 26 71 = some (.getfield 256, 3) := by decide +kernel
theorem n_26_71 : ∀ l, xpr 26 71 l = l := xpr_no (by decide +kernel)
theorem r_26_74 : xfetch 26 74 = some (.iload_n 3, 1) := by decide +kernel
theorem n_26_74 : ∀ l, xpr 26 74 l = l := xpr_no (by decide +kernel)
theorem r_26_75 : xfetch 26 75 = some (.aaload, 1) := by decide +kernel
theorem n_26_75 : ∀ l, xpr 26 75 l = l := xpr_no (by decide +kernel)
theorem r_26_76 : xfetch 26 76 = some (.getfield 260, 3) := by decide +kernel
theorem n_26_76 : ∀ l, xpr 26 76 l = l := xpr_no (by decide +kernel)
theorem r_26_79 : xfetch 26 79 = some (.ifCond .eq 24, 3) := by decide +kernel
theorem n_26_79 : ∀ l, xpr 26 79 l = l := xpr_no (by decide +kernel)
theorem r_26_82 : xfetch 26 82 = some (.ldc2_w 391, 3) := by decide +kernel
theorem n_26_82 : ∀ l, xpr 26 82 l = l := xpr_no (by decide +kernel)
theorem r_26_85 : xfetch 26 85 = some (.lload_n 1, 1) := by decide +kernel
theorem n_26_85 : ∀ l, xpr 26 85 l = l := xpr_no (by decide +kernel)
theorem r_26_86 : xfetch 26 86 = some (.lmul, 1) := by decide +kernel
theorem n_26_86 : ∀ l, xpr 26 86 l = l := xpr_no (by decide +kernel)
theorem r_26_87 : xfetch 26 87 = some (.aload_n 0, 1) := by decide +kernel
theorem n_26_87 : ∀ l, xpr 26 87 l = l := xpr_no (by decide +kernel)
theorem r_26_88 : xfetch 26 88 = some (.iload_n 3, 1) := by decide +kernel
theorem n_26_88 : ∀ l, xpr 26 88 l = l := xpr_no (by decide +kernel)
theorem r_26_89 : xfetch 26 89 = some (.iload 4, 2) := by decide +kernel
theorem n_26_89 : ∀ l, xpr 26 89 l = l := xpr_no (by decide +kernel)
theorem r_26_91 : xfetch 26 91 = some (.invokevirtual 287, 3) := by decide +kernel
theorem n_26_91 : ∀ l, xpr 26 91 l = l := xpr_no (by decide +kernel)
theorem r_26_94 : xfetch 26 94 = some (.i2l, 1) := by decide +kernel
theorem n_26_94 : ∀ l, xpr 26 94 l = l := xpr_no (by decide +kernel)
theorem r_26_95 : xfetch 26 95 = some (.ladd, 1) := by decide +kernel
theorem n_26_95 : ∀ l, xpr 26 95 l = l := xpr_no (by decide +kernel)
theorem r_26_96 : xfetch 26 96 = some (.lstore_n 1, 1) := by decide +kernel
theorem n_26_96 : ∀ l, xpr 26 96 l = l := xpr_no (by decide +kernel)
theorem r_26_97 : xfetch 26 97 = some (.iinc 4 1, 3) := by decide +kernel
theorem n_26_97 : ∀ l, xpr 26 97 l = l := xpr_no (by decide +kernel)
theorem r_26_100 : xfetch 26 100 = some (.goto (-39), 3) := by decide +kernel
theorem n_26_100 : ∀ l, xpr 26 100 l = l := xpr_no (by decide +kernel)
theorem r_26_103 : xfetch 26 103 = some (.iinc 3 1, 3) := by decide +kernel
theorem n_26_103 : ∀ l, xpr 26 103 l = l := xpr_no (by decide +kernel)
theorem r_26_106 : xfetch 26 106 = some (.goto (-53), 3) := by decide +kernel
theorem n_26_106 : ∀ l, xpr 26 106 l = l := xpr_no (by decide +kernel)
theorem r_26_109 : xfetch 26 109 = some (.iconst 0, 1) := by decide +kernel
theorem n_26_109 : ∀ l, xpr 26 109 l = l := xpr_no (by decide +kernel)
theorem r_26_110 : xfetch 26 110 = some (.istore_n 3, 1) := by decide +kernel
theorem n_26_110 : ∀ l, xpr 26 110 l = l := xpr_no (by decide +kernel)
theorem r_26_111 : xfetch 26 111 = some (.iload_n 3, 1) := by decide +kernel
theorem r_26_112 : xfetch 26 112 = some (.sipush 1024, 3) := by decide +kernel
theorem n_26_112 : ∀ l, xpr 26 112 l = l := xpr_no (by decide +kernel)
theorem r_26_115 : xfetch 26 115 = some (.if_icmp .ge 30, 3) := by decide +kernel
theorem n_26_115 : ∀ l, xpr 26 115 l = l := xpr_no (by decide +kernel)
theorem r_26_118 : xfetch 26 118 = some (.ldc2_w 391, 3) := by decide +kernel
theorem n_26_118 : ∀ l, xpr 26 118 l = l := xpr_no (by decide +kernel)
theorem r_26_121 : xfetch 26 121 = some (.lload_n 1, 1) := by decide +kernel
theorem n_26_121 : ∀ l, xpr 26 121 l = l := xpr_no (by decide +kernel)
theorem r_26_122 : xfetch 26 122 = some (.lmul, 1) := by decide +kernel
theorem n_26_122 : ∀ l, xpr 26 122 l = l := xpr_no (by decide +kernel)
theorem r_26_123 : xfetch 26 123 = some (.aload_n 0, 1) := by decide +kernel
theorem n_26_123 : ∀ l, xpr 26 123 l = l := xpr_no (by decide +kernel)
theorem r_26_124 : xfetch 26 124 = some (.getfield 10, 3) := by decide +kernel
theorem n_26_124 : ∀ l, xpr 26 124 l = l := xpr_no (by decide +kernel)
theorem r_26_127 : xfetch 26 127 = some (.getfield 299, 3) := by decide +kernel
theorem n_26_127 : ∀ l, xpr 26 127 l = l := xpr_no (by decide +kernel)
theorem r_26_130 : xfetch 26 130 = some (.iload_n 3, 1) := by decide +kernel
theorem n_26_130 : ∀ l, xpr 26 130 l = l := xpr_no (by decide +kernel)
theorem r_26_131 : xfetch 26 131 = some (.baload, 1) := by decide +kernel
theorem n_26_131 : ∀ l, xpr 26 131 l = l := xpr_no (by decide +kernel)
theorem r_26_132 : xfetch 26 132 = some (.sipush 255, 3) := by decide +kernel
theorem n_26_132 : ∀ l, xpr 26 132 l = l := xpr_no (by decide +kernel)
theorem r_26_135 : xfetch 26 135 = some (.iand, 1) := by decide +kernel
theorem n_26_135 : ∀ l, xpr 26 135 l = l := xpr_no (by decide +kernel)
theorem r_26_136 : xfetch 26 136 = some (.i2l, 1) := by decide +kernel
theorem n_26_136 : ∀ l, xpr 26 136 l = l := xpr_no (by decide +kernel)
theorem r_26_137 : xfetch 26 137 = some (.ladd, 1) := by decide +kernel
theorem n_26_137 : ∀ l, xpr 26 137 l = l := xpr_no (by decide +kernel)
theorem r_26_138 : xfetch 26 138 = some (.lstore_n 1, 1) := by decide +kernel
theorem n_26_138 : ∀ l, xpr 26 138 l = l := xpr_no (by decide +kernel)
theorem r_26_139 : xfetch 26 139 = some (.iinc 3 1, 3) := by decide +kernel
theorem n_26_139 : ∀ l, xpr 26 139 l = l := xpr_no (by decide +kernel)
theorem r_26_142 : xfetch 26 142 = some (.goto (-31), 3) := by decide +kernel
theorem n_26_142 : ∀ l, xpr 26 142 l = l := xpr_no (by decide +kernel)
theorem r_26_145 : xfetch 26 145 = some (.ldc2_w 391, 3) := by decide +kernel
theorem n_26_145 : ∀ l, xpr 26 145 l = l := xpr_no (by decide +kernel)
theorem r_26_148 : xfetch 26 148 = some (.lload_n 1, 1) := by decide +kernel
theorem n_26_148 : ∀ l, xpr 26 148 l = l := xpr_no (by decide +kernel)
theorem r_26_149 : xfetch 26 149 = some (.lmul, 1) := by decide +kernel
theorem n_26_149 : ∀ l, xpr 26 149 l = l := xpr_no (by decide +kernel)
theorem r_26_150 : xfetch 26 150 = some (.aload_n 0, 1) := by decide +kernel
theorem n_26_150 : ∀ l, xpr 26 150 l = l := xpr_no (by decide +kernel)
theorem r_26_151 : xfetch 26 151 = some (.getfield 29, 3) := by decide +kernel
theorem n_26_151 : ∀ l, xpr 26 151 l = l := xpr_no (by decide +kernel)
theorem r_26_154 : xfetch 26 154 = some (.getfield 205, 3) := by decide +kernel
theorem n_26_154 : ∀ l, xpr 26 154 l = l := xpr_no (by decide +kernel)
theorem r_26_157 : xfetch 26 157 = some (.i2l, 1) := by decide +kernel
theorem n_26_157 : ∀ l, xpr 26 157 l = l := xpr_no (by decide +kernel)
theorem r_26_158 : xfetch 26 158 = some (.ladd, 1) := by decide +kernel
theorem n_26_158 : ∀ l, xpr 26 158 l = l := xpr_no (by decide +kernel)
theorem r_26_159 : xfetch 26 159 = some (.lstore_n 1, 1) := by decide +kernel
theorem n_26_159 : ∀ l, xpr 26 159 l = l := xpr_no (by decide +kernel)
theorem r_26_160 : xfetch 26 160 = some (.ldc2_w 391, 3) := by decide +kernel
theorem n_26_160 : ∀ l, xpr 26 160 l = l := xpr_no (by decide +kernel)
theorem r_26_163 : xfetch 26 163 = some (.lload_n 1, 1) := by decide +kernel
theorem n_26_163 : ∀ l, xpr 26 163 l = l := xpr_no (by decide +kernel)
theorem r_26_164 : xfetch 26 164 = some (.lmul, 1) := by decide +kernel
theorem n_26_164 : ∀ l, xpr 26 164 l = l := xpr_no (by decide +kernel)
theorem r_26_165 : xfetch 26 165 = some (.aload_n 0, 1) := by decide +kernel
theorem n_26_165 : ∀ l, xpr 26 165 l = l := xpr_no (by decide +kernel)
theorem r_26_166 : xfetch 26 166 = some (.getfield 374, 3) := by decide +kernel
theorem n_26_166 : ∀ l, xpr 26 166 l = l := xpr_no (by decide +kernel)
theorem r_26_169 : xfetch 26 169 = some (.i2l, 1) := by decide +kernel
theorem n_26_169 : ∀ l, xpr 26 169 l = l := xpr_no (by decide +kernel)
theorem r_26_170 : xfetch 26 170 = some (.ladd, 1) := by decide +kernel
theorem n_26_170 : ∀ l, xpr 26 170 l = l := xpr_no (by decide +kernel)
theorem r_26_171 : xfetch 26 171 = some (.lreturn, 1) := by decide +kernel
theorem n_26_171 : ∀ l, xpr 26 171 l = l := xpr_no (by decide +kernel)
theorem v_RL_digest_0 {S : Option (Nat × (Nat → Int32))} {s : zSt} {Q : Option Value ⊕ Nat → zSt → Prop}  
    (h : wp S 26 15 [(0, rf 2), (1, .long (53723 + (zi2l (zI s 3 0)))), (3, iv 0)] [] s Q) :
    wp S 26 0 [(0, rf 2)] [] s Q := by
  refine i_ldc2 r_26_0 (n_26_0 _) rfl ?_
  refine i_aload_n (a := 2) r_26_3 (n_26_3 _) rfl ?_
  refine i_getR (a := 2) (b := 3) r_26_4 (n_26_4 _) rfl rfl rfl (by omega) lf_2 (by omega) ?_
  refine i_getI (a := 3) r_26_7 (n_26_7 _) rfl (by decide) lf_3 (fun q1 => ?_)
  refine i_i2l r_26_10 (n_26_10 _) ?_
  refine i_ladd r_26_11 (n_26_11 _) ?_
  refine i_lstore_n (l' := [(0, rf 2), (1, .long (53723 + (zi2l (zI s 3 0))))]) r_26_12 (n_26_12 _) (by decide) rfl ?_
  refine i_iconst r_26_13 (n_26_13 _) ?_
  refine i_istore_n (l' := [(0, rf 2), (1, .long (53723 + (zi2l (zI s 3 0)))), (3, iv 0)]) r_26_14 (n_26_14 _) (by decide) rfl ?_
  exact wp_pr (l' := [(0, rf 2), (1, .long (53723 + (zi2l (zI s 3 0)))), (3, iv 0)]) rfl h
theorem v_RL_digest_15 {S : Option (Nat × (Nat → Int32))} {s : zSt} {Q : Option Value ⊕ Nat → zSt → Prop} {u1 : Int64} {x3 : Int} 
    (h : rng x3 ∧ (((zI s 3 0) ≤ x3 → wp S 12 0 [(0, rf 2)] [] s (fun o4 s4 => zkI (fun y4 => wp S 26 53 [(0, rf 2), (1, .long ((31 * u1) + (zi2l y4))), (3, iv 0)] [] s4 Q) (fun e4 => False) o4)) ∧ (x3 < (zI s 3 0) → wp S 27 0 [(0, rf 2), (1, .long u1), (3, iv x3)] [] s (fun o6 s6 => zkL (fun y6 => wp S 26 15 [(0, rf 2), (1, .long y6), (3, iv (x3 + 1))] [] s6 Q) (fun e6 => False) o6)))) :
    wp S 26 15 [(0, rf 2), (1, .long u1), (3, iv x3)] [] s Q := by
  refine i_iload_n (x := x3) r_26_15 rfl rfl ?_
  refine i_aload_n (a := 2) r_26_16 (n_26_16 _) rfl ?_
  refine i_getR (a := 2) (b := 3) r_26_17 (n_26_17 _) rfl rfl rfl (by omega) lf_2 (by omega) ?_
  refine i_getI (a := 3) r_26_20 (n_26_20 _) rfl (by decide) lf_3 (fun q1 => ?_)
  obtain ⟨g2, h⟩ := h
  refine i_icmp (t := 39) r_26_23 (n_26_23 _) rfl (T_ge g2 q1) (fun c3 => ?_) (fun c3 => ?_)
  · replace h := h.1 c3
    refine i_ldc2 r_26_39 (n_26_39 _) rfl ?_
    refine i_lload_n (u := u1) r_26_42 (n_26_42 _) rfl ?_
    refine i_lmul r_26_43 (n_26_43 _) ?_
    refine i_aload_n (a := 2) r_26_44 (n_26_44 _) rfl ?_
    refine wp_virt (b := 2) (rest := [.long (31 * u1)]) (Ls := [(0, rf 2)]) r_26_45 (n_26_45 _) rfl ⟨rfl, rfl, by decide, by decide⟩ rfl rfl lf_2 ⟨rfl, Nat.le_of_ble_eq_true rfl, Nat.le_of_ble_eq_true rfl⟩ rfl h ?_
    intro o4 s4 h
    rcases h with ⟨y4, q5, rfl, h⟩ | ⟨e4, rfl, h⟩
    · refine .inl ⟨some (iv y4), rfl, ?_⟩
      show wp S 26 48 [(0, rf 2), (1, .long u1), (3, iv x3)] [iv y4, .long (31 * u1)] s4 Q
      refine i_i2l r_26_48 (n_26_48 _) ?_
      refine i_ladd r_26_49 (n_26_49 _) ?_
      refine i_lstore_n (l' := [(0, rf 2), (1, .long ((31 * u1) + (zi2l y4))), (3, iv x3)]) r_26_50 (n_26_50 _) (by decide) rfl ?_
      refine i_iconst r_26_51 (n_26_51 _) ?_
      refine i_istore_n (l' := [(0, rf 2), (1, .long ((31 * u1) + (zi2l y4))), (3, iv 0)]) r_26_52 (n_26_52 _) (by decide) rfl ?_
      exact wp_pr (l' := [(0, rf 2), (1, .long ((31 * u1) + (zi2l y4))), (3, iv 0)]) rfl h
    · skip
      exact h.elim
  · replace h := h.2 c3
    refine i_aload_n (a := 2) r_26_26 (n_26_26 _) rfl ?_
    refine i_lload_n (u := u1) r_26_27 (n_26_27 _) rfl ?_
    refine i_iload_n (x := x3) r_26_28 (n_26_28 _) rfl ?_
    refine wp_virt (b := 2) (rest := []) (Ls := [(0, rf 2), (1, .long u1), (3, iv x3)]) r_26_29 (n_26_29 _) rfl ⟨rfl, rfl, by decide, by decide⟩ rfl rfl lf_2 ⟨rfl, Nat.le_of_ble_eq_true rfl, Nat.le_of_ble_eq_true rfl⟩ rfl h ?_
    intro o6 s6 h
    rcases h with ⟨y6, rfl, h⟩ | ⟨e6, rfl, h⟩
    · refine .inl ⟨some (.long y6), rfl, ?_⟩
      show wp S 26 32 [(0, rf 2), (1, .long u1), (3, iv x3)] [.long y6] s6 Q
      refine i_lstore_n (l' := [(0, rf 2), (1, .long y6), (3, iv x3)]) r_26_32 (n_26_32 _) (by decide) rfl ?_
      refine i_iinc (x := x3) (l' := [(0, rf 2), (1, .long y6), (3, iv (x3 + 1))]) r_26_33 (n_26_33 _) (by decide) rfl rfl ?_
      refine i_goto (t := 15) r_26_36 (n_26_36 _) rfl ?_
      exact wp_pr (l' := [(0, rf 2), (1, .long y6), (3, iv (x3 + 1))]) rfl h
    · skip
      exact h.elim
theorem v_RL_digest_53 {S : Option (Nat × (Nat → Int32))} {s : zSt} {Q : Option Value ⊕ Nat → zSt → Prop} {u1 : Int64} {x3 : Int} 
    (h : rng x3 ∧ ((3 ≤ x3 → wp S 26 111 [(0, rf 2), (1, .long u1), (3, iv 0)] [] s Q) ∧ (x3 < 3 → wp S 26 61 [(0, rf 2), (1, .long u1), (3, iv x3), (4, iv 0)] [] s Q))) :
    wp S 26 53 [(0, rf 2), (1, .long u1), (3, iv x3)] [] s Q := by
  refine i_iload_n (x := x3) r_26_53 rfl rfl ?_
  refine i_iconst r_26_54 (n_26_54 _) ?_
  obtain ⟨g1, h⟩ := h
  refine i_icmp (t := 109) r_26_55 (n_26_55 _) rfl (T_ge g1 ⟨by omega, by omega⟩) (fun c2 => ?_) (fun c2 => ?_)
  · replace h := h.1 c2
    refine i_iconst r_26_109 (n_26_109 _) ?_
    refine i_istore_n (l' := [(0, rf 2), (1, .long u1), (3, iv 0)]) r_26_110 (n_26_110 _) (by decide) rfl ?_
    exact wp_pr (l' := [(0, rf 2), (1, .long u1), (3, iv 0)]) rfl h
  · replace h := h.2 c2
    refine i_iconst r_26_58 (n_26_58 _) ?_
    refine i_istore (l' := [(0, rf 2), (1, .long u1), (3, iv x3), (4, iv 0)]) r_26_59 (n_26_59 _) (by decide) rfl ?_
    exact wp_pr (l' := [(0, rf 2), (1, .long u1), (3, iv x3), (4, iv 0)]) rfl h
theorem v_RL_digest_61 {S : Option (Nat × (Nat → Int32))} {s : zSt} {Q : Option Value ⊕ Nat → zSt → Prop} {u1 : Int64} {x3 : Int} {x4 : Int} 
    (h : rng x4 ∧ ((5 < x4 → wp S 26 53 [(0, rf 2), (1, .long u1), (3, iv (x3 + 1))] [] s Q) ∧ (x4 ≤ 5 → (0 ≤ x3 ∧ x3 < 3) ∧ (((zI s (31 + x3) 0) = 0 → wp S 26 53 [(0, rf 2), (1, .long u1), (3, iv (x3 + 1))] [] s Q) ∧ ((zI s (31 + x3) 0) ≠ 0 → wp S 33 0 [(0, rf 2), (1, iv x3), (2, iv x4)] [] s (fun o7 s7 => zkI (fun y7 => wp S 26 61 [(0, rf 2), (1, .long ((31 * u1) + (zi2l y7))), (3, iv x3), (4, iv (x4 + 1))] [] s7 Q) (fun e7 => False) o7)))))) :
    wp S 26 61 [(0, rf 2), (1, .long u1), (3, iv x3), (4, iv x4)] [] s Q := by
  refine i_iload (x := x4) r_26_61 rfl rfl ?_
  refine i_iconst r_26_63 (n_26_63 _) ?_
  obtain ⟨g1, h⟩ := h
  refine i_icmp (t := 103) r_26_64 (n_26_64 _) rfl (T_gt g1 ⟨by omega, by omega⟩) (fun c2 => ?_) (fun c2 => ?_)
  · replace h := h.1 c2
    refine i_iinc (x := x3) (l' := [(0, rf 2), (1, .long u1), (3, iv (x3 + 1)), (4, iv x4)]) r_26_103 (n_26_103 _) (by decide) rfl rfl ?_
    refine i_goto (t := 53) r_26_106 (n_26_106 _) rfl ?_
    exact wp_pr (l' := [(0, rf 2), (1, .long u1), (3, iv (x3 + 1))]) rfl h
  · replace h := h.2 c2
    refine i_aload_n (a := 2) r_26_67 (n_26_67 _) rfl ?_
    refine i_getR (a := 2) (b := 3) r_26_68 (n_26_68 _) rfl rfl rfl (by omega) lf_2 (by omega) ?_
    refine i_getR (a := 3) (b := 5) r_26_71 (n_26_71 _) rfl rfl rfl (by omega) lf_3 (by omega) ?_
    refine i_iload_n (x := x3) r_26_74 (n_26_74 _) rfl ?_
    obtain ⟨g3, h⟩ := h
    refine i_aaload (c := 6) (a := 5) (j := x3) (b := 31 + x3) r_26_75 (n_26_75 _) lf_5 ⟨by omega, by omega⟩ (by omega) (by omega) rfl (by omega) ?_
    have t4 := e_6 (j := x3) lf_5 (by omega) (by omega)
    rw [show 5 + 26 + 1 * x3 = 31 + x3 by omega] at t4
    refine i_getI (a := 31 + x3) r_26_76 (n_26_76 _) rfl (by decide) t4 (fun q5 => ?_)
    refine i_if (t := 103) r_26_79 (n_26_79 _) rfl (T_eq q5 ⟨by omega, by omega⟩) (fun c6 => ?_) (fun c6 => ?_)
    · replace h := h.1 c6
      refine i_iinc (x := x3) (l' := [(0, rf 2), (1, .long u1), (3, iv (x3 + 1)), (4, iv x4)]) r_26_103 (n_26_103 _) (by decide) rfl rfl ?_
      refine i_goto (t := 53) r_26_106 (n_26_106 _) rfl ?_
      exact wp_pr (l' := [(0, rf 2), (1, .long u1), (3, iv (x3 + 1))]) rfl h
    · replace h := h.2 c6
      refine i_ldc2 r_26_82 (n_26_82 _) rfl ?_
      refine i_lload_n (u := u1) r_26_85 (n_26_85 _) rfl ?_
      refine i_lmul r_26_86 (n_26_86 _) ?_
      refine i_aload_n (a := 2) r_26_87 (n_26_87 _) rfl ?_
      refine i_iload_n (x := x3) r_26_88 (n_26_88 _) rfl ?_
      refine i_iload (x := x4) r_26_89 (n_26_89 _) rfl ?_
      refine wp_virt (b := 2) (rest := [.long (31 * u1)]) (Ls := [(0, rf 2), (1, iv x3), (2, iv x4)]) r_26_91 (n_26_91 _) rfl ⟨rfl, rfl, by decide, by decide⟩ rfl rfl lf_2 ⟨rfl, Nat.le_of_ble_eq_true rfl, Nat.le_of_ble_eq_true rfl⟩ rfl h ?_
      intro o7 s7 h
      rcases h with ⟨y7, q8, rfl, h⟩ | ⟨e7, rfl, h⟩
      · refine .inl ⟨some (iv y7), rfl, ?_⟩
        show wp S 26 94 [(0, rf 2), (1, .long u1), (3, iv x3), (4, iv x4)] [iv y7, .long (31 * u1)] s7 Q
        refine i_i2l r_26_94 (n_26_94 _) ?_
        refine i_ladd r_26_95 (n_26_95 _) ?_
        refine i_lstore_n (l' := [(0, rf 2), (1, .long ((31 * u1) + (zi2l y7))), (3, iv x3), (4, iv x4)]) r_26_96 (n_26_96 _) (by decide) rfl ?_
        refine i_iinc (x := x4) (l' := [(0, rf 2), (1, .long ((31 * u1) + (zi2l y7))), (3, iv x3), (4, iv (x4 + 1))]) r_26_97 (n_26_97 _) (by decide) rfl rfl ?_
        refine i_goto (t := 61) r_26_100 (n_26_100 _) rfl ?_
        exact wp_pr (l' := [(0, rf 2), (1, .long ((31 * u1) + (zi2l y7))), (3, iv x3), (4, iv (x4 + 1))]) rfl h
      · skip
        exact h.elim
theorem v_RL_digest_111 {S : Option (Nat × (Nat → Int32))} {s : zSt} {Q : Option Value ⊕ Nat → zSt → Prop} {u1 : Int64} {x3 : Int} 
    (h : rng x3 ∧ ((1024 ≤ x3 → Q (rL ((31 * ((31 * u1) + (zi2l (zI s 36 0)))) + (zi2l (zI s 2 4)))) s) ∧ (x3 < 1024 → (0 ≤ x3 ∧ x3 < 1024) ∧ (wp S 26 111 [(0, rf 2), (1, .long ((31 * u1) + (zi2l (zand (zI s 6 x3) 255)))), (3, iv (x3 + 1))] [] s Q)))) :
    wp S 26 111 [(0, rf 2), (1, .long u1), (3, iv x3)] [] s Q := by
  refine i_iload_n (x := x3) r_26_111 rfl rfl ?_
  refine i_sipush r_26_112 (n_26_112 _) rfl ?_
  obtain ⟨g1, h⟩ := h
  refine i_icmp (t := 145) r_26_115 (n_26_115 _) rfl (T_ge g1 ⟨by omega, by omega⟩) (fun c2 => ?_) (fun c2 => ?_)
  · replace h := h.1 c2
    refine i_ldc2 r_26_145 (n_26_145 _) rfl ?_
    refine i_lload_n (u := u1) r_26_148 (n_26_148 _) rfl ?_
    refine i_lmul r_26_149 (n_26_149 _) ?_
    refine i_aload_n (a := 2) r_26_150 (n_26_150 _) rfl ?_
    refine i_getR (a := 2) (b := 36) r_26_151 (n_26_151 _) rfl rfl rfl (by omega) lf_2 (by omega) ?_
    refine i_getI (a := 36) r_26_154 (n_26_154 _) rfl (by decide) lf_36 (fun q3 => ?_)
    refine i_i2l r_26_157 (n_26_157 _) ?_
    refine i_ladd r_26_158 (n_26_158 _) ?_
    refine i_lstore_n (l' := [(0, rf 2), (1, .long ((31 * u1) + (zi2l (zI s 36 0)))), (3, iv x3)]) r_26_159 (n_26_159 _) (by decide) rfl ?_
    refine i_ldc2 r_26_160 (n_26_160 _) rfl ?_
    refine i_lload_n (u := (31 * u1) + (zi2l (zI s 36 0))) r_26_163 (n_26_163 _) rfl ?_
    refine i_lmul r_26_164 (n_26_164 _) ?_
    refine i_aload_n (a := 2) r_26_165 (n_26_165 _) rfl ?_
    refine i_getI (a := 2) r_26_166 (n_26_166 _) rfl (by decide) lf_2 (fun q4 => ?_)
    refine i_i2l r_26_169 (n_26_169 _) ?_
    refine i_ladd r_26_170 (n_26_170 _) ?_
    exact i_lreturn r_26_171 (n_26_171 _) rfl h
  · replace h := h.2 c2
    refine i_ldc2 r_26_118 (n_26_118 _) rfl ?_
    refine i_lload_n (u := u1) r_26_121 (n_26_121 _) rfl ?_
    refine i_lmul r_26_122 (n_26_122 _) ?_
    refine i_aload_n (a := 2) r_26_123 (n_26_123 _) rfl ?_
    refine i_getR (a := 2) (b := 3) r_26_124 (n_26_124 _) rfl rfl rfl (by omega) lf_2 (by omega) ?_
    refine i_getR (a := 3) (b := 6) r_26_127 (n_26_127 _) rfl rfl rfl (by omega) lf_3 (by omega) ?_
    refine i_iload_n (x := x3) r_26_130 (n_26_130 _) rfl ?_
    obtain ⟨g5, h⟩ := h
    refine i_baload (a := 6) (j := x3) r_26_131 (n_26_131 _) lf_6 ⟨by omega, by omega⟩ (by omega) (by omega) (fun q6 => ?_)
    refine i_sipush r_26_132 (n_26_132 _) rfl ?_
    refine i_iand r_26_135 (n_26_135 _) ?_
    refine i_i2l r_26_136 (n_26_136 _) ?_
    refine i_ladd r_26_137 (n_26_137 _) ?_
    refine i_lstore_n (l' := [(0, rf 2), (1, .long ((31 * u1) + (zi2l (zand (zI s 6 x3) 255)))), (3, iv x3)]) r_26_138 (n_26_138 _) (by decide) rfl ?_
    refine i_iinc (x := x3) (l' := [(0, rf 2), (1, .long ((31 * u1) + (zi2l (zand (zI s 6 x3) 255)))), (3, iv (x3 + 1))]) r_26_139 (n_26_139 _) (by decide) rfl rfl ?_
    refine i_goto (t := 111) r_26_142 (n_26_142 _) rfl ?_
    exact wp_pr (l' := [(0, rf 2), (1, .long ((31 * u1) + (zi2l (zand (zI s 6 x3) 255)))), (3, iv (x3 + 1))]) rfl h
theorem r_27_0 : xfetch 27 0 = some (.lload_n 1, 1) := by decide +kernel
theorem n_27_0 : ∀ l, xpr 27 0 l = l := xpr_no (by decide +kernel)
theorem r_27_1 : xfetch 27 1 = some (.lstore 4, 2) := by decide +kernel
theorem n_27_1 : ∀ l, xpr 27 1 l = l := xpr_no (by decide +kernel)
theorem r_27_3 : xfetch 27 3 = some (.iconst 0, 1) := by decide +kernel
theorem n_27_3 : ∀ l, xpr 27 3 l = l := xpr_no (by decide +kernel)
theorem r_27_4 : xfetch 27 4 = some (.istore 6, 2) := by decide +kernel
theorem n_27_4 : ∀ l, xpr 27 4 l = l := xpr_no (by decide +kernel)
theorem r_27_6 : xfetch 27 6 = some (.iload 6, 2) := by decide +kernel
theorem r_27_8 : xfetch 27 8 = some (.iconst 5, 1) := by decide +kernel
theorem n_27_8 : ∀ l, xpr 27 8 l = l := xpr_no (by decide +kernel)
theorem r_27_9 : xfetch 27 9 = some (.if_icmp .gt 26, 3) := by decide +kernel
theorem n_27_9 : ∀ l, xpr 27 9 l = l := xpr_no (by decide +kernel)
theorem r_27_12 : xfetch 27 12 = some (.ldc2_w 391, 3) := by decide +kernel
theorem n_27_12 : ∀ l, xpr 27 12 l = l := xpr_no (by decide +kernel)
theorem r_27_15 : xfetch 27 15 = some (.lload 4, 2) := by decide +kernel
theorem n_27_15 : ∀ l, xpr 27 15 l = l := xpr_no (by decide +kernel)
theorem r_27_17 : xfetch 27 17 = some (.lmul, 1) := by decide +kernel
theorem n_27_17 : ∀ l, xpr 27 17 l = l := xpr_no (by decide +kernel)
theorem r_27_18 : xfetch 27 18 = some (.aload_n 0, 1) := by decide +kernel
theorem n_27_18 : ∀ l, xpr 27 18 l = l := xpr_no (by decide +kernel)
theorem r_27_19 : xfetch 27 19 = some (.iload_n 3, 1) := by decide +kernel
theorem n_27_19 : ∀ l, xpr 27 19 l = l := xpr_no (by decide +kernel)
theorem r_27_20 : xfetch 27 20 = some (.iload 6, 2) := by decide +kernel
theorem n_27_20 : ∀ l, xpr 27 20 l = l := xpr_no (by decide +kernel)
theorem r_27_22 : xfetch 27 22 = some (.invokevirtual 153, 3) := by decide +kernel
theorem n_27_22 : ∀ l, xpr 27 22 l = l := xpr_no (by decide +kernel)
theorem r_27_25 : xfetch 27 25 = some (.i2l, 1) := by decide +kernel
theorem n_27_25 : ∀ l, xpr 27 25 l = l := xpr_no (by decide +kernel)
theorem r_27_26 : xfetch 27 26 = some (.ladd, 1) := by decide +kernel
theorem n_27_26 : ∀ l, xpr 27 26 l = l := xpr_no (by decide +kernel)
theorem r_27_27 : xfetch 27 27 = some (.lstore 4, 2) := by decide +kernel
theorem n_27_27 : ∀ l, xpr 27 27 l = l := xpr_no (by decide +kernel)
theorem r_27_29 : xfetch 27 29 = some (.iinc 6 1, 3) := by decide +kernel
theorem n_27_29 : ∀ l, xpr 27 29 l = l := xpr_no (by decide +kernel)
theorem r_27_32 : xfetch 27 32 = some (.goto (-26), 3) := by decide +kernel
theorem n_27_32 : ∀ l, xpr 27 32 l = l := xpr_no (by decide +kernel)
theorem r_27_35 : xfetch 27 35 = some (.iconst 0, 1) := by decide +kernel
theorem n_27_35 : ∀ l, xpr 27 35 l = l := xpr_no (by decide +kernel)
theorem r_27_36 : xfetch 27 36 = some (.istore 6, 2) := by decide +kernel
theorem n_27_36 : ∀ l, xpr 27 36 l = l := xpr_no (by decide +kernel)
theorem r_27_38 : xfetch 27 38 = some (.iload 6, 2) := by decide +kernel
theorem r_27_40 : xfetch 27 40 = some (.aload_n 0, 1) := by decide +kernel
theorem n_27_40 : ∀ l, xpr 27 40 l = l := xpr_no (by decide +kernel)
theorem r_27_41 : xfetch 27 41 = some (.getfield 10, 3) := by decide +kernel
theorem n_27_41 : ∀ l, xpr 27 41 l = l := xpr_no (by decide +kernel)
theorem r_27_44 : xfetch 27 44 = some (.getfield 83, 3) := by decide +kernel
theorem n_27_44 : ∀ l, xpr 27 44 l = l := xpr_no (by decide +kernel)
theorem r_27_47 : xfetch 27 47 = some (.iload_n 3, 1) := by decide +kernel
theorem n_27_47 : ∀ l, xpr 27 47 l = l := xpr_no (by decide +kernel)
theorem r_27_48 : xfetch 27 48 = some (.aaload, 1) := by decide +kernel
theorem n_27_48 : ∀ l, xpr 27 48 l = l := xpr_no (by decide +kernel)
theorem r_27_49 : xfetch 27 49 = some (.getfield 133, 3) := by decide +kernel
theorem n_27_49 : ∀ l, xpr 27 49 l = l := xpr_no (by decide +kernel)
theorem r_27_52 : xfetch 27 52 = some (.if_icmp .ge 43, 3) := by decide +kernel
theorem n_27_52 : ∀ l, xpr 27 52 l = l := xpr_no (by decide +kernel)
theorem r_27_55 : xfetch 27 55 = some (.iconst 0, 1) := by decide +kernel
theorem n_27_55 : ∀ l, xpr 27 55 l = l := xpr_no (by decide +kernel)
theorem r_27_56 : xfetch 27 56 = some (.istore 7, 2) := by decide +kernel
theorem n_27_56 : ∀ l, xpr 27 56 l = l := xpr_no (by decide +kernel)
theorem r_27_58 : xfetch 27 58 = some (.iload 7, 2) := by decide +kernel
theorem r_27_60 : xfetch 27 60 = some (.iconst 4, 1) := by decide +kernel
theorem n_27_60 : ∀ l, xpr 27 60 l = l := xpr_no (by decide +kernel)
theorem r_27_61 : xfetch 27 61 = some (.if_icmp .gt 28, 3) := by decide +kernel
theorem n_27_61 : ∀ l, xpr 27 61 l = l := xpr_no (by decide +kernel)
theorem r_27_64 : xfetch 27 64 = some (.ldc2_w 391, 3) := by decide +kernel
theorem n_27_64 : ∀ l, xpr 27 64 l = l := xpr_no (by decide +kernel)
theorem r_27_67 : xfetch 27 67 = some (.lload 4, 2) := by decide +kernel
theorem n_27_67 : ∀ l, xpr 27 67 l = l := xpr_no (by decide +kernel)
theorem r_27_69 : xfetch 27 69 = some (.lmul, 1) := by decide +kernel
theorem n_27_69 : ∀ l, xpr 27 69 l = l := xpr_no (by decide +kernel)
theorem r_27_70 : xfetch 27 70 = some (.aload_n 0, 1) := by decide +kernel
theorem n_27_70 : ∀ l, xpr 27 70 l = l := xpr_no (by decide +kernel)
theorem r_27_71 : xfetch 27 71 = some (.iload_n 3, 1) := by decide +kernel
theorem n_27_71 : ∀ l, xpr 27 71 l = l := xpr_no (by decide +kernel)
theorem r_27_72 : xfetch 27 72 = some (.iload 6, 2) := by decide +kernel
theorem n_27_72 : ∀ l, xpr 27 72 l = l := xpr_no (by decide +kernel)
theorem r_27_74 : xfetch 27 74 = some (.iload 7, 2) := by decide +kernel
theorem n_27_74 : ∀ l, xpr 27 74 l = l := xpr_no (by decide +kernel)
theorem r_27_76 : xfetch 27 76 = some (.invokevirtual 162, 3) := by decide +kernel
theorem n_27_76 : ∀ l, xpr 27 76 l = l := xpr_no (by decide +kernel)
theorem r_27_79 : xfetch 27 79 = some (.i2l, 1) := by decide +kernel
theorem n_27_79 : ∀ l, xpr 27 79 l = l := xpr_no (by decide +kernel)
theorem r_27_80 : xfetch 27 80 = some (.ladd, 1) := by decide +kernel
theorem n_27_80 : ∀ l, xpr 27 80 l = l := xpr_no (by decide +kernel)
theorem r_27_81 : xfetch 27 81 = some (.lstore 4, 2) := by decide +kernel
theorem n_27_81 : ∀ l, xpr 27 81 l = l := xpr_no (by decide +kernel)
theorem r_27_83 : xfetch 27 83 = some (.iinc 7 1, 3) := by decide +kernel
theorem n_27_83 : ∀ l, xpr 27 83 l = l := xpr_no (by decide +kernel)
theorem r_27_86 : xfetch 27 86 = some (.goto (-28), 3) := by decide +kernel
theorem n_27_86 : ∀ l, xpr 27 86 l = l := xpr_no (by decide +kernel)
theorem r_27_89 : xfetch 27 89 = some (.iinc 6 1, 3) := by decide +kernel
theorem n_27_89 : ∀ l, xpr 27 89 l = l := xpr_no (by decide +kernel)
theorem r_27_92 : xfetch 27 92 = some (.goto (-54), 3) := by decide +kernel
theorem n_27_92 : ∀ l, xpr 27 92 l = l := xpr_no (by decide +kernel)
theorem r_27_95 : xfetch 27 95 = some (.lload 4, 2) := by decide +kernel
theorem n_27_95 : ∀ l, xpr 27 95 l = l := xpr_no (by decide +kernel)
theorem r_27_97 : xfetch 27 97 = some (.lreturn, 1) := by decide +kernel
theorem n_27_97 : ∀ l, xpr 27 97 l = l := xpr_no (by decide +kernel)
theorem v_RL_hashRecord_0 {S : Option (Nat × (Nat → Int32))} {s : zSt} {Q : Option Value ⊕ Nat → zSt → Prop} {u1 : Int64} {x3 : Int} 
    (h : wp S 27 6 [(0, rf 2), (3, iv x3), (4, .long u1), (6, iv 0)] [] s Q) :
    wp S 27 0 [(0, rf 2), (1, .long u1), (3, iv x3)] [] s Q := by
  refine i_lload_n (u := u1) r_27_0 (n_27_0 _) rfl ?_
  refine i_lstore (l' := [(0, rf 2), (1, .long u1), (3, iv x3), (4, .long u1)]) r_27_1 (n_27_1 _) (by decide) rfl ?_
  refine i_iconst r_27_3 (n_27_3 _) ?_
  refine i_istore (l' := [(0, rf 2), (1, .long u1), (3, iv x3), (4, .long u1), (6, iv 0)]) r_27_4 (n_27_4 _) (by decide) rfl ?_
  exact wp_pr (l' := [(0, rf 2), (3, iv x3), (4, .long u1), (6, iv 0)]) rfl h
theorem v_RL_hashRecord_6 {S : Option (Nat × (Nat → Int32))} {s : zSt} {Q : Option Value ⊕ Nat → zSt → Prop} {x3 : Int} {u4 : Int64} {x6 : Int} 
    (h : rng x6 ∧ ((5 < x6 → wp S 27 38 [(0, rf 2), (3, iv x3), (4, .long u4), (6, iv 0)] [] s Q) ∧ (x6 ≤ 5 → wp S 28 0 [(0, rf 2), (1, iv x3), (2, iv x6)] [] s (fun o3 s3 => zkI (fun y3 => wp S 27 6 [(0, rf 2), (3, iv x3), (4, .long ((31 * u4) + (zi2l y3))), (6, iv (x6 + 1))] [] s3 Q) (fun e3 => False) o3)))) :
    wp S 27 6 [(0, rf 2), (3, iv x3), (4, .long u4), (6, iv x6)] [] s Q := by
  refine i_iload (x := x6) r_27_6 rfl rfl ?_
  refine i_iconst r_27_8 (n_27_8 _) ?_
  obtain ⟨g1, h⟩ := h
  refine i_icmp (t := 35) r_27_9 (n_27_9 _) rfl (T_gt g1 ⟨by omega, by omega⟩) (fun c2 => ?_) (fun c2 => ?_)
  · replace h := h.1 c2
    refine i_iconst r_27_35 (n_27_35 _) ?_
    refine i_istore (l' := [(0, rf 2), (3, iv x3), (4, .long u4), (6, iv 0)]) r_27_36 (n_27_36 _) (by decide) rfl ?_
    exact wp_pr (l' := [(0, rf 2), (3, iv x3), (4, .long u4), (6, iv 0)]) rfl h
  · replace h := h.2 c2
    refine i_ldc2 r_27_12 (n_27_12 _) rfl ?_
    refine i_lload (u := u4) r_27_15 (n_27_15 _) rfl ?_
    refine i_lmul r_27_17 (n_27_17 _) ?_
    refine i_aload_n (a := 2) r_27_18 (n_27_18 _) rfl ?_
    refine i_iload_n (x := x3) r_27_19 (n_27_19 _) rfl ?_
    refine i_iload (x := x6) r_27_20 (n_27_20 _) rfl ?_
    refine wp_virt (b := 2) (rest := [.long (31 * u4)]) (Ls := [(0, rf 2), (1, iv x3), (2, iv x6)]) r_27_22 (n_27_22 _) rfl ⟨rfl, rfl, by decide, by decide⟩ rfl rfl lf_2 ⟨rfl, Nat.le_of_ble_eq_true rfl, Nat.le_of_ble_eq_true rfl⟩ rfl h ?_
    intro o3 s3 h
    rcases h with ⟨y3, q4, rfl, h⟩ | ⟨e3, rfl, h⟩
    · refine .inl ⟨some (iv y3), rfl, ?_⟩
      show wp S 27 25 [(0, rf 2), (3, iv x3), (4, .long u4), (6, iv x6)] [iv y3, .long (31 * u4)] s3 Q
      refine i_i2l r_27_25 (n_27_25 _) ?_
      refine i_ladd r_27_26 (n_27_26 _) ?_
      refine i_lstore (l' := [(0, rf 2), (3, iv x3), (4, .long ((31 * u4) + (zi2l y3))), (6, iv x6)]) r_27_27 (n_27_27 _) (by decide) rfl ?_
      refine i_iinc (x := x6) (l' := [(0, rf 2), (3, iv x3), (4, .long ((31 * u4) + (zi2l y3))), (6, iv (x6 + 1))]) r_27_29 (n_27_29 _) (by decide) rfl rfl ?_
      refine i_goto (t := 6) r_27_32 (n_27_32 _) rfl ?_
      exact wp_pr (l' := [(0, rf 2), (3, iv x3), (4, .long ((31 * u4) + (zi2l y3))), (6, iv (x6 + 1))]) rfl h
    · skip
      exact h.elim
theorem v_RL_hashRecord_38 {S : Option (Nat × (Nat → Int32))} {s : zSt} {Q : Option Value ⊕ Nat → zSt → Prop} {x3 : Int} {u4 : Int64} {x6 : Int} 
    (h : (0 ≤ x3 ∧ x3 < 6) ∧ (rng x6 ∧ (((zI s (7 + 4 * x3) 1) ≤ x6 → Q (rL u4) s) ∧ (x6 < (zI s (7 + 4 * x3) 1) → wp S 27 58 [(0, rf 2), (3, iv x3), (4, .long u4), (6, iv x6), (7, iv 0)] [] s Q)))) :
    wp S 27 38 [(0, rf 2), (3, iv x3), (4, .long u4), (6, iv x6)] [] s Q := by
  refine i_iload (x := x6) r_27_38 rfl rfl ?_
  refine i_aload_n (a := 2) r_27_40 (n_27_40 _) rfl ?_
  refine i_getR (a := 2) (b := 3) r_27_41 (n_27_41 _) rfl rfl rfl (by omega) lf_2 (by omega) ?_
  refine i_getR (a := 3) (b := 4) r_27_44 (n_27_44 _) rfl rfl rfl (by omega) lf_3 (by omega) ?_
  refine i_iload_n (x := x3) r_27_47 (n_27_47 _) rfl ?_
  obtain ⟨g1, h⟩ := h
  refine i_aaload (c := 1) (a := 4) (j := x3) (b := 7 + 4 * x3) r_27_48 (n_27_48 _) lf_4 ⟨by omega, by omega⟩ (by omega) (by omega) rfl (by omega) ?_
  have t2 := e_1 (j := x3) lf_4 (by omega) (by omega)
  rw [show 4 + 3 + 4 * x3 = 7 + 4 * x3 by omega] at t2
  refine i_getI (a := 7 + 4 * x3) r_27_49 (n_27_49 _) rfl (by decide) t2 (fun q3 => ?_)
  obtain ⟨g4, h⟩ := h
  refine i_icmp (t := 95) r_27_52 (n_27_52 _) rfl (T_ge g4 q3) (fun c5 => ?_) (fun c5 => ?_)
  · replace h := h.1 c5
    refine i_lload (u := u4) r_27_95 (n_27_95 _) rfl ?_
    exact i_lreturn r_27_97 (n_27_97 _) rfl h
  · replace h := h.2 c5
    refine i_iconst r_27_55 (n_27_55 _) ?_
    refine i_istore (l' := [(0, rf 2), (3, iv x3), (4, .long u4), (6, iv x6), (7, iv 0)]) r_27_56 (n_27_56 _) (by decide) rfl ?_
    exact wp_pr (l' := [(0, rf 2), (3, iv x3), (4, .long u4), (6, iv x6), (7, iv 0)]) rfl h
theorem v_RL_hashRecord_58 {S : Option (Nat × (Nat → Int32))} {s : zSt} {Q : Option Value ⊕ Nat → zSt → Prop} {x3 : Int} {u4 : Int64} {x6 : Int} {x7 : Int} 
    (h : rng x7 ∧ ((4 < x7 → wp S 27 38 [(0, rf 2), (3, iv x3), (4, .long u4), (6, iv (x6 + 1))] [] s Q) ∧ (x7 ≤ 4 → wp S 32 0 [(0, rf 2), (1, iv x3), (2, iv x6), (3, iv x7)] [] s (fun o3 s3 => zkI (fun y3 => wp S 27 58 [(0, rf 2), (3, iv x3), (4, .long ((31 * u4) + (zi2l y3))), (6, iv x6), (7, iv (x7 + 1))] [] s3 Q) (fun e3 => False) o3)))) :
    wp S 27 58 [(0, rf 2), (3, iv x3), (4, .long u4), (6, iv x6), (7, iv x7)] [] s Q := by
  refine i_iload (x := x7) r_27_58 rfl rfl ?_
  refine i_iconst r_27_60 (n_27_60 _) ?_
  obtain ⟨g1, h⟩ := h
  refine i_icmp (t := 89) r_27_61 (n_27_61 _) rfl (T_gt g1 ⟨by omega, by omega⟩) (fun c2 => ?_) (fun c2 => ?_)
  · replace h := h.1 c2
    refine i_iinc (x := x6) (l' := [(0, rf 2), (3, iv x3), (4, .long u4), (6, iv (x6 + 1)), (7, iv x7)]) r_27_89 (n_27_89 _) (by decide) rfl rfl ?_
    refine i_goto (t := 38) r_27_92 (n_27_92 _) rfl ?_
    exact wp_pr (l' := [(0, rf 2), (3, iv x3), (4, .long u4), (6, iv (x6 + 1))]) rfl h
  · replace h := h.2 c2
    refine i_ldc2 r_27_64 (n_27_64 _) rfl ?_
    refine i_lload (u := u4) r_27_67 (n_27_67 _) rfl ?_
    refine i_lmul r_27_69 (n_27_69 _) ?_
    refine i_aload_n (a := 2) r_27_70 (n_27_70 _) rfl ?_
    refine i_iload_n (x := x3) r_27_71 (n_27_71 _) rfl ?_
    refine i_iload (x := x6) r_27_72 (n_27_72 _) rfl ?_
    refine i_iload (x := x7) r_27_74 (n_27_74 _) rfl ?_
    refine wp_virt (b := 2) (rest := [.long (31 * u4)]) (Ls := [(0, rf 2), (1, iv x3), (2, iv x6), (3, iv x7)]) r_27_76 (n_27_76 _) rfl ⟨rfl, rfl, by decide, by decide⟩ rfl rfl lf_2 ⟨rfl, Nat.le_of_ble_eq_true rfl, Nat.le_of_ble_eq_true rfl⟩ rfl h ?_
    intro o3 s3 h
    rcases h with ⟨y3, q4, rfl, h⟩ | ⟨e3, rfl, h⟩
    · refine .inl ⟨some (iv y3), rfl, ?_⟩
      show wp S 27 79 [(0, rf 2), (3, iv x3), (4, .long u4), (6, iv x6), (7, iv x7)] [iv y3, .long (31 * u4)] s3 Q
      refine i_i2l r_27_79 (n_27_79 _) ?_
      refine i_ladd r_27_80 (n_27_80 _) ?_
      refine i_lstore (l' := [(0, rf 2), (3, iv x3), (4, .long ((31 * u4) + (zi2l y3))), (6, iv x6), (7, iv x7)]) r_27_81 (n_27_81 _) (by decide) rfl ?_
      refine i_iinc (x := x7) (l' := [(0, rf 2), (3, iv x3), (4, .long ((31 * u4) + (zi2l y3))), (6, iv x6), (7, iv (x7 + 1))]) r_27_83 (n_27_83 _) (by decide) rfl rfl ?_
      refine i_goto (t := 58) r_27_86 (n_27_86 _) rfl ?_
      exact wp_pr (l' := [(0, rf 2), (3, iv x3), (4, .long ((31 * u4) + (zi2l y3))), (6, iv x6), (7, iv (x7 + 1))]) rfl h
    · skip
      exact h.elim
theorem r_28_0 : xfetch 28 0 = some (.aload_n 0, 1) := by decide +kernel
theorem n_28_0 : ∀ l, xpr 28 0 l = l := xpr_no (by decide +kernel)
theorem r_28_1 : xfetch 28 1 = some (.getfield 18, 3) := by decide +kernel
theorem n_28_1 : ∀ l, xpr 28 1 l = l := xpr_no (by decide +kernel)
theorem r_28_4 : xfetch 28 4 = some (.iload_n 1, 1) := by decide +kernel
theorem n_28_4 : ∀ l, xpr 28 4 l = l := xpr_no (by decide +kernel)
theorem r_28_5 : xfetch 28 5 = some (.aaload, 1) := by decide +kernel
theorem n_28_5 : ∀ l, xpr 28 5 l = l := xpr_no (by decide +kernel)
theorem r_28_6 : xfetch 28 6 = some (.astore_n 3, 1) := by decide +kernel
theorem n_28_6 : ∀ l, xpr 28 6 l = l := xpr_no (by decide +kernel)
theorem r_28_7 : xfetch 28 7 = some (.iload_n 2, 1) := by decide +kernel
theorem n_28_7 : ∀ l, xpr 28 7 l = l := xpr_no (by decide +kernel)
theorem r_28_8 : xfetch 28 8 = some (.tableswitch 94 0 5 #[40, 53, 66, 71, 76, 86], 40) := by decide +kernel
theorem n_28_8 : ∀ l, xpr 28 8 l = l := xpr_no (by decide +kernel)
theorem r_28_48 : xfetch 28 48 = some (.aload_n 0, 1) := by decide +kernel
theorem n_28_48 : ∀ l, xpr 28 48 l = l := xpr_no (by decide +kernel)
theorem r_28_49 : xfetch 28 49 = some (.getfield 10, 3) := by decide +kernel
theorem n_28_49 : ∀ l, xpr 28 49 l = l := xpr_no (by decide +kernel)
theorem r_28_52 : xfetch 28 52 = some (.getfield 83, 3) := by decide +kernel
theorem n_28_52 : ∀ l, xpr 28 52 l = l := xpr_no (by decide +kernel)
theorem r_28_55 : xfetch 28 55 = some (.iload_n 1, 1) := by decide +kernel
theorem n_28_55 : ∀ l, xpr 28 55 l = l := xpr_no (by decide +kernel)
theorem r_28_56 : xfetch 28 56 = some (.aaload, 1) := by decide +kernel
theorem n_28_56 : ∀ l, xpr 28 56 l = l := xpr_no (by decide +kernel)
theorem r_28_57 : xfetch 28 57 = some (.getfield 224, 3) := by decide +kernel
theorem n_28_57 : ∀ l, xpr 28 57 l = l := xpr_no (by decide +kernel)
theorem r_28_60 : xfetch 28 60 = some (.ireturn, 1) := by decide +kernel
theorem n_28_60 : ∀ l, xpr 28 60 l = l := xpr_no (by decide +kernel)
theorem r_28_61 : xfetch 28 61 = some (.aload_n 0, 1) := by decide +kernel
theorem n_28_61 : ∀ l, xpr 28 61 l = l := xpr_no (by decide +kernel)
theorem r_28_62 : xfetch 28 62 = some (.getfield 10, 3) := by decide +kernel
theorem n_28_62 : ∀ l, xpr 28 62 l = l := xpr_no (by decide +kernel)
theorem r_28_65 : xfetch 28 65 = some (.getfield 83, 3) := by decide +kernel
theorem n_28_65 : ∀ l, xpr 28 65 l = l := xpr_no (by decide +kernel)
theorem r_28_68 : xfetch 28 68 = some (.iload_n 1, 1) := by decide +kernel
theorem n_28_68 : ∀ l, xpr 28 68 l = l := xpr_no (by decide +kernel)
theorem r_28_69 : xfetch 28 69 = some (.aaload, 1) := by decide +kernel
theorem n_28_69 : ∀ l, xpr 28 69 l = l := xpr_no (by decide +kernel)
theorem r_28_70 : xfetch 28 70 = some (.getfield 133, 3) := by decide +kernel
theorem n_28_70 : ∀ l, xpr 28 70 l = l := xpr_no (by decide +kernel)
theorem r_28_73 : xfetch 28 73 = some (.ireturn, 1) := by decide +kernel
theorem n_28_73 : ∀ l, xpr 28 73 l = l := xpr_no (by decide +kernel)
theorem r_28_74 : xfetch 28 74 = some (.aload_n 3, 1) := by decide +kernel
theorem n_28_74 : ∀ l, xpr 28 74 l = l := xpr_no (by decide +kernel)
theorem r_28_75 : xfetch 28 75 = some (.invokevirtual 446, 3) := by decide +kernel
theorem n_28_75 : ∀ l, xpr 28 75 l = l := xpr_no (by decide +kernel)
theorem r_28_78 : xfetch 28 78 = some (.ireturn, 1) := by decide +kernel
theorem n_28_78 : ∀ l, xpr 28 78 l = l := xpr_no (by decide +kernel)
theorem r_28_79 : xfetch 28 79 = some (.aload_n 3, 1) := by decide +kernel
theorem n_28_79 : ∀ l, xpr 28 79 l = l := xpr_no (by decide +kernel)
theorem r_28_80 : xfetch 28 80 = some (.getfield 448, 3) := by decide +kernel
theorem n_28_80 : ∀ l, xpr 28 80 l = l := xpr_no (by decide +kernel)
theorem r_28_83 : xfetch 28 83 = some (.ireturn, 1) := by decide +kernel
theorem n_28_83 : ∀ l, xpr 28 83 l = l := xpr_no (by decide +kernel)
theorem r_28_84 : xfetch 28 84 = some (.aload_n 3, 1) := by decide +kernel
theorem n_28_84 : ∀ l, xpr 28 84 l = l := xpr_no (by decide +kernel)
theorem r_28_85 : xfetch 28 85 = some (.invokevirtual 446, 3) := by decide +kernel
theorem n_28_85 : ∀ l, xpr 28 85 l = l := xpr_no (by decide +kernel)
theorem r_28_88 : xfetch 28 88 = some (.aload_n 3, 1) := by decide +kernel
theorem n_28_88 : ∀ l, xpr 28 88 l = l := xpr_no (by decide +kernel)
theorem r_28_89 : xfetch 28 89 = some (.getfield 451, 3) := by decide +kernel
theorem n_28_89 : ∀ l, xpr 28 89 l = l := xpr_no (by decide +kernel)
theorem r_28_92 : xfetch 28 92 = some (.isub, 1) := by decide +kernel
theorem n_28_92 : ∀ l, xpr 28 92 l = l := xpr_no (by decide +kernel)
theorem r_28_93 : xfetch 28 93 = some (.ireturn, 1) := by decide +kernel
theorem n_28_93 : ∀ l, xpr 28 93 l = l := xpr_no (by decide +kernel)
theorem r_28_94 : xfetch 28 94 = some (.aload_n 3, 1) := by decide +kernel
theorem n_28_94 : ∀ l, xpr 28 94 l = l := xpr_no (by decide +kernel)
theorem r_28_95 : xfetch 28 95 = some (.getfield 120, 3) := by decide +kernel
theorem n_28_95 : ∀ l, xpr 28 95 l = l := xpr_no (by decide +kernel)
theorem r_28_98 : xfetch 28 98 = some (.getfield 124, 3) := by decide +kernel
theorem n_28_98 : ∀ l, xpr 28 98 l = l := xpr_no (by decide +kernel)
theorem r_28_101 : xfetch 28 101 = some (.ireturn, 1) := by decide +kernel
theorem n_28_101 : ∀ l, xpr 28 101 l = l := xpr_no (by decide +kernel)
theorem r_28_102 : xfetch 28 102 = some (.aload_n 0, 1) := by decide +kernel
theorem n_28_102 : ∀ l, xpr 28 102 l = l := xpr_no (by decide +kernel)
theorem r_28_103 : xfetch 28 103 = some (.iload_n 1, 1) := by decide +kernel
theorem n_28_103 : ∀ l, xpr 28 103 l = l := xpr_no (by decide +kernel)
theorem r_28_104 : xfetch 28 104 = some (.invokevirtual 134, 3) := by decide +kernel
theorem n_28_104 : ∀ l, xpr 28 104 l = l := xpr_no (by decide +kernel)
theorem r_28_107 : xfetch 28 107 = some (.ifCond .eq 7, 3) := by decide +kernel
theorem n_28_107 : ∀ l, xpr 28 107 l = l := xpr_no (by decide +kernel)
theorem r_28_110 : xfetch 28 110 = some (.iconst 1, 1) := by decide +kernel
theorem n_28_110 : ∀ l, xpr 28 110 l = l := xpr_no (by decide +kernel)
theorem r_28_111 : xfetch 28 111 = some (.goto 4, 3) := by decide +kernel
theorem n_28_111 : ∀ l, xpr 28 111 l = l := xpr_no (by decide +kernel)
theorem r_28_114 : xfetch 28 114 = some (.iconst 0, 1) := by decide +kernel
theorem n_28_114 : ∀ l, xpr 28 114 l = l := xpr_no (by decide +kernel)
theorem r_28_115 : xfetch 28 115 = some (.ireturn, 1) := by decide +kernel
theorem n_28_115 : ∀ l, xpr 28 115 l = l := xpr_no (by decide +kernel)
theorem v_RL_recordNumber_0 {S : Option (Nat × (Nat → Int32))} {s : zSt} {Q : Option Value ⊕ Nat → zSt → Prop} {x1 : Int} {x2 : Int} 
    (h : (0 ≤ x1 ∧ x1 < 6) ∧ (rng x2 ∧ ((x2 = 0 → Q (rI (zI s (7 + 4 * x1) 0)) s) ∧ ((x2 = 1 → Q (rI (zI s (7 + 4 * x1) 1)) s) ∧ ((x2 = 2 → (zp2 (zI s (62 + 11 * x1) 5)) ∧ ((0 ≤ (zI s (62 + 11 * x1) 7)) ∧ (((zI s (62 + 11 * x1) 7) ≤ 1000000) ∧ (Q (rI (zup (zI s (62 + 11 * x1) 7) (zI s (62 + 11 * x1) 5))) s)))) ∧ ((x2 = 3 → Q (rI (zI s (62 + 11 * x1) 5)) s) ∧ ((x2 = 4 → (zp2 (zI s (62 + 11 * x1) 5)) ∧ ((0 ≤ (zI s (62 + 11 * x1) 7)) ∧ (((zI s (62 + 11 * x1) 7) ≤ 1000000) ∧ (Q (rI ((zup (zI s (62 + 11 * x1) 7) (zI s (62 + 11 * x1) 5)) - (zI s (62 + 11 * x1) 6))) s)))) ∧ ((x2 = 5 → Q (rI (zI s (67 + 11 * x1) 0)) s) ∧ (((x2 < 0 ∨ 5 < x2) → wp S 30 0 [(0, rf 2), (1, iv x1)] [] s (fun o21 s21 => zkI (fun y21 => (y21 = 0 → Q (rI 0) s21) ∧ (y21 ≠ 0 → Q (rI 1) s21)) (fun e21 => False) o21))))))))))) :
    wp S 28 0 [(0, rf 2), (1, iv x1), (2, iv x2)] [] s Q := by
  refine i_aload_n (a := 2) r_28_0 (n_28_0 _) rfl ?_
  refine i_getR (a := 2) (b := 34) r_28_1 (n_28_1 _) rfl rfl rfl (by omega) lf_2 (by omega) ?_
  refine i_iload_n (x := x1) r_28_4 (n_28_4 _) rfl ?_
  obtain ⟨g1, h⟩ := h
  refine i_aaload (c := 4) (a := 34) (j := x1) (b := 62 + 11 * x1) r_28_5 (n_28_5 _) lf_34 ⟨by omega, by omega⟩ (by omega) (by omega) rfl (by omega) ?_
  have t2 := e_4 (j := x1) lf_34 (by omega) (by omega)
  rw [show 34 + 28 + 11 * x1 = 62 + 11 * x1 by omega] at t2
  refine i_astore_n (l' := [(0, rf 2), (1, iv x1), (2, iv x2), (3, rf (62 + 11 * x1))]) r_28_6 (n_28_6 _) (by decide) rfl ?_
  refine i_iload_n (x := x2) r_28_7 (n_28_7 _) rfl ?_
  obtain ⟨g3, h⟩ := h
  rcases (by omega : x2 = 0 ∨ x2 = 1 ∨ x2 = 2 ∨ x2 = 3 ∨ x2 = 4 ∨ x2 = 5 ∨ (x2 < 0 ∨ 5 < x2)) with c4 | c4 | c4 | c4 | c4 | c4 | c4
  · replace h := h.1 c4
    refine i_sw_hit (kk := 0) (t := 48) r_28_8 (n_28_8 _) (by omega) g3 (by omega) rfl rfl ?_
    refine i_aload_n (a := 2) r_28_48 (n_28_48 _) rfl ?_
    refine i_getR (a := 2) (b := 3) r_28_49 (n_28_49 _) rfl rfl rfl (by omega) lf_2 (by omega) ?_
    refine i_getR (a := 3) (b := 4) r_28_52 (n_28_52 _) rfl rfl rfl (by omega) lf_3 (by omega) ?_
    refine i_iload_n (x := x1) r_28_55 (n_28_55 _) rfl ?_
    refine i_aaload (c := 1) (a := 4) (j := x1) (b := 7 + 4 * x1) r_28_56 (n_28_56 _) lf_4 ⟨by omega, by omega⟩ (by omega) (by omega) rfl (by omega) ?_
    have t5 := e_1 (j := x1) lf_4 (by omega) (by omega)
    rw [show 4 + 3 + 4 * x1 = 7 + 4 * x1 by omega] at t5
    refine i_getI (a := 7 + 4 * x1) r_28_57 (n_28_57 _) rfl (by decide) t5 (fun q6 => ?_)
    exact i_ireturn r_28_60 (n_28_60 _) rfl h
  · replace h := h.2.1 c4
    refine i_sw_hit (kk := 1) (t := 61) r_28_8 (n_28_8 _) (by omega) g3 (by omega) rfl rfl ?_
    refine i_aload_n (a := 2) r_28_61 (n_28_61 _) rfl ?_
    refine i_getR (a := 2) (b := 3) r_28_62 (n_28_62 _) rfl rfl rfl (by omega) lf_2 (by omega) ?_
    refine i_getR (a := 3) (b := 4) r_28_65 (n_28_65 _) rfl rfl rfl (by omega) lf_3 (by omega) ?_
    refine i_iload_n (x := x1) r_28_68 (n_28_68 _) rfl ?_
    refine i_aaload (c := 1) (a := 4) (j := x1) (b := 7 + 4 * x1) r_28_69 (n_28_69 _) lf_4 ⟨by omega, by omega⟩ (by omega) (by omega) rfl (by omega) ?_
    have t7 := e_1 (j := x1) lf_4 (by omega) (by omega)
    rw [show 4 + 3 + 4 * x1 = 7 + 4 * x1 by omega] at t7
    refine i_getI (a := 7 + 4 * x1) r_28_70 (n_28_70 _) rfl (by decide) t7 (fun q8 => ?_)
    exact i_ireturn r_28_73 (n_28_73 _) rfl h
  · replace h := h.2.2.1 c4
    refine i_sw_hit (kk := 2) (t := 74) r_28_8 (n_28_8 _) (by omega) g3 (by omega) rfl rfl ?_
    refine i_aload_n (a := 62 + 11 * x1) r_28_74 (n_28_74 _) rfl ?_
    obtain ⟨g9, h⟩ := h
    obtain ⟨g10, h⟩ := h
    obtain ⟨g11, h⟩ := h
    refine wp_virt (b := 62 + 11 * x1) (rest := []) (Ls := [(0, rf (62 + 11 * x1))]) r_28_75 (n_28_75 _) rfl ⟨rfl, rfl, by decide, by decide⟩ rfl rfl t2 ⟨rfl, Nat.le_of_ble_eq_true rfl, Nat.le_of_ble_eq_true rfl⟩ rfl (K_Shape_size t2 g9 g10 g11) ?_
    rintro _ _ ⟨rfl, rfl⟩
    refine .inl ⟨some (iv (zup (zI s (62 + 11 * x1) 7) (zI s (62 + 11 * x1) 5))), rfl, ?_⟩
    show wp S 28 78 [(0, rf 2), (1, iv x1), (2, iv x2), (3, rf (62 + 11 * x1))] [iv (zup (zI s (62 + 11 * x1) 7) (zI s (62 + 11 * x1) 5))] s Q
    exact i_ireturn r_28_78 (n_28_78 _) rfl h
  · replace h := h.2.2.2.1 c4
    refine i_sw_hit (kk := 3) (t := 79) r_28_8 (n_28_8 _) (by omega) g3 (by omega) rfl rfl ?_
    refine i_aload_n (a := 62 + 11 * x1) r_28_79 (n_28_79 _) rfl ?_
    refine i_getI (a := 62 + 11 * x1) r_28_80 (n_28_80 _) rfl (by decide) t2 (fun q13 => ?_)
    exact i_ireturn r_28_83 (n_28_83 _) rfl h
  · replace h := h.2.2.2.2.1 c4
    refine i_sw_hit (kk := 4) (t := 84) r_28_8 (n_28_8 _) (by omega) g3 (by omega) rfl rfl ?_
    refine i_aload_n (a := 62 + 11 * x1) r_28_84 (n_28_84 _) rfl ?_
    obtain ⟨g14, h⟩ := h
    obtain ⟨g15, h⟩ := h
    obtain ⟨g16, h⟩ := h
    refine wp_virt (b := 62 + 11 * x1) (rest := []) (Ls := [(0, rf (62 + 11 * x1))]) r_28_85 (n_28_85 _) rfl ⟨rfl, rfl, by decide, by decide⟩ rfl rfl t2 ⟨rfl, Nat.le_of_ble_eq_true rfl, Nat.le_of_ble_eq_true rfl⟩ rfl (K_Shape_size t2 g14 g15 g16) ?_
    rintro _ _ ⟨rfl, rfl⟩
    refine .inl ⟨some (iv (zup (zI s (62 + 11 * x1) 7) (zI s (62 + 11 * x1) 5))), rfl, ?_⟩
    show wp S 28 88 [(0, rf 2), (1, iv x1), (2, iv x2), (3, rf (62 + 11 * x1))] [iv (zup (zI s (62 + 11 * x1) 7) (zI s (62 + 11 * x1) 5))] s Q
    refine i_aload_n (a := 62 + 11 * x1) r_28_88 (n_28_88 _) rfl ?_
    refine i_getI (a := 62 + 11 * x1) r_28_89 (n_28_89 _) rfl (by decide) t2 (fun q18 => ?_)
    refine i_isub r_28_92 (n_28_92 _) ?_
    exact i_ireturn r_28_93 (n_28_93 _) rfl h
  · replace h := h.2.2.2.2.2.1 c4
    refine i_sw_hit (kk := 5) (t := 94) r_28_8 (n_28_8 _) (by omega) g3 (by omega) rfl rfl ?_
    refine i_aload_n (a := 62 + 11 * x1) r_28_94 (n_28_94 _) rfl ?_
    refine i_getR (a := 62 + 11 * x1) (b := 67 + 11 * x1) r_28_95 (n_28_95 _) rfl rfl rfl (by omega) t2 (by omega) ?_
    have t19 := (t_4_4 t2)
    rw [show (62 + 11 * x1) + 5 = 67 + 11 * x1 by omega] at t19
    refine i_getI (a := 67 + 11 * x1) r_28_98 (n_28_98 _) rfl (by decide) t19 (fun q20 => ?_)
    exact i_ireturn r_28_101 (n_28_101 _) rfl h
  · replace h := h.2.2.2.2.2.2 c4
    refine i_sw_out (t := 102) r_28_8 (n_28_8 _) c4 g3 rfl ?_
    refine i_aload_n (a := 2) r_28_102 (n_28_102 _) rfl ?_
    refine i_iload_n (x := x1) r_28_103 (n_28_103 _) rfl ?_
    refine wp_virt (b := 2) (rest := []) (Ls := [(0, rf 2), (1, iv x1)]) r_28_104 (n_28_104 _) rfl ⟨rfl, rfl, by decide, by decide⟩ rfl rfl lf_2 ⟨rfl, Nat.le_of_ble_eq_true rfl, Nat.le_of_ble_eq_true rfl⟩ rfl h ?_
    intro o21 s21 h
    rcases h with ⟨y21, q22, rfl, h⟩ | ⟨e21, rfl, h⟩
    · refine .inl ⟨some (iv y21), rfl, ?_⟩
      show wp S 28 107 [(0, rf 2), (1, iv x1), (2, iv x2), (3, rf (62 + 11 * x1))] [iv y21] s21 Q
      refine i_if (t := 114) r_28_107 (n_28_107 _) rfl (T_eq q22 ⟨by omega, by omega⟩) (fun c23 => ?_) (fun c23 => ?_)
      · replace h := h.1 c23
        refine i_iconst r_28_114 (n_28_114 _) ?_
        exact i_ireturn r_28_115 (n_28_115 _) rfl h
      · replace h := h.2 c23
        refine i_iconst r_28_110 (n_28_110 _) ?_
        refine i_goto (t := 115) r_28_111 (n_28_111 _) rfl ?_
        exact i_ireturn r_28_115 (n_28_115 _) rfl h
    · skip
      exact h.elim
theorem r_30_0 : xfetch 30 0 = some (.iconst 0, 1) := by decide +kernel
theorem n_30_0 : ∀ l, xpr 30 0 l = l := xpr_no (by decide +kernel)
theorem r_30_1 : xfetch 30 1 = some (.istore_n 2, 1) := by decide +kernel
theorem n_30_1 : ∀ l, xpr 30 1 l = l := xpr_no (by decide +kernel)
theorem r_30_2 : xfetch 30 2 = some (.iload_n 2, 1) := by decide +kernel
theorem r_30_3 : xfetch 30 3 = some (.aload_n 0, 1) := by decide +kernel
theorem n_30_3 : ∀ l, xpr 30 3 l = l := xpr_no (by decide +kernel)
theorem r_30_4 : xfetch 30 4 = some (.getfield 10, 3) := by decide +kernel
theorem n_30_4 : ∀ l, xpr 30 4 l = l := xpr_no (by decide +kernel)
theorem r_30_7 : xfetch 30 7 = some (.getfield 80, 3) := by decide +kernel
theorem n_30_7 : ∀ l, xpr 30 7 l = l := xpr_no (by decide +kernel)
theorem r_30_10 : xfetch 30 10 = some (.if_icmp .ge 30, 3) := by decide +kernel
theorem n_30_10 : ∀ l, xpr 30 10 l = l := xpr_no (by decide +kernel)
theorem r_30_13 : xfetch 30 13 = some (.aload_n 0, 1) := by decide +kernel
theorem n_30_13 : ∀ l, xpr 30 13 l = l := xpr_no (by decide +kernel)
theorem r_30_14 : xfetch 30 14 = some (.getfield 10, 3) := by decide +kernel
theorem n_30_14 : ∀ l, xpr 30 14 l = l := xpr_no (by decide +kernel)
theorem r_30_17 : xfetch 30 17 = some (.getfield 83, 3) := by decide +kernel
theorem n_30_17 : ∀ l, xpr 30 17 l = l := xpr_no (by decide +kernel)
theorem r_30_20 : xfetch 30 20 = some (.iload_n 2, 1) := by decide +kernel
theorem n_30_20 : ∀ l, xpr 30 20 l = l := xpr_no (by decide +kernel)
theorem r_30_21 : xfetch 30 21 = some (.aaload, 1) := by decide +kernel
theorem n_30_21 : ∀ l, xpr 30 21 l = l := xpr_no (by decide +kernel)
theorem r_30_22 : xfetch 30 22 = some (.bipush 100, 2) := by decide +kernel
theorem n_30_22 : ∀ l, xpr 30 22 l = l := xpr_no (by decide +kernel)
theorem r_30_24 : xfetch 30 24 = some (.iload_n 1, 1) := by decide +kernel
theorem n_30_24 : ∀ l, xpr 30 24 l = l := xpr_no (by decide +kernel)
theorem r_30_25 : xfetch 30 25 = some (.iadd, 1) := by decide +kernel
theorem n_30_25 : ∀ l, xpr 30 25 l = l := xpr_no (by decide +kernel)
theorem r_30_26 : xfetch 30 26 = some (.invokevirtual 431, 3) := by decide +kernel
theorem n_30_26 : ∀ l, xpr 30 26 l = l := xpr_no (by decide +kernel)
theorem r_30_29 : xfetch 30 29 = some (.ifCond .eq 5, 3) := by decide +kernel
theorem n_30_29 : ∀ l, xpr 30 29 l = l := xpr_no (by decide +kernel)
theorem r_30_32 : xfetch 30 32 = some (.iconst 1, 1) := by decide +kernel
theorem n_30_32 : ∀ l, xpr 30 32 l = l := xpr_no (by decide +kernel)
theorem r_30_33 : xfetch 30 33 = some (.ireturn, 1) := by decide +kernel
theorem n_30_33 : ∀ l, xpr 30 33 l = l := xpr_no (by decide +kernel)
theorem r_30_34 : xfetch 30 34 = some (.iinc 2 1, 3) := by decide +kernel
theorem n_30_34 : ∀ l, xpr 30 34 l = l := xpr_no (by decide +kernel)
theorem r_30_37 : xfetch 30 37 = some (.goto (-35), 3) := by decide +kernel
theorem n_30_37 : ∀ l, xpr 30 37 l = l := xpr_no (by decide +kernel)
theorem r_30_40 : xfetch 30 40 = some (.iconst 0, 1) := by decide +kernel
theorem n_30_40 : ∀ l, xpr 30 40 l = l := xpr_no (by decide +kernel)
theorem r_30_41 : xfetch 30 41 = some (.istore_n 2, 1) := by decide +kernel
theorem n_30_41 : ∀ l, xpr 30 41 l = l := xpr_no (by decide +kernel)
theorem r_30_42 : xfetch 30 42 = some (.iload_n 2, 1) := by decide +kernel
theorem r_30_43 : xfetch 30 43 = some (.iconst 3, 1) := by decide +kernel
theorem n_30_43 : ∀ l, xpr 30 43 l = l := xpr_no (by decide +kernel)
theorem r_30_44 : xfetch 30 44 = some (.if_icmp .ge 42, 3) := by decide +kernel
theorem n_30_44 : ∀ l, xpr 30 44 l = l := xpr_no (by decide +kernel)
theorem r_30_47 : xfetch 30 47 = some (.aload_n 0, 1) := by decide +kernel
theorem n_30_47 : ∀ l, xpr 30 47 l = l := xpr_no (by decide +kernel)
theorem r_30_48 : xfetch 30 48 = some (.getfield 10, 3) := by decide +kernel
theorem n_30_48 : ∀ l, xpr 30 48 l = l := xpr_no (by decide +kernel)
theorem r_30_51 : xfetch 30 51 = some (.getfield 256, 3) := by decide +kernel
theorem n_30_51 : ∀ l, xpr 30 51 l = l := xpr_no (by decide +kernel)
theorem r_30_54 : xfetch 30 54 = some (.iload_n 2, 1) := by decide +kernel
theorem n_30_54 : ∀ l, xpr 30 54 l = l := xpr_no (by decide +kernel)
theorem r_30_55 : xfetch 30 55 = some (.aaload, 1) := by decide +kernel
theorem n_30_55 : ∀ l, xpr 30 55 l = l := xpr_no (by decide +kernel)
theorem r_30_56 : xfetch 30 56 = some (.getfield 260, 3) := by decide +kernel
theorem n_30_56 : ∀ l, xpr 30 56 l = l := xpr_no (by decide +kernel)
theorem r_30_59 : xfetch 30 59 = some (.ifCond .eq 21, 3) := by decide +kernel
theorem n_30_59 : ∀ l, xpr 30 59 l = l := xpr_no (by decide +kernel)
theorem r_30_62 : xfetch 30 62 = some (.aload_n 0, 1) := by decide +kernel
theorem n_30_62 : ∀ l, xpr 30 62 l = l := xpr_no (by decide +kernel)
theorem r_30_63 : xfetch 30 63 = some (.getfield 10, 3) := by decide +kernel
theorem n_30_63 : ∀ l, xpr 30 63 l = l := xpr_no (by decide +kernel)
theorem r_30_66 : xfetch 30 66 = some (.getfield 256, 3) := by decide +kernel
theorem n_30_66 : ∀ l, xpr 30 66 l = l := xpr_no (by decide +kernel)
theorem r_30_69 : xfetch 30 69 = some (.iload_n 2, 1) := by decide +kernel
theorem n_30_69 : ∀ l, xpr 30 69 l = l := xpr_no (by decide +kernel)
theorem r_30_70 : xfetch 30 70 = some (.aaload, 1) := by decide +kernel
theorem n_30_70 : ∀ l, xpr 30 70 l = l := xpr_no (by decide +kernel)
theorem r_30_71 : xfetch 30 71 = some (.getfield 266, 3) := by decide +kernel
theorem n_30_71 : ∀ l, xpr 30 71 l = l := xpr_no (by decide +kernel)
theorem r_30_74 : xfetch 30 74 = some (.iload_n 1, 1) := by decide +kernel
theorem n_30_74 : ∀ l, xpr 30 74 l = l := xpr_no (by decide +kernel)
theorem r_30_75 : xfetch 30 75 = some (.if_icmp .ne 5, 3) := by decide +kernel
theorem n_30_75 : ∀ l, xpr 30 75 l = l := xpr_no (by decide +kernel)
theorem r_30_78 : xfetch 30 78 = some (.iconst 1, 1) := by decide +kernel
theorem n_30_78 : ∀ l, xpr 30 78 l = l := xpr_no (by decide +kernel)
theorem r_30_79 : xfetch 30 79 = some (.ireturn, 1) := by decide +kernel
theorem n_30_79 : ∀ l, xpr 30 79 l = l := xpr_no (by decide +kernel)
theorem r_30_80 : xfetch 30 80 = some (.iinc 2 1, 3) := by decide +kernel
theorem n_30_80 : ∀ l, xpr 30 80 l = l := xpr_no (by decide +kernel)
theorem r_30_83 : xfetch 30 83 = some (.goto (-41), 3) := by decide +kernel
theorem n_30_83 : ∀ l, xpr 30 83 l = l := xpr_no (by decide +kernel)
theorem r_30_86 : xfetch 30 86 = some (.iconst 0, 1) := by decide +kernel
theorem n_30_86 : ∀ l, xpr 30 86 l = l := xpr_no (by decide +kernel)
theorem r_30_87 : xfetch 30 87 = some (.ireturn, 1) := by decide +kernel
theorem n_30_87 : ∀ l, xpr 30 87 l = l := xpr_no (by decide +kernel)
theorem v_RL_isInUse_0 {S : Option (Nat × (Nat → Int32))} {s : zSt} {Q : Option Value ⊕ Nat → zSt → Prop} {x1 : Int} 
    (h : wp S 30 2 [(0, rf 2), (1, iv x1), (2, iv 0)] [] s Q) :
    wp S 30 0 [(0, rf 2), (1, iv x1)] [] s Q := by
  refine i_iconst r_30_0 (n_30_0 _) ?_
  refine i_istore_n (l' := [(0, rf 2), (1, iv x1), (2, iv 0)]) r_30_1 (n_30_1 _) (by decide) rfl ?_
  exact wp_pr (l' := [(0, rf 2), (1, iv x1), (2, iv 0)]) rfl h
theorem v_RL_isInUse_2 {S : Option (Nat × (Nat → Int32))} {s : zSt} {Q : Option Value ⊕ Nat → zSt → Prop} {x1 : Int} {x2 : Int} 
    (h : rng x2 ∧ (((zI s 3 0) ≤ x2 → wp S 30 42 [(0, rf 2), (1, iv x1), (2, iv 0)] [] s Q) ∧ (x2 < (zI s 3 0) → (0 ≤ x2 ∧ x2 < 6) ∧ (wp S 31 0 [(0, rf (7 + 4 * x2)), (1, iv (100 + x1))] [] s (fun o6 s6 => zkI (fun y6 => (y6 = 0 → wp S 30 2 [(0, rf 2), (1, iv x1), (2, iv (x2 + 1))] [] s6 Q) ∧ (y6 ≠ 0 → Q (rI 1) s6)) (fun e6 => False) o6))))) :
    wp S 30 2 [(0, rf 2), (1, iv x1), (2, iv x2)] [] s Q := by
  refine i_iload_n (x := x2) r_30_2 rfl rfl ?_
  refine i_aload_n (a := 2) r_30_3 (n_30_3 _) rfl ?_
  refine i_getR (a := 2) (b := 3) r_30_4 (n_30_4 _) rfl rfl rfl (by omega) lf_2 (by omega) ?_
  refine i_getI (a := 3) r_30_7 (n_30_7 _) rfl (by decide) lf_3 (fun q1 => ?_)
  obtain ⟨g2, h⟩ := h
  refine i_icmp (t := 40) r_30_10 (n_30_10 _) rfl (T_ge g2 q1) (fun c3 => ?_) (fun c3 => ?_)
  · replace h := h.1 c3
    refine i_iconst r_30_40 (n_30_40 _) ?_
    refine i_istore_n (l' := [(0, rf 2), (1, iv x1), (2, iv 0)]) r_30_41 (n_30_41 _) (by decide) rfl ?_
    exact wp_pr (l' := [(0, rf 2), (1, iv x1), (2, iv 0)]) rfl h
  · replace h := h.2 c3
    refine i_aload_n (a := 2) r_30_13 (n_30_13 _) rfl ?_
    refine i_getR (a := 2) (b := 3) r_30_14 (n_30_14 _) rfl rfl rfl (by omega) lf_2 (by omega) ?_
    refine i_getR (a := 3) (b := 4) r_30_17 (n_30_17 _) rfl rfl rfl (by omega) lf_3 (by omega) ?_
    refine i_iload_n (x := x2) r_30_20 (n_30_20 _) rfl ?_
    obtain ⟨g4, h⟩ := h
    refine i_aaload (c := 1) (a := 4) (j := x2) (b := 7 + 4 * x2) r_30_21 (n_30_21 _) lf_4 ⟨by omega, by omega⟩ (by omega) (by omega) rfl (by omega) ?_
    have t5 := e_1 (j := x2) lf_4 (by omega) (by omega)
    rw [show 4 + 3 + 4 * x2 = 7 + 4 * x2 by omega] at t5
    refine i_bipush r_30_22 (n_30_22 _) rfl ?_
    refine i_iload_n (x := x1) r_30_24 (n_30_24 _) rfl ?_
    refine i_iadd r_30_25 (n_30_25 _) ?_
    refine wp_virt (b := 7 + 4 * x2) (rest := []) (Ls := [(0, rf (7 + 4 * x2)), (1, iv (100 + x1))]) r_30_26 (n_30_26 _) rfl ⟨rfl, rfl, by decide, by decide⟩ rfl rfl t5 ⟨rfl, Nat.le_of_ble_eq_true rfl, Nat.le_of_ble_eq_true rfl⟩ rfl h ?_
    intro o6 s6 h
    rcases h with ⟨y6, q7, rfl, h⟩ | ⟨e6, rfl, h⟩
    · refine .inl ⟨some (iv y6), rfl, ?_⟩
      show wp S 30 29 [(0, rf 2), (1, iv x1), (2, iv x2)] [iv y6] s6 Q
      refine i_if (t := 34) r_30_29 (n_30_29 _) rfl (T_eq q7 ⟨by omega, by omega⟩) (fun c8 => ?_) (fun c8 => ?_)
      · replace h := h.1 c8
        refine i_iinc (x := x2) (l' := [(0, rf 2), (1, iv x1), (2, iv (x2 + 1))]) r_30_34 (n_30_34 _) (by decide) rfl rfl ?_
        refine i_goto (t := 2) r_30_37 (n_30_37 _) rfl ?_
        exact wp_pr (l' := [(0, rf 2), (1, iv x1), (2, iv (x2 + 1))]) rfl h
      · replace h := h.2 c8
        refine i_iconst r_30_32 (n_30_32 _) ?_
        exact i_zreturn r_30_33 (n_30_33 _) rfl (by decide) h
    · skip
      exact h.elim
theorem v_RL_isInUse_42 {S : Option (Nat × (Nat → Int32))} {s : zSt} {Q : Option Value ⊕ Nat → zSt → Prop} {x1 : Int} {x2 : Int} 
    (h : rng x2 ∧ ((3 ≤ x2 → Q (rI 0) s) ∧ (x2 < 3 → (0 ≤ x2 ∧ x2 < 3) ∧ (((zI s (31 + x2) 0) = 0 → wp S 30 42 [(0, rf 2), (1, iv x1), (2, iv (x2 + 1))] [] s Q) ∧ ((zI s (31 + x2) 0) ≠ 0 → rng x1 ∧ (((zI s (31 + x2) 1) ≠ x1 → wp S 30 42 [(0, rf 2), (1, iv x1), (2, iv (x2 + 1))] [] s Q) ∧ ((zI s (31 + x2) 1) = x1 → Q (rI 1) s))))))) :
    wp S 30 42 [(0, rf 2), (1, iv x1), (2, iv x2)] [] s Q := by
  refine i_iload_n (x := x2) r_30_42 rfl rfl ?_
  refine i_iconst r_30_43 (n_30_43 _) ?_
  obtain ⟨g1, h⟩ := h
  refine i_icmp (t := 86) r_30_44 (n_30_44 _) rfl (T_ge g1 ⟨by omega, by omega⟩) (fun c2 => ?_) (fun c2 => ?_)
  · replace h := h.1 c2
    refine i_iconst r_30_86 (n_30_86 _) ?_
    exact i_zreturn r_30_87 (n_30_87 _) rfl (by decide) h
  · replace h := h.2 c2
    refine i_aload_n (a := 2) r_30_47 (n_30_47 _) rfl ?_
    refine i_getR (a := 2) (b := 3) r_30_48 (n_30_48 _) rfl rfl rfl (by omega) lf_2 (by omega) ?_
    refine i_getR (a := 3) (b := 5) r_30_51 (n_30_51 _) rfl rfl rfl (by omega) lf_3 (by omega) ?_
    refine i_iload_n (x := x2) r_30_54 (n_30_54 _) rfl ?_
    obtain ⟨g3, h⟩ := h
    refine i_aaload (c := 6) (a := 5) (j := x2) (b := 31 + x2) r_30_55 (n_30_55 _) lf_5 ⟨by omega, by omega⟩ (by omega) (by omega) rfl (by omega) ?_
    have t4 := e_6 (j := x2) lf_5 (by omega) (by omega)
    rw [show 5 + 26 + 1 * x2 = 31 + x2 by omega] at t4
    refine i_getI (a := 31 + x2) r_30_56 (n_30_56 _) rfl (by decide) t4 (fun q5 => ?_)
    refine i_if (t := 80) r_30_59 (n_30_59 _) rfl (T_eq q5 ⟨by omega, by omega⟩) (fun c6 => ?_) (fun c6 => ?_)
    · replace h := h.1 c6
      refine i_iinc (x := x2) (l' := [(0, rf 2), (1, iv x1), (2, iv (x2 + 1))]) r_30_80 (n_30_80 _) (by decide) rfl rfl ?_
      refine i_goto (t := 42) r_30_83 (n_30_83 _) rfl ?_
      exact wp_pr (l' := [(0, rf 2), (1, iv x1), (2, iv (x2 + 1))]) rfl h
    · replace h := h.2 c6
      refine i_aload_n (a := 2) r_30_62 (n_30_62 _) rfl ?_
      refine i_getR (a := 2) (b := 3) r_30_63 (n_30_63 _) rfl rfl rfl (by omega) lf_2 (by omega) ?_
      refine i_getR (a := 3) (b := 5) r_30_66 (n_30_66 _) rfl rfl rfl (by omega) lf_3 (by omega) ?_
      refine i_iload_n (x := x2) r_30_69 (n_30_69 _) rfl ?_
      refine i_aaload (c := 6) (a := 5) (j := x2) (b := 31 + x2) r_30_70 (n_30_70 _) lf_5 ⟨by omega, by omega⟩ (by omega) (by omega) rfl (by omega) ?_
      have t7 := e_6 (j := x2) lf_5 (by omega) (by omega)
      rw [show 5 + 26 + 1 * x2 = 31 + x2 by omega] at t7
      refine i_getI (a := 31 + x2) r_30_71 (n_30_71 _) rfl (by decide) t7 (fun q8 => ?_)
      refine i_iload_n (x := x1) r_30_74 (n_30_74 _) rfl ?_
      obtain ⟨g9, h⟩ := h
      refine i_icmp (t := 80) r_30_75 (n_30_75 _) rfl (T_ne q8 g9) (fun c10 => ?_) (fun c10 => ?_)
      · replace h := h.1 c10
        refine i_iinc (x := x2) (l' := [(0, rf 2), (1, iv x1), (2, iv (x2 + 1))]) r_30_80 (n_30_80 _) (by decide) rfl rfl ?_
        refine i_goto (t := 42) r_30_83 (n_30_83 _) rfl ?_
        exact wp_pr (l' := [(0, rf 2), (1, iv x1), (2, iv (x2 + 1))]) rfl h
      · replace h := h.2 c10
        refine i_iconst r_30_78 (n_30_78 _) ?_
        exact i_zreturn r_30_79 (n_30_79 _) rfl (by decide) h
theorem r_31_0 : xfetch 31 0 = some (.iconst 0, 1) := by decide +kernel
theorem n_31_0 : ∀ l, xpr 31 0 l = l := xpr_no (by decide +kernel)
theorem r_31_1 : xfetch 31 1 = some (.istore_n 2, 1) := by decide +kernel
theorem n_31_1 : ∀ l, xpr 31 1 l = l := xpr_no (by decide +kernel)
theorem r_31_2 : xfetch 31 2 = some (.iload_n 2, 1) := by decide +kernel
theorem r_31_3 : xfetch 31 3 = some (.aload_n 0, 1) := by decide +kernel
theorem n_31_3 : ∀ l, xpr 31 3 l = l := xpr_no (by decide +kernel)
theorem r_31_4 : xfetch 31 4 = some (.getfield 25, 3) := by decide +kernel
theorem n_31_4 : ∀ l, xpr 31 4 l = l := xpr_no (by decide +kernel)
theorem r_31_7 : xfetch 31 7 = some (.if_icmp .ge 21, 3) := by decide +kernel
theorem n_31_7 : ∀ l, xpr 31 7 l = l := xpr_no (by decide +kernel)
theorem r_31_10 : xfetch 31 10 = some (.aload_n 0, 1) := by decide +kernel
theorem n_31_10 : ∀ l, xpr 31 10 l = l := xpr_no (by decide +kernel)
theorem r_31_11 : xfetch 31 11 = some (.getfield 19, 3) := by decide +kernel
theorem n_31_11 : ∀ l, xpr 31 11 l = l := xpr_no (by decide +kernel)
theorem r_31_14 : xfetch 31 14 = some (.iload_n 2, 1) := by decide +kernel
theorem n_31_14 : ∀ l, xpr 31 14 l = l := xpr_no (by decide +kernel)
theorem r_31_15 : xfetch 31 15 = some (.iaload, 1) := by decide +kernel
theorem n_31_15 : ∀ l, xpr 31 15 l = l := xpr_no (by decide +kernel)
theorem r_31_16 : xfetch 31 16 = some (.iload_n 1, 1) := by decide +kernel
theorem n_31_16 : ∀ l, xpr 31 16 l = l := xpr_no (by decide +kernel)
theorem r_31_17 : xfetch 31 17 = some (.if_icmp .ne 5, 3) := by decide +kernel
theorem n_31_17 : ∀ l, xpr 31 17 l = l := xpr_no (by decide +kernel)
theorem r_31_20 : xfetch 31 20 = some (.iconst 1, 1) := by decide +kernel
theorem n_31_20 : ∀ l, xpr 31 20 l = l := xpr_no (by decide +kernel)
theorem r_31_21 : xfetch 31 21 = some (.ireturn, 1) := by decide +kernel
theorem n_31_21 : ∀ l, xpr 31 21 l = l := xpr_no (by decide +kernel)
theorem r_31_22 : xfetch 31 22 = some (.iinc 2 1, 3) := by decide +kernel
theorem n_31_22 : ∀ l, xpr 31 22 l = l := xpr_no (by decide +kernel)
theorem r_31_25 : xfetch 31 25 = some (.goto (-23), 3) := by decide +kernel
theorem n_31_25 : ∀ l, xpr 31 25 l = l := xpr_no (by decide +kernel)
theorem r_31_28 : xfetch 31 28 = some (.iconst 0, 1) := by decide +kernel
theorem n_31_28 : ∀ l, xpr 31 28 l = l := xpr_no (by decide +kernel)
theorem r_31_29 : xfetch 31 29 = some (.ireturn, 1) := by decide +kernel
theorem n_31_29 : ∀ l, xpr 31 29 l = l := xpr_no (by decide +kernel)
theorem v_Fields_hasType_0 {S : Option (Nat × (Nat → Int32))} {s : zSt} {Q : Option Value ⊕ Nat → zSt → Prop} {a0 : Int} {x1 : Int} (ha0 : isO a0 1)
    (h : wp S 31 2 [(0, rf a0), (1, iv x1), (2, iv 0)] [] s Q) :
    wp S 31 0 [(0, rf a0), (1, iv x1)] [] s Q := by
  refine i_iconst r_31_0 (n_31_0 _) ?_
  refine i_istore_n (l' := [(0, rf a0), (1, iv x1), (2, iv 0)]) r_31_1 (n_31_1 _) (by decide) rfl ?_
  exact wp_pr (l' := [(0, rf a0), (1, iv x1), (2, iv 0)]) rfl h
theorem v_Fields_hasType_2 {S : Option (Nat × (Nat → Int32))} {s : zSt} {Q : Option Value ⊕ Nat → zSt → Prop} {a0 : Int} {x1 : Int} {x2 : Int} (ha0 : isO a0 1)
    (h : rng x2 ∧ (((zI s a0 1) ≤ x2 → Q (rI 0) s) ∧ (x2 < (zI s a0 1) → (0 ≤ x2 ∧ x2 < 8) ∧ (rng x1 ∧ (((zI s (a0 + 2) x2) ≠ x1 → wp S 31 2 [(0, rf a0), (1, iv x1), (2, iv (x2 + 1))] [] s Q) ∧ ((zI s (a0 + 2) x2) = x1 → Q (rI 1) s)))))) :
    wp S 31 2 [(0, rf a0), (1, iv x1), (2, iv x2)] [] s Q := by
  refine i_iload_n (x := x2) r_31_2 rfl rfl ?_
  refine i_aload_n (a := a0) r_31_3 (n_31_3 _) rfl ?_
  refine i_getI (a := a0) r_31_4 (n_31_4 _) rfl (by decide) ha0 (fun q1 => ?_)
  obtain ⟨g2, h⟩ := h
  refine i_icmp (t := 28) r_31_7 (n_31_7 _) rfl (T_ge g2 q1) (fun c3 => ?_) (fun c3 => ?_)
  · replace h := h.1 c3
    refine i_iconst r_31_28 (n_31_28 _) ?_
    exact i_zreturn r_31_29 (n_31_29 _) rfl (by decide) h
  · replace h := h.2 c3
    refine i_aload_n (a := a0) r_31_10 (n_31_10 _) rfl ?_
    refine i_getR (a := a0) (b := a0 + 2) r_31_11 (n_31_11 _) rfl rfl rfl (by omega) ha0 (by omega) ?_
    have t4 := (t_1_3 ha0)
    refine i_iload_n (x := x2) r_31_14 (n_31_14 _) rfl ?_
    obtain ⟨g5, h⟩ := h
    refine i_iaload (a := a0 + 2) (j := x2) r_31_15 (n_31_15 _) t4 ⟨by omega, by omega⟩ (by omega) (by omega) (fun q6 => ?_)
    refine i_iload_n (x := x1) r_31_16 (n_31_16 _) rfl ?_
    obtain ⟨g7, h⟩ := h
    refine i_icmp (t := 22) r_31_17 (n_31_17 _) rfl (T_ne q6 g7) (fun c8 => ?_) (fun c8 => ?_)
    · replace h := h.1 c8
      refine i_iinc (x := x2) (l' := [(0, rf a0), (1, iv x1), (2, iv (x2 + 1))]) r_31_22 (n_31_22 _) (by decide) rfl rfl ?_
      refine i_goto (t := 2) r_31_25 (n_31_25 _) rfl ?_
      exact wp_pr (l' := [(0, rf a0), (1, iv x1), (2, iv (x2 + 1))]) rfl h
    · replace h := h.2 c8
      refine i_iconst r_31_20 (n_31_20 _) ?_
      exact i_zreturn r_31_21 (n_31_21 _) rfl (by decide) h
theorem r_32_0 : xfetch 32 0 = some (.aload_n 0, 1) := by decide +kernel
theorem n_32_0 : ∀ l, xpr 32 0 l = l := xpr_no (by decide +kernel)
theorem r_32_1 : xfetch 32 1 = some (.getfield 10, 3) := by decide +kernel
theorem n_32_1 : ∀ l, xpr 32 1 l = l := xpr_no (by decide +kernel)
theorem r_32_4 : xfetch 32 4 = some (.getfield 83, 3) := by decide +kernel
theorem n_32_4 : ∀ l, xpr 32 4 l = l := xpr_no (by decide +kernel)
theorem r_32_7 : xfetch 32 7 = some (.iload_n 1, 1) := by decide +kernel
theorem n_32_7 : ∀ l, xpr 32 7 l = l := xpr_no (by decide +kernel)
theorem r_32_8 : xfetch 32 8 = some (.aaload, 1) := by decide +kernel
theorem n_32_8 : ∀ l, xpr 32 8 l = l := xpr_no (by decide +kernel)
theorem r_32_9 : xfetch 32 9 = some (.astore 4, 2) := by decide +kernel
theorem n_32_9 : ∀ l, xpr 32 9 l = l := xpr_no (by decide +kernel)
theorem r_32_11 : xfetch 32 11 = some (.aload_n 0, 1) := by decide +kernel
theorem n_32_11 : ∀ l, xpr 32 11 l = l := xpr_no (by decide +kernel)
theorem r_32_12 : xfetch 32 12 = some (.getfield 18, 3) := by decide +kernel
theorem n_32_12 : ∀ l, xpr 32 12 l = l := xpr_no (by decide +kernel)
theorem r_32_15 : xfetch 32 15 = some (.iload_n 1, 1) := by decide +kernel
theorem n_32_15 : ∀ l, xpr 32 15 l = l := xpr_no (by decide +kernel)
theorem r_32_16 : xfetch 32 16 = some (.aaload, 1) := by decide +kernel
theorem n_32_16 : ∀ l, xpr 32 16 l = l := xpr_no (by decide +kernel)
theorem r_32_17 : xfetch 32 17 = some (.astore 5, 2) := by decide +kernel
theorem n_32_17 : ∀ l, xpr 32 17 l = l := xpr_no (by decide +kernel)
theorem r_32_19 : xfetch 32 19 = some (.iload_n 3, 1) := by decide +kernel
theorem n_32_19 : ∀ l, xpr 32 19 l = l := xpr_no (by decide +kernel)
theorem r_32_20 : xfetch 32 20 = some (.tableswitch 76 0 4 #[36, 44, 52, 60, 68], 36) := by decide +kernel
theorem n_32_20 : ∀ l, xpr 32 20 l = l := xpr_no (by decide +kernel)
theorem r_32_56 : xfetch 32 56 = some (.aload 4, 2) := by decide +kernel
theorem n_32_56 : ∀ l, xpr 32 56 l = l := xpr_no (by decide +kernel)
theorem r_32_58 : xfetch 32 58 = some (.getfield 454, 3) := by decide +kernel
theorem n_32_58 : ∀ l, xpr 32 58 l = l := xpr_no (by decide +kernel)
theorem r_32_61 : xfetch 32 61 = some (.iload_n 2, 1) := by decide +kernel
theorem n_32_61 : ∀ l, xpr 32 61 l = l := xpr_no (by decide +kernel)
theorem r_32_62 : xfetch 32 62 = some (.iaload, 1) := by decide +kernel
theorem n_32_62 : ∀ l, xpr 32 62 l = l := xpr_no (by decide +kernel)
theorem r_32_63 : xfetch 32 63 = some (.ireturn, 1) := by decide +kernel
theorem n_32_63 : ∀ l, xpr 32 63 l = l := xpr_no (by decide +kernel)
theorem r_32_64 : xfetch 32 64 = some (.aload 4, 2) := by decide +kernel
theorem n_32_64 : ∀ l, xpr 32 64 l = l := xpr_no (by decide +kernel)
theorem r_32_66 : xfetch 32 66 = some (.getfield 437, 3) := by decide +kernel
theorem n_32_66 : ∀ l, xpr 32 66 l = l := xpr_no (by decide +kernel)
theorem r_32_69 : xfetch 32 69 = some (.iload_n 2, 1) := by decide +kernel
theorem n_32_69 : ∀ l, xpr 32 69 l = l := xpr_no (by decide +kernel)
theorem r_32_70 : xfetch 32 70 = some (.iaload, 1) := by decide +kernel
theorem n_32_70 : ∀ l, xpr 32 70 l = l := xpr_no (by decide +kernel)
theorem r_32_71 : xfetch 32 71 = some (.ireturn, 1) := by decide +kernel
theorem n_32_71 : ∀ l, xpr 32 71 l = l := xpr_no (by decide +kernel)
theorem r_32_72 : xfetch 32 72 = some (.aload 4, 2) := by decide +kernel
theorem n_32_72 : ∀ l, xpr 32 72 l = l := xpr_no (by decide +kernel)
theorem r_32_74 : xfetch 32 74 = some (.getfield 457, 3) := by decide +kernel
theorem n_32_74 : ∀ l, xpr 32 74 l = l := xpr_no (by decide +kernel)
theorem r_32_77 : xfetch 32 77 = some (.iload_n 2, 1) := by decide +kernel
theorem n_32_77 : ∀ l, xpr 32 77 l = l := xpr_no (by decide +kernel)
theorem r_32_78 : xfetch 32 78 = some (.iaload, 1) := by decide +kernel
theorem n_32_78 : ∀ l, xpr 32 78 l = l := xpr_no (by decide +kernel)
theorem r_32_79 : xfetch 32 79 = some (.ireturn, 1) := by decide +kernel
theorem n_32_79 : ∀ l, xpr 32 79 l = l := xpr_no (by decide +kernel)
theorem r_32_80 : xfetch 32 80 = some (.aload 5, 2) := by decide +kernel
theorem n_32_80 : ∀ l, xpr 32 80 l = l := xpr_no (by decide +kernel)
theorem r_32_82 : xfetch 32 82 = some (.getfield 460, 3) := by decide +kernel
theorem n_32_82 : ∀ l, xpr 32 82 l = l := xpr_no (by decide +kernel)
theorem r_32_85 : xfetch 32 85 = some (.iload_n 2, 1) := by decide +kernel
theorem n_32_85 : ∀ l, xpr 32 85 l = l := xpr_no (by decide +kernel)
theorem r_32_86 : xfetch 32 86 = some (.iaload, 1) := by decide +kernel
theorem n_32_86 : ∀ l, xpr 32 86 l = l := xpr_no (by decide +kernel)
theorem r_32_87 : xfetch 32 87 = some (.ireturn, 1) := by decide +kernel
theorem n_32_87 : ∀ l, xpr 32 87 l = l := xpr_no (by decide +kernel)
theorem r_32_88 : xfetch 32 88 = some (.aload 5, 2) := by decide +kernel
theorem n_32_88 : ∀ l, xpr 32 88 l = l := xpr_no (by decide +kernel)
theorem r_32_90 : xfetch 32 90 = some (.getfield 461, 3) := by decide +kernel
theorem n_32_90 : ∀ l, xpr 32 90 l = l := xpr_no (by decide +kernel)
theorem r_32_93 : xfetch 32 93 = some (.iload_n 2, 1) := by decide +kernel
theorem n_32_93 : ∀ l, xpr 32 93 l = l := xpr_no (by decide +kernel)
theorem r_32_94 : xfetch 32 94 = some (.iaload, 1) := by decide +kernel
theorem n_32_94 : ∀ l, xpr 32 94 l = l := xpr_no (by decide +kernel)
theorem r_32_95 : xfetch 32 95 = some (.ireturn, 1) := by decide +kernel
theorem n_32_95 : ∀ l, xpr 32 95 l = l := xpr_no (by decide +kernel)
theorem r_32_96 : xfetch 32 96 = some (.aload 5, 2) := by decide +kernel
theorem n_32_96 : ∀ l, xpr 32 96 l = l := xpr_no (by decide +kernel)
theorem r_32_98 : xfetch 32 98 = some (.getfield 462, 3) := by decide +kernel
theorem n_32_98 : ∀ l, xpr 32 98 l = l := xpr_no (by decide +kernel)
theorem r_32_101 : xfetch 32 101 = some (.iload_n 2, 1) := by decide +kernel
theorem n_32_101 : ∀ l, xpr 32 101 l = l := xpr_no (by decide +kernel)
theorem r_32_102 : xfetch 32 102 = some (.iaload, 1) := by decide +kernel
theorem n_32_102 : ∀ l, xpr 32 102 l = l := xpr_no (by decide +kernel)
theorem r_32_103 : xfetch 32 103 = some (.ireturn, 1) := by decide +kernel
theorem n_32_103 : ∀ l, xpr 32 103 l = l := xpr_no (by decide +kernel)
theorem v_RL_fieldNumber_0 {S : Option (Nat × (Nat → Int32))} {s : zSt} {Q : Option Value ⊕ Nat → zSt → Prop} {x1 : Int} {x2 : Int} {x3 : Int} 
    (h : (0 ≤ x1 ∧ x1 < 6) ∧ (rng x3 ∧ ((x3 = 0 → (0 ≤ x2 ∧ x2 < 8) ∧ (Q (rI (zI s (8 + 4 * x1) x2)) s)) ∧ ((x3 = 1 → (0 ≤ x2 ∧ x2 < 8) ∧ (Q (rI (zI s (9 + 4 * x1) x2)) s)) ∧ ((x3 = 2 → (0 ≤ x2 ∧ x2 < 8) ∧ (Q (rI (zI s (10 + 4 * x1) x2)) s)) ∧ ((x3 = 3 → (0 ≤ x2 ∧ x2 < 8) ∧ (Q (rI (zI s (63 + 11 * x1) x2)) s)) ∧ ((x3 = 4 → (0 ≤ x2 ∧ x2 < 8) ∧ (Q (rI (zI s (64 + 11 * x1) x2)) s)) ∧ (((x3 < 0 ∨ 4 < x3) → (0 ≤ x2 ∧ x2 < 8) ∧ (Q (rI (zI s (65 + 11 * x1) x2)) s)))))))))) :
    wp S 32 0 [(0, rf 2), (1, iv x1), (2, iv x2), (3, iv x3)] [] s Q := by
  refine i_aload_n (a := 2) r_32_0 (n_32_0 _) rfl ?_
  refine i_getR (a := 2) (b := 3) r_32_1 (n_32_1 _) rfl rfl rfl (by omega) lf_2 (by omega) ?_
  refine i_getR (a := 3) (b := 4) r_32_4 (n_32_4 _) rfl rfl rfl (by omega) lf_3 (by omega) ?_
  refine i_iload_n (x := x1) r_32_7 (n_32_7 _) rfl ?_
  obtain ⟨g1, h⟩ := h
  refine i_aaload (c := 1) (a := 4) (j := x1) (b := 7 + 4 * x1) r_32_8 (n_32_8 _) lf_4 ⟨by omega, by omega⟩ (by omega) (by omega) rfl (by omega) ?_
  have t2 := e_1 (j := x1) lf_4 (by omega) (by omega)
  rw [show 4 + 3 + 4 * x1 = 7 + 4 * x1 by omega] at t2
  refine i_astore (l' := [(0, rf 2), (1, iv x1), (2, iv x2), (3, iv x3), (4, rf (7 + 4 * x1))]) r_32_9 (n_32_9 _) (by decide) rfl ?_
  refine i_aload_n (a := 2) r_32_11 (n_32_11 _) rfl ?_
  refine i_getR (a := 2) (b := 34) r_32_12 (n_32_12 _) rfl rfl rfl (by omega) lf_2 (by omega) ?_
  refine i_iload_n (x := x1) r_32_15 (n_32_15 _) rfl ?_
  refine i_aaload (c := 4) (a := 34) (j := x1) (b := 62 + 11 * x1) r_32_16 (n_32_16 _) lf_34 ⟨by omega, by omega⟩ (by omega) (by omega) rfl (by omega) ?_
  have t3 := e_4 (j := x1) lf_34 (by omega) (by omega)
  rw [show 34 + 28 + 11 * x1 = 62 + 11 * x1 by omega] at t3
  refine i_astore (l' := [(0, rf 2), (1, iv x1), (2, iv x2), (3, iv x3), (4, rf (7 + 4 * x1)), (5, rf (62 + 11 * x1))]) r_32_17 (n_32_17 _) (by decide) rfl ?_
  refine i_iload_n (x := x3) r_32_19 (n_32_19 _) rfl ?_
  obtain ⟨g4, h⟩ := h
  rcases (by omega : x3 = 0 ∨ x3 = 1 ∨ x3 = 2 ∨ x3 = 3 ∨ x3 = 4 ∨ (x3 < 0 ∨ 4 < x3)) with c5 | c5 | c5 | c5 | c5 | c5
  · replace h := h.1 c5
    refine i_sw_hit (kk := 0) (t := 56) r_32_20 (n_32_20 _) (by omega) g4 (by omega) rfl rfl ?_
    refine i_aload (a := 7 + 4 * x1) r_32_56 (n_32_56 _) rfl ?_
    refine i_getR (a := 7 + 4 * x1) (b := 8 + 4 * x1) r_32_58 (n_32_58 _) rfl rfl rfl (by omega) t2 (by omega) ?_
    have t6 := (t_1_2 t2)
    rw [show (7 + 4 * x1) + 1 = 8 + 4 * x1 by omega] at t6
    refine i_iload_n (x := x2) r_32_61 (n_32_61 _) rfl ?_
    obtain ⟨g7, h⟩ := h
    refine i_iaload (a := 8 + 4 * x1) (j := x2) r_32_62 (n_32_62 _) t6 ⟨by omega, by omega⟩ (by omega) (by omega) (fun q8 => ?_)
    exact i_ireturn r_32_63 (n_32_63 _) rfl h
  · replace h := h.2.1 c5
    refine i_sw_hit (kk := 1) (t := 64) r_32_20 (n_32_20 _) (by omega) g4 (by omega) rfl rfl ?_
    refine i_aload (a := 7 + 4 * x1) r_32_64 (n_32_64 _) rfl ?_
    refine i_getR (a := 7 + 4 * x1) (b := 9 + 4 * x1) r_32_66 (n_32_66 _) rfl rfl rfl (by omega) t2 (by omega) ?_
    have t9 := (t_1_3 t2)
    rw [show (7 + 4 * x1) + 2 = 9 + 4 * x1 by omega] at t9
    refine i_iload_n (x := x2) r_32_69 (n_32_69 _) rfl ?_
    obtain ⟨g10, h⟩ := h
    refine i_iaload (a := 9 + 4 * x1) (j := x2) r_32_70 (n_32_70 _) t9 ⟨by omega, by omega⟩ (by omega) (by omega) (fun q11 => ?_)
    exact i_ireturn r_32_71 (n_32_71 _) rfl h
  · replace h := h.2.2.1 c5
    refine i_sw_hit (kk := 2) (t := 72) r_32_20 (n_32_20 _) (by omega) g4 (by omega) rfl rfl ?_
    refine i_aload (a := 7 + 4 * x1) r_32_72 (n_32_72 _) rfl ?_
    refine i_getR (a := 7 + 4 * x1) (b := 10 + 4 * x1) r_32_74 (n_32_74 _) rfl rfl rfl (by omega) t2 (by omega) ?_
    have t12 := (t_1_4 t2)
    rw [show (7 + 4 * x1) + 3 = 10 + 4 * x1 by omega] at t12
    refine i_iload_n (x := x2) r_32_77 (n_32_77 _) rfl ?_
    obtain ⟨g13, h⟩ := h
    refine i_iaload (a := 10 + 4 * x1) (j := x2) r_32_78 (n_32_78 _) t12 ⟨by omega, by omega⟩ (by omega) (by omega) (fun q14 => ?_)
    exact i_ireturn r_32_79 (n_32_79 _) rfl h
  · replace h := h.2.2.2.1 c5
    refine i_sw_hit (kk := 3) (t := 80) r_32_20 (n_32_20 _) (by omega) g4 (by omega) rfl rfl ?_
    refine i_aload (a := 62 + 11 * x1) r_32_80 (n_32_80 _) rfl ?_
    refine i_getR (a := 62 + 11 * x1) (b := 63 + 11 * x1) r_32_82 (n_32_82 _) rfl rfl rfl (by omega) t3 (by omega) ?_
    have t15 := (t_4_0 t3)
    rw [show (62 + 11 * x1) + 1 = 63 + 11 * x1 by omega] at t15
    refine i_iload_n (x := x2) r_32_85 (n_32_85 _) rfl ?_
    obtain ⟨g16, h⟩ := h
    refine i_iaload (a := 63 + 11 * x1) (j := x2) r_32_86 (n_32_86 _) t15 ⟨by omega, by omega⟩ (by omega) (by omega) (fun q17 => ?_)
    exact i_ireturn r_32_87 (n_32_87 _) rfl h
  · replace h := h.2.2.2.2.1 c5
    refine i_sw_hit (kk := 4) (t := 88) r_32_20 (n_32_20 _) (by omega) g4 (by omega) rfl rfl ?_
    refine i_aload (a := 62 + 11 * x1) r_32_88 (n_32_88 _) rfl ?_
    refine i_getR (a := 62 + 11 * x1) (b := 64 + 11 * x1) r_32_90 (n_32_90 _) rfl rfl rfl (by omega) t3 (by omega) ?_
    have t18 := (t_4_1 t3)
    rw [show (62 + 11 * x1) + 2 = 64 + 11 * x1 by omega] at t18
    refine i_iload_n (x := x2) r_32_93 (n_32_93 _) rfl ?_
    obtain ⟨g19, h⟩ := h
    refine i_iaload (a := 64 + 11 * x1) (j := x2) r_32_94 (n_32_94 _) t18 ⟨by omega, by omega⟩ (by omega) (by omega) (fun q20 => ?_)
    exact i_ireturn r_32_95 (n_32_95 _) rfl h
  · replace h := h.2.2.2.2.2 c5
    refine i_sw_out (t := 96) r_32_20 (n_32_20 _) c5 g4 rfl ?_
    refine i_aload (a := 62 + 11 * x1) r_32_96 (n_32_96 _) rfl ?_
    refine i_getR (a := 62 + 11 * x1) (b := 65 + 11 * x1) r_32_98 (n_32_98 _) rfl rfl rfl (by omega) t3 (by omega) ?_
    have t21 := (t_4_2 t3)
    rw [show (62 + 11 * x1) + 3 = 65 + 11 * x1 by omega] at t21
    refine i_iload_n (x := x2) r_32_101 (n_32_101 _) rfl ?_
    obtain ⟨g22, h⟩ := h
    refine i_iaload (a := 65 + 11 * x1) (j := x2) r_32_102 (n_32_102 _) t21 ⟨by omega, by omega⟩ (by omega) (by omega) (fun q23 => ?_)
    exact i_ireturn r_32_103 (n_32_103 _) rfl h
theorem r_33_0 : xfetch 33 0 = some (.aload_n 0, 1) := by decide +kernel
theorem n_33_0 : ∀ l, xpr 33 0 l = l := xpr_no (by decide +kernel)
theorem r_33_1 : xfetch 33 1 = some (.getfield 10, 3) := by decide +kernel
theorem n_33_1 : ∀ l, xpr 33 1 l = l := xpr_no (by decide +kernel)
theorem r_33_4 : xfetch 33 4 = some (.getfield 256, 3) := by decide +kernel
theorem n_33_4 : ∀ l, xpr 33 4 l = l := xpr_no (by decide +kernel)
theorem r_33_7 : xfetch 33 7 = some (.iload_n 1, 1) := by decide +kernel
theorem n_33_7 : ∀ l, xpr 33 7 l = l := xpr_no (by decide +kernel)
theorem r_33_8 : xfetch 33 8 = some (.aaload, 1) := by decide +kernel
theorem n_33_8 : ∀ l, xpr 33 8 l = l := xpr_no (by decide +kernel)
theorem r_33_9 : xfetch 33 9 = some (.astore_n 3, 1) := by decide +kernel
theorem n_33_9 : ∀ l, xpr 33 9 l = l := xpr_no (by decide +kernel)
theorem r_33_10 : xfetch 33 10 = some (.iload_n 2, 1) := by decide +kernel
theorem n_33_10 : ∀ l, xpr 33 10 l = l := xpr_no (by decide +kernel)
theorem r_33_11 : xfetch 33 11 = some (.tableswitch 58 0 4 #[33, 38, 43, 48, 53], 33) := by decide +kernel
theorem n_33_11 : ∀ l, xpr 33 11 l = l := xpr_no (by decide +kernel)
theorem r_33_44 : xfetch 33 44 = some (.aload_n 3, 1) := by decide +kernel
theorem n_33_44 : ∀ l, xpr 33 44 l = l := xpr_no (by decide +kernel)
theorem r_33_45 : xfetch 33 45 = some (.getfield 266, 3) := by decide +kernel
theorem n_33_45 : ∀ l, xpr 33 45 l = l := xpr_no (by decide +kernel)
theorem r_33_48 : xfetch 33 48 = some (.ireturn, 1) := by decide +kernel
theorem n_33_48 : ∀ l, xpr 33 48 l = l := xpr_no (by decide +kernel)
theorem r_33_49 : xfetch 33 49 = some (.aload_n 3, 1) := by decide +kernel
theorem n_33_49 : ∀ l, xpr 33 49 l = l := xpr_no (by decide +kernel)
theorem r_33_50 : xfetch 33 50 = some (.getfield 269, 3) := by decide +kernel
theorem n_33_50 : ∀ l, xpr 33 50 l = l := xpr_no (by decide +kernel)
theorem r_33_53 : xfetch 33 53 = some (.ireturn, 1) := by decide +kernel
theorem n_33_53 : ∀ l, xpr 33 53 l = l := xpr_no (by decide +kernel)
theorem r_33_54 : xfetch 33 54 = some (.aload_n 3, 1) := by decide +kernel
theorem n_33_54 : ∀ l, xpr 33 54 l = l := xpr_no (by decide +kernel)
theorem r_33_55 : xfetch 33 55 = some (.getfield 272, 3) := by decide +kernel
theorem n_33_55 : ∀ l, xpr 33 55 l = l := xpr_no (by decide +kernel)
theorem r_33_58 : xfetch 33 58 = some (.ireturn, 1) := by decide +kernel
theorem n_33_58 : ∀ l, xpr 33 58 l = l := xpr_no (by decide +kernel)
theorem r_33_59 : xfetch 33 59 = some (.aload_n 3, 1) := by decide +kernel
theorem n_33_59 : ∀ l, xpr 33 59 l = l := xpr_no (by decide +kernel)
theorem r_33_60 : xfetch 33 60 = some (.getfield 275, 3) := by decide +kernel
theorem n_33_60 : ∀ l, xpr 33 60 l = l := xpr_no (by decide +kernel)
theorem r_33_63 : xfetch 33 63 = some (.ireturn, 1) := by decide +kernel
theorem n_33_63 : ∀ l, xpr 33 63 l = l := xpr_no (by decide +kernel)
theorem r_33_64 : xfetch 33 64 = some (.aload_n 3, 1) := by decide +kernel
theorem n_33_64 : ∀ l, xpr 33 64 l = l := xpr_no (by decide +kernel)
theorem r_33_65 : xfetch 33 65 = some (.getfield 277, 3) := by decide +kernel
theorem n_33_65 : ∀ l, xpr 33 65 l = l := xpr_no (by decide +kernel)
theorem r_33_68 : xfetch 33 68 = some (.ireturn, 1) := by decide +kernel
theorem n_33_68 : ∀ l, xpr 33 68 l = l := xpr_no (by decide +kernel)
theorem r_33_69 : xfetch 33 69 = some (.aload_n 3, 1) := by decide +kernel
theorem n_33_69 : ∀ l, xpr 33 69 l = l := xpr_no (by decide +kernel)
theorem r_33_70 : xfetch 33 70 = some (.getfield 280, 3) := by decide +kernel
theorem n_33_70 : ∀ l, xpr 33 70 l = l := xpr_no (by decide +kernel)
theorem r_33_73 : xfetch 33 73 = some (.ireturn, 1) := by decide +kernel
theorem n_33_73 : ∀ l, xpr 33 73 l = l := xpr_no (by decide +kernel)
theorem v_RL_tableNumber_0 {S : Option (Nat × (Nat → Int32))} {s : zSt} {Q : Option Value ⊕ Nat → zSt → Prop} {x1 : Int} {x2 : Int} 
    (h : (0 ≤ x1 ∧ x1 < 3) ∧ (rng x2 ∧ ((x2 = 0 → Q (rI (zI s (31 + x1) 1)) s) ∧ ((x2 = 1 → Q (rI (zI s (31 + x1) 2)) s) ∧ ((x2 = 2 → Q (rI (zI s (31 + x1) 3)) s) ∧ ((x2 = 3 → Q (rI (zI s (31 + x1) 4)) s) ∧ ((x2 = 4 → Q (rI (zI s (31 + x1) 5)) s) ∧ (((x2 < 0 ∨ 4 < x2) → Q (rI (zI s (31 + x1) 6)) s))))))))) :
    wp S 33 0 [(0, rf 2), (1, iv x1), (2, iv x2)] [] s Q := by
  refine i_aload_n (a := 2) r_33_0 (n_33_0 _) rfl ?_
  refine i_getR (a := 2) (b := 3) r_33_1 (n_33_1 _) rfl rfl rfl (by omega) lf_2 (by omega) ?_
  refine i_getR (a := 3) (b := 5) r_33_4 (n_33_4 _) rfl rfl rfl (by omega) lf_3 (by omega) ?_
  refine i_iload_n (x := x1) r_33_7 (n_33_7 _) rfl ?_
  obtain ⟨g1, h⟩ := h
  refine i_aaload (c := 6) (a := 5) (j := x1) (b := 31 + x1) r_33_8 (n_33_8 _) lf_5 ⟨by omega, by omega⟩ (by omega) (by omega) rfl (by omega) ?_
  have t2 := e_6 (j := x1) lf_5 (by omega) (by omega)
  rw [show 5 + 26 + 1 * x1 = 31 + x1 by omega] at t2
  refine i_astore_n (l' := [(0, rf 2), (1, iv x1), (2, iv x2), (3, rf (31 + x1))]) r_33_9 (n_33_9 _) (by decide) rfl ?_
  refine i_iload_n (x := x2) r_33_10 (n_33_10 _) rfl ?_
  obtain ⟨g3, h⟩ := h
  rcases (by omega : x2 = 0 ∨ x2 = 1 ∨ x2 = 2 ∨ x2 = 3 ∨ x2 = 4 ∨ (x2 < 0 ∨ 4 < x2)) with c4 | c4 | c4 | c4 | c4 | c4
  · replace h := h.1 c4
    refine i_sw_hit (kk := 0) (t := 44) r_33_11 (n_33_11 _) (by omega) g3 (by omega) rfl rfl ?_
    refine i_aload_n (a := 31 + x1) r_33_44 (n_33_44 _) rfl ?_
    refine i_getI (a := 31 + x1) r_33_45 (n_33_45 _) rfl (by decide) t2 (fun q5 => ?_)
    exact i_ireturn r_33_48 (n_33_48 _) rfl h
  · replace h := h.2.1 c4
    refine i_sw_hit (kk := 1) (t := 49) r_33_11 (n_33_11 _) (by omega) g3 (by omega) rfl rfl ?_
    refine i_aload_n (a := 31 + x1) r_33_49 (n_33_49 _) rfl ?_
    refine i_getI (a := 31 + x1) r_33_50 (n_33_50 _) rfl (by decide) t2 (fun q6 => ?_)
    exact i_ireturn r_33_53 (n_33_53 _) rfl h
  · replace h := h.2.2.1 c4
    refine i_sw_hit (kk := 2) (t := 54) r_33_11 (n_33_11 _) (by omega) g3 (by omega) rfl rfl ?_
    refine i_aload_n (a := 31 + x1) r_33_54 (n_33_54 _) rfl ?_
    refine i_getI (a := 31 + x1) r_33_55 (n_33_55 _) rfl (by decide) t2 (fun q7 => ?_)
    exact i_ireturn r_33_58 (n_33_58 _) rfl h
  · replace h := h.2.2.2.1 c4
    refine i_sw_hit (kk := 3) (t := 59) r_33_11 (n_33_11 _) (by omega) g3 (by omega) rfl rfl ?_
    refine i_aload_n (a := 31 + x1) r_33_59 (n_33_59 _) rfl ?_
    refine i_getI (a := 31 + x1) r_33_60 (n_33_60 _) rfl (by decide) t2 (fun q8 => ?_)
    exact i_ireturn r_33_63 (n_33_63 _) rfl h
  · replace h := h.2.2.2.2.1 c4
    refine i_sw_hit (kk := 4) (t := 64) r_33_11 (n_33_11 _) (by omega) g3 (by omega) rfl rfl ?_
    refine i_aload_n (a := 31 + x1) r_33_64 (n_33_64 _) rfl ?_
    refine i_getI (a := 31 + x1) r_33_65 (n_33_65 _) rfl (by decide) t2 (fun q9 => ?_)
    exact i_ireturn r_33_68 (n_33_68 _) rfl h
  · replace h := h.2.2.2.2.2 c4
    refine i_sw_out (t := 69) r_33_11 (n_33_11 _) c4 g3 rfl ?_
    refine i_aload_n (a := 31 + x1) r_33_69 (n_33_69 _) rfl ?_
    refine i_getI (a := 31 + x1) r_33_70 (n_33_70 _) rfl (by decide) t2 (fun q10 => ?_)
    exact i_ireturn r_33_73 (n_33_73 _) rfl h
theorem r_35_0 : xfetch 35 0 = some (.iload_n 1, 1) := by decide +kernel
theorem n_35_0 : ∀ l, xpr 35 0 l = l := xpr_no (by decide +kernel)
theorem r_35_1 : xfetch 35 1 = some (.invokestatic 70, 3) := by decide +kernel
theorem n_35_1 : ∀ l, xpr 35 1 l = l := xpr_no (by decide +kernel)
theorem r_35_4 : xfetch 35 4 = some (.aload_n 0, 1) := by decide +kernel
theorem n_35_4 : ∀ l, xpr 35 4 l = l := xpr_no (by decide +kernel)
theorem r_35_5 : xfetch 35 5 = some (.invokevirtual 74, 3) := by decide +kernel
theorem n_35_5 : ∀ l, xpr 35 5 l = l := xpr_no (by decide +kernel)
theorem r_35_8 : xfetch 35 8 = some (.aload_n 0, 1) := by decide +kernel
theorem n_35_8 : ∀ l, xpr 35 8 l = l := xpr_no (by decide +kernel)
theorem r_35_9 : xfetch 35 9 = some (.invokevirtual 77, 3) := by decide +kernel
theorem n_35_9 : ∀ l, xpr 35 9 l = l := xpr_no (by decide +kernel)
theorem r_35_12 : xfetch 35 12 = some (.aload_n 0, 1) := by decide +kernel
theorem n_35_12 : ∀ l, xpr 35 12 l = l := xpr_no (by decide +kernel)
theorem r_35_13 : xfetch 35 13 = some (.getfield 10, 3) := by decide +kernel
theorem n_35_13 : ∀ l, xpr 35 13 l = l := xpr_no (by decide +kernel)
theorem r_35_16 : xfetch 35 16 = some (.getfield 80, 3) := by decide +kernel
theorem n_35_16 : ∀ l, xpr 35 16 l = l := xpr_no (by decide +kernel)
theorem r_35_19 : xfetch 35 19 = some (.istore_n 2, 1) := by decide +kernel
theorem n_35_19 : ∀ l, xpr 35 19 l = l := xpr_no (by decide +kernel)
theorem r_35_20 : xfetch 35 20 = some (.aload_n 0, 1) := by decide +kernel
theorem n_35_20 : ∀ l, xpr 35 20 l = l := xpr_no (by decide +kernel)
theorem r_35_21 : xfetch 35 21 = some (.getfield 10, 3) := by decide +kernel
theorem n_35_21 : ∀ l, xpr 35 21 l = l := xpr_no (by decide +kernel)
theorem r_35_24 : xfetch 35 24 = some (.getfield 83, 3) := by decide +kernel
theorem n_35_24 : ∀ l, xpr 35 24 l = l := xpr_no (by decide +kernel)
theorem r_35_27 : xfetch 35 27 = some (.iload_n 2, 1) := by decide +kernel
theorem n_35_27 : ∀ l, xpr 35 27 l = l := xpr_no (by decide +kernel)
theorem r_35_28 : xfetch 35 28 = some (.aaload, 1) := by decide +kernel
theorem n_35_28 : ∀ l, xpr 35 28 l = l := xpr_no (by decide +kernel)
theorem r_35_29 : xfetch 35 29 = some (.iload_n 1, 1) := by decide +kernel
theorem n_35_29 : ∀ l, xpr 35 29 l = l := xpr_no (by decide +kernel)
theorem r_35_30 : xfetch 35 30 = some (.invokevirtual 87, 3) := by decide +kernel
theorem n_35_30 : ∀ l, xpr 35 30 l = l := xpr_no (by decide +kernel)
theorem r_35_33 : xfetch 35 33 = some (.aload_n 0, 1) := by decide +kernel
theorem n_35_33 : ∀ l, xpr 35 33 l = l := xpr_no (by decide +kernel)
theorem r_35_34 : xfetch 35 34 = some (.getfield 10, 3) := by decide +kernel
theorem n_35_34 : ∀ l, xpr 35 34 l = l := xpr_no (by decide +kernel)
theorem r_35_37 : xfetch 35 37 = some (.dup, 1) := by decide +kernel
theorem n_35_37 : ∀ l, xpr 35 37 l = l := xpr_no (by decide +kernel)
theorem r_35_38 : xfetch 35 38 = some (.getfield 80, 3) := by decide +kernel
theorem n_35_38 : ∀ l, xpr 35 38 l = l := xpr_no (by decide +kernel)
theorem r_35_41 : xfetch 35 41 = some (.iconst 1, 1) := by decide +kernel
theorem n_35_41 : ∀ l, xpr 35 41 l = l := xpr_no (by decide +kernel)
theorem r_35_42 : xfetch 35 42 = some (.iadd, 1) := by decide +kernel
theorem n_35_42 : ∀ l, xpr 35 42 l = l := xpr_no (by decide +kernel)
theorem r_35_43 : xfetch 35 43 = some (.putfield 80, 3) := by decide +kernel
theorem n_35_43 : ∀ l, xpr 35 43 l = l := xpr_no (by decide +kernel)
theorem r_35_46 : xfetch 35 46 = some (.aload_n 0, 1) := by decide +kernel
theorem n_35_46 : ∀ l, xpr 35 46 l = l := xpr_no (by decide +kernel)
theorem r_35_47 : xfetch 35 47 = some (.iload_n 2, 1) := by decide +kernel
theorem n_35_47 : ∀ l, xpr 35 47 l = l := xpr_no (by decide +kernel)
theorem r_35_48 : xfetch 35 48 = some (.invokevirtual 92, 3) := by decide +kernel
theorem n_35_48 : ∀ l, xpr 35 48 l = l := xpr_no (by decide +kernel)
theorem r_35_51 : xfetch 35 51 = some (.iload_n 2, 1) := by decide +kernel
theorem n_35_51 : ∀ l, xpr 35 51 l = l := xpr_no (by decide +kernel)
theorem r_35_52 : xfetch 35 52 = some (.ireturn, 1) := by decide +kernel
theorem n_35_52 : ∀ l, xpr 35 52 l = l := xpr_no (by decide +kernel)
theorem v_RL_newRecord_0 {S : Option (Nat × (Nat → Int32))} {s : zSt} {Q : Option Value ⊕ Nat → zSt → Prop} {x1 : Int} 
    (h : rng x1 ∧ ((x1 = 1 ∨ x1 = 2 ∨ x1 = 4 ∨ x1 = 8 → (zI s 3 0 < 6 → wp S 18 0 [(0, rf 2)] [] s (fun o4 s4 => zkU ((0 ≤ (zI s4 3 0) ∧ (zI s4 3 0) < 6) ∧ (rng ((zI (zwI (zwI s4 (7 + 4 * (zI s4 3 0)) 0 x1) (7 + 4 * (zI s4 3 0)) 1 0) 3 0) + 1) ∧ (wp S 39 0 [(0, rf 2), (1, iv (zI s4 3 0))] [] (zwI (zwI (zwI s4 (7 + 4 * (zI s4 3 0)) 0 x1) (7 + 4 * (zI s4 3 0)) 1 0) 3 0 ((zI (zwI (zwI s4 (7 + 4 * (zI s4 3 0)) 0 x1) (7 + 4 * (zI s4 3 0)) 1 0) 3 0) + 1)) (fun o12 s12 => zkU (Q (rI (zI s4 3 0)) s12) (fun e12 => False) o12)))) (fun e4 => False) o4)) ∧ ((¬ (zI s 3 0 < 6) → Q (rT 1) (zbump s)))) ∧ ((¬ (x1 = 1 ∨ x1 = 2 ∨ x1 = 4 ∨ x1 = 8) → Q (rT 0) (zbump s))))) :
    wp S 35 0 [(0, rf 2), (1, iv x1)] [] s Q := by
  refine i_iload_n (x := x1) r_35_0 (n_35_0 _) rfl ?_
  obtain ⟨g1, h⟩ := h
  refine wp_stat (rest := []) (Ls := [(0, iv x1)]) r_35_1 (n_35_1 _) rfl ⟨rfl, by decide, by decide, by decide⟩ rfl rfl ⟨rfl, Nat.le_of_ble_eq_true rfl, Nat.le_of_ble_eq_true rfl⟩ rfl (K_RL_checkPack g1) ?_
  rintro _ _ (⟨c2, rfl, rfl⟩ | ⟨c2, rfl, rfl⟩)
  · replace h := h.1 c2
    refine .inl ⟨none, rfl, ?_⟩
    show wp S 35 4 [(0, rf 2), (1, iv x1)] [] s Q
    refine i_aload_n (a := 2) r_35_4 (n_35_4 _) rfl ?_
    refine wp_virt (b := 2) (rest := []) (Ls := [(0, rf 2)]) r_35_5 (n_35_5 _) rfl ⟨rfl, rfl, by decide, by decide⟩ rfl rfl lf_2 ⟨rfl, Nat.le_of_ble_eq_true rfl, Nat.le_of_ble_eq_true rfl⟩ rfl K_RL_checkRecordRoom ?_
    rintro _ _ (⟨c3, rfl, rfl⟩ | ⟨c3, rfl, rfl⟩)
    · replace h := h.1 c3
      refine .inl ⟨none, rfl, ?_⟩
      show wp S 35 8 [(0, rf 2), (1, iv x1)] [] s Q
      refine i_aload_n (a := 2) r_35_8 (n_35_8 _) rfl ?_
      refine wp_virt (b := 2) (rest := []) (Ls := [(0, rf 2)]) r_35_9 (n_35_9 _) rfl ⟨rfl, rfl, by decide, by decide⟩ rfl rfl lf_2 ⟨rfl, Nat.le_of_ble_eq_true rfl, Nat.le_of_ble_eq_true rfl⟩ rfl h ?_
      intro o4 s4 h
      rcases h with ⟨rfl, h⟩ | ⟨e4, rfl, h⟩
      · refine .inl ⟨none, rfl, ?_⟩
        refine i_aload_n (a := 2) r_35_12 (n_35_12 _) rfl ?_
        refine i_getR (a := 2) (b := 3) r_35_13 (n_35_13 _) rfl rfl rfl (by omega) lf_2 (by omega) ?_
        refine i_getI (a := 3) r_35_16 (n_35_16 _) rfl (by decide) lf_3 (fun q6 => ?_)
        refine i_istore_n (l' := [(0, rf 2), (1, iv x1), (2, iv (zI s4 3 0))]) r_35_19 (n_35_19 _) (by decide) rfl ?_
        refine i_aload_n (a := 2) r_35_20 (n_35_20 _) rfl ?_
        refine i_getR (a := 2) (b := 3) r_35_21 (n_35_21 _) rfl rfl rfl (by omega) lf_2 (by omega) ?_
        refine i_getR (a := 3) (b := 4) r_35_24 (n_35_24 _) rfl rfl rfl (by omega) lf_3 (by omega) ?_
        refine i_iload_n (x := zI s4 3 0) r_35_27 (n_35_27 _) rfl ?_
        obtain ⟨g7, h⟩ := h
        refine i_aaload (c := 1) (a := 4) (j := zI s4 3 0) (b := 7 + 4 * (zI s4 3 0)) r_35_28 (n_35_28 _) lf_4 ⟨by omega, by omega⟩ (by omega) (by omega) rfl (by omega) ?_
        have t8 := e_1 (j := zI s4 3 0) lf_4 (by omega) (by omega)
        rw [show 4 + 3 + 4 * (zI s4 3 0) = 7 + 4 * (zI s4 3 0) by omega] at t8
        refine i_iload_n (x := x1) r_35_29 (n_35_29 _) rfl ?_
        refine wp_virt (b := 7 + 4 * (zI s4 3 0)) (rest := []) (Ls := [(0, rf (7 + 4 * (zI s4 3 0))), (1, iv x1)]) r_35_30 (n_35_30 _) rfl ⟨rfl, rfl, by decide, by decide⟩ rfl rfl t8 ⟨rfl, Nat.le_of_ble_eq_true rfl, Nat.le_of_ble_eq_true rfl⟩ rfl (K_Fields_start t8 g1) ?_
        rintro _ _ ⟨rfl, rfl⟩
        refine .inl ⟨none, rfl, ?_⟩
        show wp S 35 33 [(0, rf 2), (1, iv x1), (2, iv (zI s4 3 0))] [] (zwI (zwI s4 (7 + 4 * (zI s4 3 0)) 0 x1) (7 + 4 * (zI s4 3 0)) 1 0) Q
        refine i_aload_n (a := 2) r_35_33 (n_35_33 _) rfl ?_
        refine i_getR (a := 2) (b := 3) r_35_34 (n_35_34 _) rfl rfl rfl (by omega) lf_2 (by omega) ?_
        refine i_dup r_35_37 (n_35_37 _) rfl ?_
        refine i_getI (a := 3) r_35_38 (n_35_38 _) rfl (by decide) lf_3 (fun q10 => ?_)
        refine i_iconst r_35_41 (n_35_41 _) ?_
        refine i_iadd r_35_42 (n_35_42 _) ?_
        obtain ⟨g11, h⟩ := h
        refine i_putI (a := 3) (x := (zI (zwI (zwI s4 (7 + 4 * (zI s4 3 0)) 0 x1) (7 + 4 * (zI s4 3 0)) 1 0) 3 0) + 1) r_35_43 (n_35_43 _) rfl (.inl rfl) rfl lf_3 g11 ?_
        refine i_aload_n (a := 2) r_35_46 (n_35_46 _) rfl ?_
        refine i_iload_n (x := zI s4 3 0) r_35_47 (n_35_47 _) rfl ?_
        refine wp_virt (b := 2) (rest := []) (Ls := [(0, rf 2), (1, iv (zI s4 3 0))]) r_35_48 (n_35_48 _) rfl ⟨rfl, rfl, by decide, by decide⟩ rfl rfl lf_2 ⟨rfl, Nat.le_of_ble_eq_true rfl, Nat.le_of_ble_eq_true rfl⟩ rfl h ?_
        intro o12 s12 h
        rcases h with ⟨rfl, h⟩ | ⟨e12, rfl, h⟩
        · refine .inl ⟨none, rfl, ?_⟩
          refine i_iload_n (x := zI s4 3 0) r_35_51 (n_35_51 _) rfl ?_
          exact i_ireturn r_35_52 (n_35_52 _) rfl h
        · skip
          exact h.elim
      · skip
        exact h.elim
    · replace h := h.2 c3
      exact .inr ⟨_, rfl, .inl ⟨rfl, h⟩⟩
  · replace h := h.2 c2
    exact .inr ⟨_, rfl, rfl, .inl ⟨rfl, h⟩⟩
theorem r_39_0 : xfetch 39 0 = some (.aload_n 0, 1) := by decide +kernel
theorem n_39_0 : ∀ l, xpr 39 0 l = l := xpr_no (by decide +kernel)
theorem r_39_1 : xfetch 39 1 = some (.getfield 18, 3) := by decide +kernel
theorem n_39_1 : ∀ l, xpr 39 1 l = l := xpr_no (by decide +kernel)
theorem r_39_4 : xfetch 39 4 = some (.iload_n 1, 1) := by decide +kernel
theorem n_39_4 : ∀ l, xpr 39 4 l = l := xpr_no (by decide +kernel)
theorem r_39_5 : xfetch 39 5 = some (.aaload, 1) := by decide +kernel
theorem n_39_5 : ∀ l, xpr 39 5 l = l := xpr_no (by decide +kernel)
theorem r_39_6 : xfetch 39 6 = some (.invokevirtual 434, 3) := by decide +kernel
theorem n_39_6 : ∀ l, xpr 39 6 l = l := xpr_no (by decide +kernel)
theorem r_39_9 : xfetch 39 9 = some (.iconst 0, 1) := by decide +kernel
theorem n_39_9 : ∀ l, xpr 39 9 l = l := xpr_no (by decide +kernel)
theorem r_39_10 : xfetch 39 10 = some (.istore_n 2, 1) := by decide +kernel
theorem n_39_10 : ∀ l, xpr 39 10 l = l := xpr_no (by decide +kernel)
theorem r_39_11 : xfetch 39 11 = some (.iload_n 2, 1) := by decide +kernel
theorem r_39_12 : xfetch 39 12 = some (.aload_n 0, 1) := by decide +kernel
theorem n_39_12 : ∀ l, xpr 39 12 l = l := xpr_no (by decide +kernel)
theorem r_39_13 : xfetch 39 13 = some (.getfield 10, 3) := by decide +kernel
theorem n_39_13 : ∀ l, xpr 39 13 l = l := xpr_no (by decide +kernel)
theorem r_39_16 : xfetch 39 16 = some (.getfield 83, 3) := by decide +kernel
theorem n_39_16 : ∀ l, xpr 39 16 l = l := xpr_no (by decide +kernel)
theorem r_39_19 : xfetch 39 19 = some (.iload_n 1, 1) := by decide +kernel
theorem n_39_19 : ∀ l, xpr 39 19 l = l := xpr_no (by decide +kernel)
theorem r_39_20 : xfetch 39 20 = some (.aaload, 1) := by decide +kernel
theorem n_39_20 : ∀ l, xpr 39 20 l = l := xpr_no (by decide +kernel)
theorem r_39_21 : xfetch 39 21 = some (.getfield 133, 3) := by decide +kernel
theorem n_39_21 : ∀ l, xpr 39 21 l = l := xpr_no (by decide +kernel)
theorem r_39_24 : xfetch 39 24 = some (.if_icmp .ge 15, 3) := by decide +kernel
theorem n_39_24 : ∀ l, xpr 39 24 l = l := xpr_no (by decide +kernel)
theorem r_39_27 : xfetch 39 27 = some (.aload_n 0, 1) := by decide +kernel
theorem n_39_27 : ∀ l, xpr 39 27 l = l := xpr_no (by decide +kernel)
theorem r_39_28 : xfetch 39 28 = some (.iload_n 1, 1) := by decide +kernel
theorem n_39_28 : ∀ l, xpr 39 28 l = l := xpr_no (by decide +kernel)
theorem r_39_29 : xfetch 39 29 = some (.iload_n 2, 1) := by decide +kernel
theorem n_39_29 : ∀ l, xpr 39 29 l = l := xpr_no (by decide +kernel)
theorem r_39_30 : xfetch 39 30 = some (.invokevirtual 146, 3) := by decide +kernel
theorem n_39_30 : ∀ l, xpr 39 30 l = l := xpr_no (by decide +kernel)
theorem r_39_33 : xfetch 39 33 = some (.iinc 2 1, 3) := by decide +kernel
theorem n_39_33 : ∀ l, xpr 39 33 l = l := xpr_no (by decide +kernel)
theorem r_39_36 : xfetch 39 36 = some (.goto (-25), 3) := by decide +kernel
theorem n_39_36 : ∀ l, xpr 39 36 l = l := xpr_no (by decide +kernel)
theorem r_39_39 : xfetch 39 39 = some (.return_, 1) := by decide +kernel
theorem n_39_39 : ∀ l, xpr 39 39 l = l := xpr_no (by decide +kernel)
theorem v_RL_buildShape_0 {S : Option (Nat × (Nat → Int32))} {s : zSt} {Q : Option Value ⊕ Nat → zSt → Prop} {x1 : Int} 
    (h : (0 ≤ x1 ∧ x1 < 6) ∧ (wp S 39 11 [(0, rf 2), (1, iv x1), (2, iv 0)] [] (zwI (zwI (zwI (zwI (zwI s ((62 + 11 * x1) + 5) 0 0) (62 + 11 * x1) 5 1) (62 + 11 * x1) 6 0) (62 + 11 * x1) 7 0) (62 + 11 * x1) 8 0) Q)) :
    wp S 39 0 [(0, rf 2), (1, iv x1)] [] s Q := by
  refine i_aload_n (a := 2) r_39_0 (n_39_0 _) rfl ?_
  refine i_getR (a := 2) (b := 34) r_39_1 (n_39_1 _) rfl rfl rfl (by omega) lf_2 (by omega) ?_
  refine i_iload_n (x := x1) r_39_4 (n_39_4 _) rfl ?_
  obtain ⟨g1, h⟩ := h
  refine i_aaload (c := 4) (a := 34) (j := x1) (b := 62 + 11 * x1) r_39_5 (n_39_5 _) lf_34 ⟨by omega, by omega⟩ (by omega) (by omega) rfl (by omega) ?_
  have t2 := e_4 (j := x1) lf_34 (by omega) (by omega)
  rw [show 34 + 28 + 11 * x1 = 62 + 11 * x1 by omega] at t2
  refine wp_virt (b := 62 + 11 * x1) (rest := []) (Ls := [(0, rf (62 + 11 * x1))]) r_39_6 (n_39_6 _) rfl ⟨rfl, rfl, by decide, by decide⟩ rfl rfl t2 ⟨rfl, Nat.le_of_ble_eq_true rfl, Nat.le_of_ble_eq_true rfl⟩ rfl (K_Shape_clear t2) ?_
  rintro _ _ ⟨rfl, rfl⟩
  refine .inl ⟨none, rfl, ?_⟩
  show wp S 39 9 [(0, rf 2), (1, iv x1)] [] (zwI (zwI (zwI (zwI (zwI s ((62 + 11 * x1) + 5) 0 0) (62 + 11 * x1) 5 1) (62 + 11 * x1) 6 0) (62 + 11 * x1) 7 0) (62 + 11 * x1) 8 0) Q
  refine i_iconst r_39_9 (n_39_9 _) ?_
  refine i_istore_n (l' := [(0, rf 2), (1, iv x1), (2, iv 0)]) r_39_10 (n_39_10 _) (by decide) rfl ?_
  exact wp_pr (l' := [(0, rf 2), (1, iv x1), (2, iv 0)]) rfl h
theorem v_RL_buildShape_11 {S : Option (Nat × (Nat → Int32))} {s : zSt} {Q : Option Value ⊕ Nat → zSt → Prop} {x1 : Int} {x2 : Int} 
    (h : (0 ≤ x1 ∧ x1 < 6) ∧ (rng x2 ∧ (((zI s (7 + 4 * x1) 1) ≤ x2 → Q rU s) ∧ (x2 < (zI s (7 + 4 * x1) 1) → wp S 41 0 [(0, rf 2), (1, iv x1), (2, iv x2)] [] s (fun o6 s6 => zkU (wp S 39 11 [(0, rf 2), (1, iv x1), (2, iv (x2 + 1))] [] s6 Q) (fun e6 => False) o6))))) :
    wp S 39 11 [(0, rf 2), (1, iv x1), (2, iv x2)] [] s Q := by
  refine i_iload_n (x := x2) r_39_11 rfl rfl ?_
  refine i_aload_n (a := 2) r_39_12 (n_39_12 _) rfl ?_
  refine i_getR (a := 2) (b := 3) r_39_13 (n_39_13 _) rfl rfl rfl (by omega) lf_2 (by omega) ?_
  refine i_getR (a := 3) (b := 4) r_39_16 (n_39_16 _) rfl rfl rfl (by omega) lf_3 (by omega) ?_
  refine i_iload_n (x := x1) r_39_19 (n_39_19 _) rfl ?_
  obtain ⟨g1, h⟩ := h
  refine i_aaload (c := 1) (a := 4) (j := x1) (b := 7 + 4 * x1) r_39_20 (n_39_20 _) lf_4 ⟨by omega, by omega⟩ (by omega) (by omega) rfl (by omega) ?_
  have t2 := e_1 (j := x1) lf_4 (by omega) (by omega)
  rw [show 4 + 3 + 4 * x1 = 7 + 4 * x1 by omega] at t2
  refine i_getI (a := 7 + 4 * x1) r_39_21 (n_39_21 _) rfl (by decide) t2 (fun q3 => ?_)
  obtain ⟨g4, h⟩ := h
  refine i_icmp (t := 39) r_39_24 (n_39_24 _) rfl (T_ge g4 q3) (fun c5 => ?_) (fun c5 => ?_)
  · replace h := h.1 c5
    exact i_return r_39_39 (n_39_39 _) rfl h
  · replace h := h.2 c5
    refine i_aload_n (a := 2) r_39_27 (n_39_27 _) rfl ?_
    refine i_iload_n (x := x1) r_39_28 (n_39_28 _) rfl ?_
    refine i_iload_n (x := x2) r_39_29 (n_39_29 _) rfl ?_
    refine wp_virt (b := 2) (rest := []) (Ls := [(0, rf 2), (1, iv x1), (2, iv x2)]) r_39_30 (n_39_30 _) rfl ⟨rfl, rfl, by decide, by decide⟩ rfl rfl lf_2 ⟨rfl, Nat.le_of_ble_eq_true rfl, Nat.le_of_ble_eq_true rfl⟩ rfl h ?_
    intro o6 s6 h
    rcases h with ⟨rfl, h⟩ | ⟨e6, rfl, h⟩
    · refine .inl ⟨none, rfl, ?_⟩
      refine i_iinc (x := x2) (l' := [(0, rf 2), (1, iv x1), (2, iv (x2 + 1))]) r_39_33 (n_39_33 _) (by decide) rfl rfl ?_
      refine i_goto (t := 11) r_39_36 (n_39_36 _) rfl ?_
      exact wp_pr (l' := [(0, rf 2), (1, iv x1), (2, iv (x2 + 1))]) rfl h
    · skip
      exact h.elim
theorem r_41_0 : xfetch 41 0 = some (.aload_n 0, 1) := by decide +kernel
theorem n_41_0 : ∀ l, xpr 41 0 l = l := xpr_no (by decide +kernel)
theorem r_41_1 : xfetch 41 1 = some (.getfield 10, 3) := by decide +kernel
theorem n_41_1 : ∀ l, xpr 41 1 l = l := xpr_no (by decide +kernel)
theorem r_41_4 : xfetch 41 4 = some (.getfield 83, 3) := by decide +kernel
theorem n_41_4 : ∀ l, xpr 41 4 l = l := xpr_no (by decide +kernel)
theorem r_41_7 : xfetch 41 7 = some (.iload_n 1, 1) := by decide +kernel
theorem n_41_7 : ∀ l, xpr 41 7 l = l := xpr_no (by decide +kernel)
theorem r_41_8 : xfetch 41 8 = some (.aaload, 1) := by decide +kernel
theorem n_41_8 : ∀ l, xpr 41 8 l = l := xpr_no (by decide +kernel)
theorem r_41_9 : xfetch 41 9 = some (.astore_n 3, 1) := by decide +kernel
theorem n_41_9 : ∀ l, xpr 41 9 l = l := xpr_no (by decide +kernel)
theorem r_41_10 : xfetch 41 10 = some (.aload_n 0, 1) := by decide +kernel
theorem n_41_10 : ∀ l, xpr 41 10 l = l := xpr_no (by decide +kernel)
theorem r_41_11 : xfetch 41 11 = some (.getfield 18, 3) := by decide +kernel
theorem n_41_11 : ∀ l, xpr 41 11 l = l := xpr_no (by decide +kernel)
theorem r_41_14 : xfetch 41 14 = some (.iload_n 1, 1) := by decide +kernel
theorem n_41_14 : ∀ l, xpr 41 14 l = l := xpr_no (by decide +kernel)
theorem r_41_15 : xfetch 41 15 = some (.aaload, 1) := by decide +kernel
theorem n_41_15 : ∀ l, xpr 41 15 l = l := xpr_no (by decide +kernel)
theorem r_41_16 : xfetch 41 16 = some (.aload_n 3, 1) := by decide +kernel
theorem n_41_16 : ∀ l, xpr 41 16 l = l := xpr_no (by decide +kernel)
theorem r_41_17 : xfetch 41 17 = some (.iload_n 2, 1) := by decide +kernel
theorem n_41_17 : ∀ l, xpr 41 17 l = l := xpr_no (by decide +kernel)
theorem r_41_18 : xfetch 41 18 = some (.aload_n 0, 1) := by decide +kernel
theorem n_41_18 : ∀ l, xpr 41 18 l = l := xpr_no (by decide +kernel)
theorem r_41_19 : xfetch 41 19 = some (.aload_n 3, 1) := by decide +kernel
theorem n_41_19 : ∀ l, xpr 41 19 l = l := xpr_no (by decide +kernel)
theorem r_41_20 : xfetch 41 20 = some (.getfield 437, 3) := by decide +kernel
theorem n_41_20 : ∀ l, xpr 41 20 l = l := xpr_no (by decide +kernel)
theorem r_41_23 : xfetch 41 23 = some (.iload_n 2, 1) := by decide +kernel
theorem n_41_23 : ∀ l, xpr 41 23 l = l := xpr_no (by decide +kernel)
theorem r_41_24 : xfetch 41 24 = some (.iaload, 1) := by decide +kernel
theorem n_41_24 : ∀ l, xpr 41 24 l = l := xpr_no (by decide +kernel)
theorem r_41_25 : xfetch 41 25 = some (.invokevirtual 427, 3) := by decide +kernel
theorem n_41_25 : ∀ l, xpr 41 25 l = l := xpr_no (by decide +kernel)
theorem r_41_28 : xfetch 41 28 = some (.invokevirtual 438, 3) := by decide +kernel
theorem n_41_28 : ∀ l, xpr 41 28 l = l := xpr_no (by decide +kernel)
theorem r_41_31 : xfetch 41 31 = some (.return_, 1) := by decide +kernel
theorem n_41_31 : ∀ l, xpr 41 31 l = l := xpr_no (by decide +kernel)
theorem v_RL_placeField_0 {S : Option (Nat × (Nat → Int32))} {s : zSt} {Q : Option Value ⊕ Nat → zSt → Prop} {x1 : Int} {x2 : Int} 
    (h : (0 ≤ x1 ∧ x1 < 6) ∧ ((0 ≤ x2 ∧ x2 < 8) ∧ (wp S 42 0 [(0, rf 2), (1, iv (zI s (9 + 4 * x1) x2))] [] s (fun o7 s7 => zkN (fun y7 => (0 ≤ y7 → isO y7 4) ∧ (wp S 43 0 [(0, rf (62 + 11 * x1)), (1, rf (7 + 4 * x1)), (2, iv x2), (3, orf y7)] [] s7 (fun o9 s9 => zkU (Q rU s9) (fun e9 => False) o9))) o7)))) :
    wp S 41 0 [(0, rf 2), (1, iv x1), (2, iv x2)] [] s Q := by
  refine i_aload_n (a := 2) r_41_0 (n_41_0 _) rfl ?_
  refine i_getR (a := 2) (b := 3) r_41_1 (n_41_1 _) rfl rfl rfl (by omega) lf_2 (by omega) ?_
  refine i_getR (a := 3) (b := 4) r_41_4 (n_41_4 _) rfl rfl rfl (by omega) lf_3 (by omega) ?_
  refine i_iload_n (x := x1) r_41_7 (n_41_7 _) rfl ?_
  obtain ⟨g1, h⟩ := h
  refine i_aaload (c := 1) (a := 4) (j := x1) (b := 7 + 4 * x1) r_41_8 (n_41_8 _) lf_4 ⟨by omega, by omega⟩ (by omega) (by omega) rfl (by omega) ?_
  have t2 := e_1 (j := x1) lf_4 (by omega) (by omega)
  rw [show 4 + 3 + 4 * x1 = 7 + 4 * x1 by omega] at t2
  refine i_astore_n (l' := [(0, rf 2), (1, iv x1), (2, iv x2), (3, rf (7 + 4 * x1))]) r_41_9 (n_41_9 _) (by decide) rfl ?_
  refine i_aload_n (a := 2) r_41_10 (n_41_10 _) rfl ?_
  refine i_getR (a := 2) (b := 34) r_41_11 (n_41_11 _) rfl rfl rfl (by omega) lf_2 (by omega) ?_
  refine i_iload_n (x := x1) r_41_14 (n_41_14 _) rfl ?_
  refine i_aaload (c := 4) (a := 34) (j := x1) (b := 62 + 11 * x1) r_41_15 (n_41_15 _) lf_34 ⟨by omega, by omega⟩ (by omega) (by omega) rfl (by omega) ?_
  have t3 := e_4 (j := x1) lf_34 (by omega) (by omega)
  rw [show 34 + 28 + 11 * x1 = 62 + 11 * x1 by omega] at t3
  refine i_aload_n (a := 7 + 4 * x1) r_41_16 (n_41_16 _) rfl ?_
  refine i_iload_n (x := x2) r_41_17 (n_41_17 _) rfl ?_
  refine i_aload_n (a := 2) r_41_18 (n_41_18 _) rfl ?_
  refine i_aload_n (a := 7 + 4 * x1) r_41_19 (n_41_19 _) rfl ?_
  refine i_getR (a := 7 + 4 * x1) (b := 9 + 4 * x1) r_41_20 (n_41_20 _) rfl rfl rfl (by omega) t2 (by omega) ?_
  have t4 := (t_1_3 t2)
  rw [show (7 + 4 * x1) + 2 = 9 + 4 * x1 by omega] at t4
  refine i_iload_n (x := x2) r_41_23 (n_41_23 _) rfl ?_
  obtain ⟨g5, h⟩ := h
  refine i_iaload (a := 9 + 4 * x1) (j := x2) r_41_24 (n_41_24 _) t4 ⟨by omega, by omega⟩ (by omega) (by omega) (fun q6 => ?_)
  refine wp_virt (b := 2) (rest := [iv x2, rf (7 + 4 * x1), rf (62 + 11 * x1)]) (Ls := [(0, rf 2), (1, iv (zI s (9 + 4 * x1) x2))]) r_41_25 (n_41_25 _) rfl ⟨rfl, rfl, by decide, by decide⟩ rfl rfl lf_2 ⟨rfl, Nat.le_of_ble_eq_true rfl, Nat.le_of_ble_eq_true rfl⟩ rfl h ?_
  intro o7 s7 h
  obtain ⟨y7, rfl, q8, h⟩ := h
  refine .inl ⟨some (orf y7), rfl, ?_⟩
  show wp S 41 28 [(0, rf 2), (1, iv x1), (2, iv x2), (3, rf (7 + 4 * x1))] [orf y7, iv x2, rf (7 + 4 * x1), rf (62 + 11 * x1)] s7 Q
  refine wp_virt (b := 62 + 11 * x1) (rest := []) (Ls := [(0, rf (62 + 11 * x1)), (1, rf (7 + 4 * x1)), (2, iv x2), (3, orf y7)]) r_41_28 (n_41_28 _) rfl ⟨rfl, rfl, by decide, by decide⟩ rfl rfl t3 ⟨rfl, Nat.le_of_ble_eq_true rfl, (by rcases Int.lt_or_le y7 0 with z | z <;> first | (rw [orf_neg z]; exact Nat.le_of_ble_eq_true rfl) | (rw [orf_pos z]; exact Nat.le_of_ble_eq_true rfl))⟩ rfl h ?_
  intro o9 s9 h
  rcases h with ⟨rfl, h⟩ | ⟨e9, rfl, h⟩
  · refine .inl ⟨none, rfl, ?_⟩
    exact i_return r_41_31 (n_41_31 _) rfl h
  · skip
    exact h.elim
theorem r_42_0 : xfetch 42 0 = some (.iload_n 1, 1) := by decide +kernel
theorem n_42_0 : ∀ l, xpr 42 0 l = l := xpr_no (by decide +kernel)
theorem r_42_1 : xfetch 42 1 = some (.bipush 100, 2) := by decide +kernel
theorem n_42_1 : ∀ l, xpr 42 1 l = l := xpr_no (by decide +kernel)
theorem r_42_3 : xfetch 42 3 = some (.isub, 1) := by decide +kernel
theorem n_42_3 : ∀ l, xpr 42 3 l = l := xpr_no (by decide +kernel)
theorem r_42_4 : xfetch 42 4 = some (.istore_n 2, 1) := by decide +kernel
theorem n_42_4 : ∀ l, xpr 42 4 l = l := xpr_no (by decide +kernel)
theorem r_42_5 : xfetch 42 5 = some (.iload_n 2, 1) := by decide +kernel
theorem n_42_5 : ∀ l, xpr 42 5 l = l := xpr_no (by decide +kernel)
theorem r_42_6 : xfetch 42 6 = some (.ifCond .lt 23, 3) := by decide +kernel
theorem n_42_6 : ∀ l, xpr 42 6 l = l := xpr_no (by decide +kernel)
theorem r_42_9 : xfetch 42 9 = some (.iload_n 2, 1) := by decide +kernel
theorem n_42_9 : ∀ l, xpr 42 9 l = l := xpr_no (by decide +kernel)
theorem r_42_10 : xfetch 42 10 = some (.aload_n 0, 1) := by decide +kernel
theorem n_42_10 : ∀ l, xpr 42 10 l = l := xpr_no (by decide +kernel)
theorem r_42_11 : xfetch 42 11 = some (.getfield 10, 3) := by decide +kernel
theorem n_42_11 : ∀ l, xpr 42 11 l = l := xpr_no (by decide +kernel)
theorem r_42_14 : xfetch 42 14 = some (.getfield 80, 3) := by decide +kernel
theorem n_42_14 : ∀ l, xpr 42 14 l = l := xpr_no (by decide +kernel)
theorem r_42_17 : xfetch 42 17 = some (.if_icmp .ge 12, 3) := by decide +kernel
theorem n_42_17 : ∀ l, xpr 42 17 l = l := xpr_no (by decide +kernel)
theorem r_42_20 : xfetch 42 20 = some (.aload_n 0, 1) := by decide +kernel
theorem n_42_20 : ∀ l, xpr 42 20 l = l := xpr_no (by decide +kernel)
theorem r_42_21 : xfetch 42 21 = some (.getfield 18, 3) := by decide +kernel
theorem n_42_21 : ∀ l, xpr 42 21 l = l := xpr_no (by decide +kernel)
theorem r_42_24 : xfetch 42 24 = some (.iload_n 2, 1) := by decide +kernel
theorem n_42_24 : ∀ l, xpr 42 24 l = l := xpr_no (by decide +kernel)
theorem r_42_25 : xfetch 42 25 = some (.aaload, 1) := by decide +kernel
theorem n_42_25 : ∀ l, xpr 42 25 l = l := xpr_no (by decide +kernel)
theorem r_42_26 : xfetch 42 26 = some (.goto 4, 3) := by decide +kernel
theorem n_42_26 : ∀ l, xpr 42 26 l = l := xpr_no (by decide +kernel)
theorem r_42_29 : xfetch 42 29 = some (.aconst_null, 1) := by decide +kernel
theorem n_42_29 : ∀ l, xpr 42 29 l = l := xpr_no (by decide +kernel)
theorem r_42_30 : xfetch 42 30 = some (.areturn, 1) := by decide +kernel
theorem n_42_30 : ∀ l, xpr 42 30 l = l := xpr_no (by decide +kernel)
theorem v_RL_shapeOfType_0 {S : Option (Nat × (Nat → Int32))} {s : zSt} {Q : Option Value ⊕ Nat → zSt → Prop} {x1 : Int} 
    (h : rng (x1 - 100) ∧ (((x1 - 100) < 0 → Q rN s) ∧ (0 ≤ (x1 - 100) → ((zI s 3 0) ≤ (x1 - 100) → Q rN s) ∧ ((x1 - 100) < (zI s 3 0) → (0 ≤ (x1 - 100) ∧ (x1 - 100) < 6) ∧ (Q (rA (62 + 11 * (x1 - 100))) s))))) :
    wp S 42 0 [(0, rf 2), (1, iv x1)] [] s Q := by
  refine i_iload_n (x := x1) r_42_0 (n_42_0 _) rfl ?_
  refine i_bipush r_42_1 (n_42_1 _) rfl ?_
  refine i_isub r_42_3 (n_42_3 _) ?_
  refine i_istore_n (l' := [(0, rf 2), (1, iv x1), (2, iv (x1 - 100))]) r_42_4 (n_42_4 _) (by decide) rfl ?_
  refine i_iload_n (x := x1 - 100) r_42_5 (n_42_5 _) rfl ?_
  obtain ⟨g1, h⟩ := h
  refine i_if (t := 29) r_42_6 (n_42_6 _) rfl (T_lt g1 ⟨by omega, by omega⟩) (fun c2 => ?_) (fun c2 => ?_)
  · replace h := h.1 c2
    refine i_null r_42_29 (n_42_29 _) ?_
    exact i_nreturn r_42_30 (n_42_30 _) rfl h
  · replace h := h.2 c2
    refine i_iload_n (x := x1 - 100) r_42_9 (n_42_9 _) rfl ?_
    refine i_aload_n (a := 2) r_42_10 (n_42_10 _) rfl ?_
    refine i_getR (a := 2) (b := 3) r_42_11 (n_42_11 _) rfl rfl rfl (by omega) lf_2 (by omega) ?_
    refine i_getI (a := 3) r_42_14 (n_42_14 _) rfl (by decide) lf_3 (fun q3 => ?_)
    refine i_icmp (t := 29) r_42_17 (n_42_17 _) rfl (T_ge g1 q3) (fun c4 => ?_) (fun c4 => ?_)
    · replace h := h.1 c4
      refine i_null r_42_29 (n_42_29 _) ?_
      exact i_nreturn r_42_30 (n_42_30 _) rfl h
    · replace h := h.2 c4
      refine i_aload_n (a := 2) r_42_20 (n_42_20 _) rfl ?_
      refine i_getR (a := 2) (b := 34) r_42_21 (n_42_21 _) rfl rfl rfl (by omega) lf_2 (by omega) ?_
      refine i_iload_n (x := x1 - 100) r_42_24 (n_42_24 _) rfl ?_
      obtain ⟨g5, h⟩ := h
      refine i_aaload (c := 4) (a := 34) (j := x1 - 100) (b := 62 + 11 * (x1 - 100)) r_42_25 (n_42_25 _) lf_34 ⟨by omega, by omega⟩ (by omega) (by omega) rfl (by omega) ?_
      have t6 := e_4 (j := x1 - 100) lf_34 (by omega) (by omega)
      rw [show 34 + 28 + 11 * (x1 - 100) = 62 + 11 * (x1 - 100) by omega] at t6
      refine i_goto (t := 30) r_42_26 (n_42_26 _) rfl ?_
      exact i_areturn r_42_30 (n_42_30 _) rfl h
theorem r_43_0 : xfetch 43 0 = some (.aload_n 1, 1) := by decide +kernel
theorem n_43_0 : ∀ l, xpr 43 0 l = l := xpr_no (by decide +kernel)
theorem r_43_1 : xfetch 43 1 = some (.getfield 51, 3) := by decide +kernel
theorem n_43_1 : ∀ l, xpr 43 1 l = l := xpr_no (by decide +kernel)
theorem r_43_4 : xfetch 43 4 = some (.iload_n 2, 1) := by decide +kernel
theorem n_43_4 : ∀ l, xpr 43 4 l = l := xpr_no (by decide +kernel)
theorem r_43_5 : xfetch 43 5 = some (.iaload, 1) := by decide +kernel
theorem n_43_5 : ∀ l, xpr 43 5 l = l := xpr_no (by decide +kernel)
theorem r_43_6 : xfetch 43 6 = some (.istore 4, 2) := by decide +kernel
theorem n_43_6 : ∀ l, xpr 43 6 l = l := xpr_no (by decide +kernel)
theorem r_43_8 : xfetch 43 8 = some (.aload_n 1, 1) := by decide +kernel
theorem n_43_8 : ∀ l, xpr 43 8 l = l := xpr_no (by decide +kernel)
theorem r_43_9 : xfetch 43 9 = some (.getfield 56, 3) := by decide +kernel
theorem n_43_9 : ∀ l, xpr 43 9 l = l := xpr_no (by decide +kernel)
theorem r_43_12 : xfetch 43 12 = some (.iload_n 2, 1) := by decide +kernel
theorem n_43_12 : ∀ l, xpr 43 12 l = l := xpr_no (by decide +kernel)
theorem r_43_13 : xfetch 43 13 = some (.iaload, 1) := by decide +kernel
theorem n_43_13 : ∀ l, xpr 43 13 l = l := xpr_no (by decide +kernel)
theorem r_43_14 : xfetch 43 14 = some (.istore 5, 2) := by decide +kernel
theorem n_43_14 : ∀ l, xpr 43 14 l = l := xpr_no (by decide +kernel)
theorem r_43_16 : xfetch 43 16 = some (.aload_n 0, 1) := by decide +kernel
theorem n_43_16 : ∀ l, xpr 43 16 l = l := xpr_no (by decide +kernel)
theorem r_43_17 : xfetch 43 17 = some (.getfield 18, 3) := by decide +kernel
theorem n_43_17 : ∀ l, xpr 43 17 l = l := xpr_no (by decide +kernel)
theorem r_43_20 : xfetch 43 20 = some (.iload_n 2, 1) := by decide +kernel
theorem n_43_20 : ∀ l, xpr 43 20 l = l := xpr_no (by decide +kernel)
theorem r_43_21 : xfetch 43 21 = some (.aload_n 3, 1) := by decide +kernel
theorem n_43_21 : ∀ l, xpr 43 21 l = l := xpr_no (by decide +kernel)
theorem r_43_22 : xfetch 43 22 = some (.ifnonnull 11, 3) := by decide +kernel
theorem n_43_22 : ∀ l, xpr 43 22 l = l := xpr_no (by decide +kernel)
theorem r_43_25 : xfetch 43 25 = some (.iload 4, 2) := by decide +kernel
theorem n_43_25 : ∀ l, xpr 43 25 l = l := xpr_no (by decide +kernel)
theorem r_43_27 : xfetch 43 27 = some (.invokestatic 59, 3) := by decide +kernel
theorem n_43_27 : ∀ l, xpr 43 27 l = l := xpr_no (by decide +kernel)
theorem r_43_30 : xfetch 43 30 = some (.goto 7, 3) := by decide +kernel
theorem n_43_30 : ∀ l, xpr 43 30 l = l := xpr_no (by decide +kernel)
theorem r_43_33 : xfetch 43 33 = some (.aload_n 3, 1) := by decide +kernel
theorem n_43_33 : ∀ l, xpr 43 33 l = l := xpr_no (by decide +kernel)
theorem r_43_34 : xfetch 43 34 = some (.invokevirtual 63, 3) := by decide +kernel
theorem n_43_34 : ∀ l, xpr 43 34 l = l := xpr_no (by decide +kernel)
theorem r_43_37 : xfetch 43 37 = some (.iastore, 1) := by decide +kernel
theorem n_43_37 : ∀ l, xpr 43 37 l = l := xpr_no (by decide +kernel)
theorem r_43_38 : xfetch 43 38 = some (.aload_n 0, 1) := by decide +kernel
theorem n_43_38 : ∀ l, xpr 43 38 l = l := xpr_no (by decide +kernel)
theorem r_43_39 : xfetch 43 39 = some (.getfield 21, 3) := by decide +kernel
theorem n_43_39 : ∀ l, xpr 43 39 l = l := xpr_no (by decide +kernel)
theorem r_43_42 : xfetch 43 42 = some (.iload_n 2, 1) := by decide +kernel
theorem n_43_42 : ∀ l, xpr 43 42 l = l := xpr_no (by decide +kernel)
theorem r_43_43 : xfetch 43 43 = some (.aload_n 3, 1) := by decide +kernel
theorem n_43_43 : ∀ l, xpr 43 43 l = l := xpr_no (by decide +kernel)
theorem r_43_44 : xfetch 43 44 = some (.ifnonnull 12, 3) := by decide +kernel
theorem n_43_44 : ∀ l, xpr 43 44 l = l := xpr_no (by decide +kernel)
theorem r_43_47 : xfetch 43 47 = some (.aload_n 0, 1) := by decide +kernel
theorem n_43_47 : ∀ l, xpr 43 47 l = l := xpr_no (by decide +kernel)
theorem r_43_48 : xfetch 43 48 = some (.getfield 18, 3) := by decide +kernel
theorem n_43_48 : ∀ l, xpr 43 48 l = l := xpr_no (by decide +kernel)
theorem r_43_51 : xfetch 43 51 = some (.iload_n 2, 1) := by decide +kernel
theorem n_43_51 : ∀ l, xpr 43 51 l = l := xpr_no (by decide +kernel)
theorem r_43_52 : xfetch 43 52 = some (.iaload, 1) := by decide +kernel
theorem n_43_52 : ∀ l, xpr 43 52 l = l := xpr_no (by decide +kernel)
theorem r_43_53 : xfetch 43 53 = some (.goto 7, 3) := by decide +kernel
theorem n_43_53 : ∀ l, xpr 43 53 l = l := xpr_no (by decide +kernel)
theorem r_43_56 : xfetch 43 56 = some (.aload_n 3, 1) := by decide +kernel
theorem n_43_56 : ∀ l, xpr 43 56 l = l := xpr_no (by decide +kernel)
theorem r_43_57 : xfetch 43 57 = some (.getfield 31, 3) := by decide +kernel
theorem n_43_57 : ∀ l, xpr 43 57 l = l := xpr_no (by decide +kernel)
theorem r_43_60 : xfetch 43 60 = some (.aload_n 1, 1) := by decide +kernel
theorem n_43_60 : ∀ l, xpr 43 60 l = l := xpr_no (by decide +kernel)
theorem r_43_61 : xfetch 43 61 = some (.getfield 67, 3) := by decide +kernel
theorem n_43_61 : ∀ l, xpr 43 61 l = l := xpr_no (by decide +kernel)
theorem r_43_64 : xfetch 43 64 = some (.invokestatic 70, 3) := by decide +kernel
theorem n_43_64 : ∀ l, xpr 43 64 l = l := xpr_no (by decide +kernel)
theorem r_43_67 : xfetch 43 67 = some (.iastore, 1) := by decide +kernel
theorem n_43_67 : ∀ l, xpr 43 67 l = l := xpr_no (by decide +kernel)
theorem r_43_68 : xfetch 43 68 = some (.aload_n 0, 1) := by decide +kernel
theorem n_43_68 : ∀ l, xpr 43 68 l = l := xpr_no (by decide +kernel)
theorem r_43_69 : xfetch 43 69 = some (.aload_n 0, 1) := by decide +kernel
theorem n_43_69 : ∀ l, xpr 43 69 l = l := xpr_no (by decide +kernel)
theorem r_43_70 : xfetch 43 70 = some (.getfield 31, 3) := by decide +kernel
theorem n_43_70 : ∀ l, xpr 43 70 l = l := xpr_no (by decide +kernel)
theorem r_43_73 : xfetch 43 73 = some (.aload_n 0, 1) := by decide +kernel
theorem n_43_73 : ∀ l, xpr 43 73 l = l := xpr_no (by decide +kernel)
theorem r_43_74 : xfetch 43 74 = some (.getfield 21, 3) := by decide +kernel
theorem n_43_74 : ∀ l, xpr 43 74 l = l := xpr_no (by decide +kernel)
theorem r_43_77 : xfetch 43 77 = some (.iload_n 2, 1) := by decide +kernel
theorem n_43_77 : ∀ l, xpr 43 77 l = l := xpr_no (by decide +kernel)
theorem r_43_78 : xfetch 43 78 = some (.iaload, 1) := by decide +kernel
theorem n_43_78 : ∀ l, xpr 43 78 l = l := xpr_no (by decide +kernel)
theorem r_43_79 : xfetch 43 79 = some (.invokestatic 75, 3) := by decide +kernel
theorem n_43_79 : ∀ l, xpr 43 79 l = l := xpr_no (by decide +kernel)
theorem r_43_82 : xfetch 43 82 = some (.putfield 31, 3) := by decide +kernel
theorem n_43_82 : ∀ l, xpr 43 82 l = l := xpr_no (by decide +kernel)
theorem r_43_85 : xfetch 43 85 = some (.iload 4, 2) := by decide +kernel
theorem n_43_85 : ∀ l, xpr 43 85 l = l := xpr_no (by decide +kernel)
theorem r_43_87 : xfetch 43 87 = some (.invokestatic 78, 3) := by decide +kernel
theorem n_43_87 : ∀ l, xpr 43 87 l = l := xpr_no (by decide +kernel)
theorem r_43_90 : xfetch 43 90 = some (.ifCond .eq 16, 3) := by decide +kernel
theorem n_43_90 : ∀ l, xpr 43 90 l = l := xpr_no (by decide +kernel)
theorem r_43_93 : xfetch 43 93 = some (.aload_n 0, 1) := by decide +kernel
theorem n_43_93 : ∀ l, xpr 43 93 l = l := xpr_no (by decide +kernel)
theorem r_43_94 : xfetch 43 94 = some (.iload_n 2, 1) := by decide +kernel
theorem n_43_94 : ∀ l, xpr 43 94 l = l := xpr_no (by decide +kernel)
theorem r_43_95 : xfetch 43 95 = some (.iload 4, 2) := by decide +kernel
theorem n_43_95 : ∀ l, xpr 43 95 l = l := xpr_no (by decide +kernel)
theorem r_43_97 : xfetch 43 97 = some (.bipush 20, 2) := by decide +kernel
theorem n_43_97 : ∀ l, xpr 43 97 l = l := xpr_no (by decide +kernel)
theorem r_43_99 : xfetch 43 99 = some (.isub, 1) := by decide +kernel
theorem n_43_99 : ∀ l, xpr 43 99 l = l := xpr_no (by decide +kernel)
theorem r_43_100 : xfetch 43 100 = some (.invokevirtual 82, 3) := by decide +kernel
theorem n_43_100 : ∀ l, xpr 43 100 l = l := xpr_no (by decide +kernel)
theorem r_43_103 : xfetch 43 103 = some (.goto 39, 3) := by decide +kernel
theorem n_43_103 : ∀ l, xpr 43 103 l = l := xpr_no (by decide +kernel)
theorem r_43_106 : xfetch 43 106 = some (.aload_n 0, 1) := by decide +kernel
theorem n_43_106 : ∀ l, xpr 43 106 l = l := xpr_no (by decide +kernel)
theorem r_43_107 : xfetch 43 107 = some (.iload_n 2, 1) := by decide +kernel
theorem n_43_107 : ∀ l, xpr 43 107 l = l := xpr_no (by decide +kernel)
theorem r_43_108 : xfetch 43 108 = some (.iload 5, 2) := by decide +kernel
theorem n_43_108 : ∀ l, xpr 43 108 l = l := xpr_no (by decide +kernel)
theorem r_43_110 : xfetch 43 110 = some (.invokevirtual 86, 3) := by decide +kernel
theorem n_43_110 : ∀ l, xpr 43 110 l = l := xpr_no (by decide +kernel)
theorem r_43_113 : xfetch 43 113 = some (.aload_n 0, 1) := by decide +kernel
theorem n_43_113 : ∀ l, xpr 43 113 l = l := xpr_no (by decide +kernel)
theorem r_43_114 : xfetch 43 114 = some (.dup, 1) := by decide +kernel
theorem n_43_114 : ∀ l, xpr 43 114 l = l := xpr_no (by decide +kernel)
theorem r_43_115 : xfetch 43 115 = some (.getfield 38, 3) := by decide +kernel
theorem n_43_115 : ∀ l, xpr 43 115 l = l := xpr_no (by decide +kernel)
theorem r_43_118 : xfetch 43 118 = some (.iload 5, 2) := by decide +kernel
theorem n_43_118 : ∀ l, xpr 43 118 l = l := xpr_no (by decide +kernel)
theorem r_43_120 : xfetch 43 120 = some (.aload_n 3, 1) := by decide +kernel
theorem n_43_120 : ∀ l, xpr 43 120 l = l := xpr_no (by decide +kernel)
theorem r_43_121 : xfetch 43 121 = some (.ifnonnull 12, 3) := by decide +kernel
theorem n_43_121 : ∀ l, xpr 43 121 l = l := xpr_no (by decide +kernel)
theorem r_43_124 : xfetch 43 124 = some (.aload_n 0, 1) := by decide +kernel
theorem n_43_124 : ∀ l, xpr 43 124 l = l := xpr_no (by decide +kernel)
theorem r_43_125 : xfetch 43 125 = some (.getfield 18, 3) := by decide +kernel
theorem n_43_125 : ∀ l, xpr 43 125 l = l := xpr_no (by decide +kernel)
theorem r_43_128 : xfetch 43 128 = some (.iload_n 2, 1) := by decide +kernel
theorem n_43_128 : ∀ l, xpr 43 128 l = l := xpr_no (by decide +kernel)
theorem r_43_129 : xfetch 43 129 = some (.iaload, 1) := by decide +kernel
theorem n_43_129 : ∀ l, xpr 43 129 l = l := xpr_no (by decide +kernel)
theorem r_43_130 : xfetch 43 130 = some (.goto 7, 3) := by decide +kernel
theorem n_43_130 : ∀ l, xpr 43 130 l = l := xpr_no (by decide +kernel)
theorem r_43_133 : xfetch 43 133 = some (.aload_n 3, 1) := by decide +kernel
theorem n_43_133 : ∀ l, xpr 43 133 l = l := xpr_no (by decide +kernel)
theorem r_43_134 : xfetch 43 134 = some (.getfield 38, 3) := by decide +kernel
theorem n_43_134 : ∀ l, xpr 43 134 l = l := xpr_no (by decide +kernel)
theorem r_43_137 : xfetch 43 137 = some (.imul, 1) := by decide +kernel
theorem n_43_137 : ∀ l, xpr 43 137 l = l := xpr_no (by decide +kernel)
theorem r_43_138 : xfetch 43 138 = some (.iadd, 1) := by decide +kernel
theorem n_43_138 : ∀ l, xpr 43 138 l = l := xpr_no (by decide +kernel)
theorem r_43_139 : xfetch 43 139 = some (.putfield 38, 3) := by decide +kernel
theorem n_43_139 : ∀ l, xpr 43 139 l = l := xpr_no (by decide +kernel)
theorem r_43_142 : xfetch 43 142 = some (.iconst 0, 1) := by decide +kernel
theorem n_43_142 : ∀ l, xpr 43 142 l = l := xpr_no (by decide +kernel)
theorem r_43_143 : xfetch 43 143 = some (.istore 6, 2) := by decide +kernel
theorem n_43_143 : ∀ l, xpr 43 143 l = l := xpr_no (by decide +kernel)
theorem r_43_145 : xfetch 43 145 = some (.iload 6, 2) := by decide +kernel
theorem r_43_147 : xfetch 43 147 = some (.iload 5, 2) := by decide +kernel
theorem n_43_147 : ∀ l, xpr 43 147 l = l := xpr_no (by decide +kernel)
theorem r_43_149 : xfetch 43 149 = some (.if_icmp .ge 74, 3) := by decide +kernel
theorem n_43_149 : ∀ l, xpr 43 149 l = l := xpr_no (by decide +kernel)
theorem r_43_152 : xfetch 43 152 = some (.aload_n 3, 1) := by decide +kernel
theorem n_43_152 : ∀ l, xpr 43 152 l = l := xpr_no (by decide +kernel)
theorem r_43_153 : xfetch 43 153 = some (.ifnonnull 52, 3) := by decide +kernel
theorem n_43_153 : ∀ l, xpr 43 153 l = l := xpr_no (by decide +kernel)
theorem r_43_156 : xfetch 43 156 = some (.aload_n 0, 1) := by decide +kernel
theorem n_43_156 : ∀ l, xpr 43 156 l = l := xpr_no (by decide +kernel)
theorem r_43_157 : xfetch 43 157 = some (.getfield 27, 3) := by decide +kernel
theorem n_43_157 : ∀ l, xpr 43 157 l = l := xpr_no (by decide +kernel)
theorem r_43_160 : xfetch 43 160 = some (.iload 4, 2) := by decide +kernel
theorem n_43_160 : ∀ l, xpr 43 160 l = l := xpr_no (by decide +kernel)
theorem r_43_162 : xfetch 43 162 = some (.aload_n 0, 1) := by decide +kernel
theorem n_43_162 : ∀ l, xpr 43 162 l = l := xpr_no (by decide +kernel)
theorem r_43_163 : xfetch 43 163 = some (.getfield 9, 3) := by decide +kernel
theorem n_43_163 : ∀ l, xpr 43 163 l = l := xpr_no (by decide +kernel)
theorem r_43_166 : xfetch 43 166 = some (.iload_n 2, 1) := by decide +kernel
theorem n_43_166 : ∀ l, xpr 43 166 l = l := xpr_no (by decide +kernel)
theorem r_43_167 : xfetch 43 167 = some (.iaload, 1) := by decide +kernel
theorem n_43_167 : ∀ l, xpr 43 167 l = l := xpr_no (by decide +kernel)
theorem r_43_168 : xfetch 43 168 = some (.iload 6, 2) := by decide +kernel
theorem n_43_168 : ∀ l, xpr 43 168 l = l := xpr_no (by decide +kernel)
theorem r_43_170 : xfetch 43 170 = some (.aload_n 0, 1) := by decide +kernel
theorem n_43_170 : ∀ l, xpr 43 170 l = l := xpr_no (by decide +kernel)
theorem r_43_171 : xfetch 43 171 = some (.getfield 18, 3) := by decide +kernel
theorem n_43_171 : ∀ l, xpr 43 171 l = l := xpr_no (by decide +kernel)
theorem r_43_174 : xfetch 43 174 = some (.iload_n 2, 1) := by decide +kernel
theorem n_43_174 : ∀ l, xpr 43 174 l = l := xpr_no (by decide +kernel)
theorem r_43_175 : xfetch 43 175 = some (.iaload, 1) := by decide +kernel
theorem n_43_175 : ∀ l, xpr 43 175 l = l := xpr_no (by decide +kernel)
theorem r_43_176 : xfetch 43 176 = some (.imul, 1) := by decide +kernel
theorem n_43_176 : ∀ l, xpr 43 176 l = l := xpr_no (by decide +kernel)
theorem r_43_177 : xfetch 43 177 = some (.iadd, 1) := by decide +kernel
theorem n_43_177 : ∀ l, xpr 43 177 l = l := xpr_no (by decide +kernel)
theorem r_43_178 : xfetch 43 178 = some (.aload_n 0, 1) := by decide +kernel
theorem n_43_178 : ∀ l, xpr 43 178 l = l := xpr_no (by decide +kernel)
theorem r_43_179 : xfetch 43 179 = some (.getfield 15, 3) := by decide +kernel
theorem n_43_179 : ∀ l, xpr 43 179 l = l := xpr_no (by decide +kernel)
theorem r_43_182 : xfetch 43 182 = some (.iload_n 2, 1) := by decide +kernel
theorem n_43_182 : ∀ l, xpr 43 182 l = l := xpr_no (by decide +kernel)
theorem r_43_183 : xfetch 43 183 = some (.iaload, 1) := by decide +kernel
theorem n_43_183 : ∀ l, xpr 43 183 l = l := xpr_no (by decide +kernel)
theorem r_43_184 : xfetch 43 184 = some (.iload_n 2, 1) := by decide +kernel
theorem n_43_184 : ∀ l, xpr 43 184 l = l := xpr_no (by decide +kernel)
theorem r_43_185 : xfetch 43 185 = some (.aload_n 1, 1) := by decide +kernel
theorem n_43_185 : ∀ l, xpr 43 185 l = l := xpr_no (by decide +kernel)
theorem r_43_186 : xfetch 43 186 = some (.getfield 89, 3) := by decide +kernel
theorem n_43_186 : ∀ l, xpr 43 186 l = l := xpr_no (by decide +kernel)
theorem r_43_189 : xfetch 43 189 = some (.iload_n 2, 1) := by decide +kernel
theorem n_43_189 : ∀ l, xpr 43 189 l = l := xpr_no (by decide +kernel)
theorem r_43_190 : xfetch 43 190 = some (.iaload, 1) := by decide +kernel
theorem n_43_190 : ∀ l, xpr 43 190 l = l := xpr_no (by decide +kernel)
theorem r_43_191 : xfetch 43 191 = some (.iload 6, 2) := by decide +kernel
theorem n_43_191 : ∀ l, xpr 43 191 l = l := xpr_no (by decide +kernel)
theorem r_43_193 : xfetch 43 193 = some (.iload 5, 2) := by decide +kernel
theorem n_43_193 : ∀ l, xpr 43 193 l = l := xpr_no (by decide +kernel)
theorem r_43_195 : xfetch 43 195 = some (.lconst 0, 1) := by decide +kernel
theorem n_43_195 : ∀ l, xpr 43 195 l = l := xpr_no (by decide +kernel)
theorem r_43_196 : xfetch 43 196 = some (.invokestatic 92, 3) := by decide +kernel
theorem n_43_196 : ∀ l, xpr 43 196 l = l := xpr_no (by decide +kernel)
theorem r_43_199 : xfetch 43 199 = some (.invokevirtual 96, 3) := by decide +kernel
theorem n_43_199 : ∀ l, xpr 43 199 l = l := xpr_no (by decide +kernel)
theorem r_43_202 : xfetch 43 202 = some (.goto 15, 3) := by decide +kernel
theorem n_43_202 : ∀ l, xpr 43 202 l = l := xpr_no (by decide +kernel)
theorem r_43_205 : xfetch 43 205 = some (.aload_n 0, 1) := by decide +kernel
theorem n_43_205 : ∀ l, xpr 43 205 l = l := xpr_no (by decide +kernel)
theorem r_43_206 : xfetch 43 206 = some (.aload_n 1, 1) := by decide +kernel
theorem n_43_206 : ∀ l, xpr 43 206 l = l := xpr_no (by decide +kernel)
theorem r_43_207 : xfetch 43 207 = some (.iload_n 2, 1) := by decide +kernel
theorem n_43_207 : ∀ l, xpr 43 207 l = l := xpr_no (by decide +kernel)
theorem r_43_208 : xfetch 43 208 = some (.iload 6, 2) := by decide +kernel
theorem n_43_208 : ∀ l, xpr 43 208 l = l := xpr_no (by decide +kernel)
theorem r_43_210 : xfetch 43 210 = some (.aload_n 3, 1) := by decide +kernel
theorem n_43_210 : ∀ l, xpr 43 210 l = l := xpr_no (by decide +kernel)
theorem r_43_211 : xfetch 43 211 = some (.getfield 27, 3) := by decide +kernel
theorem n_43_211 : ∀ l, xpr 43 211 l = l := xpr_no (by decide +kernel)
theorem r_43_214 : xfetch 43 214 = some (.invokevirtual 100, 3) := by decide +kernel
theorem n_43_214 : ∀ l, xpr 43 214 l = l := xpr_no (by decide +kernel)
theorem r_43_217 : xfetch 43 217 = some (.iinc 6 1, 3) := by decide +kernel
theorem n_43_217 : ∀ l, xpr 43 217 l = l := xpr_no (by decide +kernel)
theorem r_43_220 : xfetch 43 220 = some (.goto (-75), 3) := by decide +kernel
theorem n_43_220 : ∀ l, xpr 43 220 l = l := xpr_no (by decide +kernel)
theorem r_43_223 : xfetch 43 223 = some (.return_, 1) := by decide +kernel
theorem n_43_223 : ∀ l, xpr 43 223 l = l := xpr_no (by decide +kernel)
theorem v_Shape_place_0 {S : Option (Nat × (Nat → Int32))} {s : zSt} {Q : Option Value ⊕ Nat → zSt → Prop} {a0 : Int} {a1 : Int} {x2 : Int} {a3 : Int} (ha0 : isO a0 4) (ha1 : isO a1 1) (ha3 : 0 ≤ a3 → isO a3 4)
    (h : (0 ≤ x2 ∧ x2 < 8) ∧ ((0 ≤ a3 → (zp2 (zI s a3 5)) ∧ ((0 ≤ (zI s a3 7)) ∧ (((zI s a3 7) ≤ 1000000) ∧ (rng (zup (zI s a3 7) (zI s a3 5)) ∧ (rng (min (zI (zwI s (a0 + 3) x2 (zup (zI s a3 7) (zI s a3 5))) a3 5) (zI (zwI s (a0 + 3) x2 (zup (zI s a3 7) (zI s a3 5))) a1 0)) ∧ (rng (max (zI s a0 5) (min (zI (zwI s (a0 + 3) x2 (zup (zI s a3 7) (zI s a3 5))) a3 5) (zI (zwI s (a0 + 3) x2 (zup (zI s a3 7) (zI s a3 5))) a1 0))) ∧ ((¬ (20 < (zI s (a1 + 2) x2) ∧ (zI s (a1 + 2) x2) ≤ 36) → wp S 48 0 [(0, rf a0), (1, iv x2), (2, iv (zI s (a1 + 3) x2))] [] (zwI (zwI (zwI s (a0 + 3) x2 (zup (zI s a3 7) (zI s a3 5))) (a0 + 4) x2 (min (zI (zwI s (a0 + 3) x2 (zup (zI s a3 7) (zI s a3 5))) a3 5) (zI (zwI s (a0 + 3) x2 (zup (zI s a3 7) (zI s a3 5))) a1 0))) a0 5 (max (zI s a0 5) (min (zI (zwI s (a0 + 3) x2 (zup (zI s a3 7) (zI s a3 5))) a3 5) (zI (zwI s (a0 + 3) x2 (zup (zI s a3 7) (zI s a3 5))) a1 0)))) (fun o27 s27 => zkU (rng ((zI s27 a0 6) + ((zI s (a1 + 3) x2) * (zI s27 a3 6))) ∧ (wp S 43 145 [(0, rf a0), (1, rf a1), (2, iv x2), (3, rf a3), (4, iv (zI s (a1 + 2) x2)), (5, iv (zI s (a1 + 3) x2)), (6, iv 0)] [] (zwI s27 a0 6 ((zI s27 a0 6) + ((zI s (a1 + 3) x2) * (zI s27 a3 6)))) Q)) (fun e27 => False) o27)) ∧ (20 < (zI s (a1 + 2) x2) ∧ (zI s (a1 + 2) x2) ≤ 36 → wp S 47 0 [(0, rf a0), (1, iv x2), (2, iv ((zI s (a1 + 2) x2) - 20))] [] (zwI (zwI (zwI s (a0 + 3) x2 (zup (zI s a3 7) (zI s a3 5))) (a0 + 4) x2 (min (zI (zwI s (a0 + 3) x2 (zup (zI s a3 7) (zI s a3 5))) a3 5) (zI (zwI s (a0 + 3) x2 (zup (zI s a3 7) (zI s a3 5))) a1 0))) a0 5 (max (zI s a0 5) (min (zI (zwI s (a0 + 3) x2 (zup (zI s a3 7) (zI s a3 5))) a3 5) (zI (zwI s (a0 + 3) x2 (zup (zI s a3 7) (zI s a3 5))) a1 0)))) (fun o32 s32 => zkU (wp S 43 145 [(0, rf a0), (1, rf a1), (2, iv x2), (3, rf a3), (4, iv (zI s (a1 + 2) x2)), (5, iv (zI s (a1 + 3) x2)), (6, iv 0)] [] s32 Q) (fun e32 => False) o32))))))))) ∧ (a3 < 0 → rng (zby (zI s (a1 + 2) x2)) ∧ ((0 ≤ a3 → rng (min (zI (zwI s (a0 + 3) x2 (zby (zI s (a1 + 2) x2))) a3 5) (zI (zwI s (a0 + 3) x2 (zby (zI s (a1 + 2) x2))) a1 0)) ∧ (rng (max (zI s a0 5) (min (zI (zwI s (a0 + 3) x2 (zby (zI s (a1 + 2) x2))) a3 5) (zI (zwI s (a0 + 3) x2 (zby (zI s (a1 + 2) x2))) a1 0))) ∧ ((¬ (20 < (zI s (a1 + 2) x2) ∧ (zI s (a1 + 2) x2) ≤ 36) → wp S 48 0 [(0, rf a0), (1, iv x2), (2, iv (zI s (a1 + 3) x2))] [] (zwI (zwI (zwI s (a0 + 3) x2 (zby (zI s (a1 + 2) x2))) (a0 + 4) x2 (min (zI (zwI s (a0 + 3) x2 (zby (zI s (a1 + 2) x2))) a3 5) (zI (zwI s (a0 + 3) x2 (zby (zI s (a1 + 2) x2))) a1 0))) a0 5 (max (zI s a0 5) (min (zI (zwI s (a0 + 3) x2 (zby (zI s (a1 + 2) x2))) a3 5) (zI (zwI s (a0 + 3) x2 (zby (zI s (a1 + 2) x2))) a1 0)))) (fun o51 s51 => zkU (rng ((zI s51 a0 6) + ((zI s (a1 + 3) x2) * (zI s51 a3 6))) ∧ (wp S 43 145 [(0, rf a0), (1, rf a1), (2, iv x2), (3, rf a3), (4, iv (zI s (a1 + 2) x2)), (5, iv (zI s (a1 + 3) x2)), (6, iv 0)] [] (zwI s51 a0 6 ((zI s51 a0 6) + ((zI s (a1 + 3) x2) * (zI s51 a3 6)))) Q)) (fun e51 => False) o51)) ∧ (20 < (zI s (a1 + 2) x2) ∧ (zI s (a1 + 2) x2) ≤ 36 → wp S 47 0 [(0, rf a0), (1, iv x2), (2, iv ((zI s (a1 + 2) x2) - 20))] [] (zwI (zwI (zwI s (a0 + 3) x2 (zby (zI s (a1 + 2) x2))) (a0 + 4) x2 (min (zI (zwI s (a0 + 3) x2 (zby (zI s (a1 + 2) x2))) a3 5) (zI (zwI s (a0 + 3) x2 (zby (zI s (a1 + 2) x2))) a1 0))) a0 5 (max (zI s a0 5) (min (zI (zwI s (a0 + 3) x2 (zby (zI s (a1 + 2) x2))) a3 5) (zI (zwI s (a0 + 3) x2 (zby (zI s (a1 + 2) x2))) a1 0)))) (fun o56 s56 => zkU (wp S 43 145 [(0, rf a0), (1, rf a1), (2, iv x2), (3, rf a3), (4, iv (zI s (a1 + 2) x2)), (5, iv (zI s (a1 + 3) x2)), (6, iv 0)] [] s56 Q) (fun e56 => False) o56))))) ∧ (a3 < 0 → rng (min (zby (zI s (a1 + 2) x2)) (zI (zwI s (a0 + 3) x2 (zby (zI s (a1 + 2) x2))) a1 0)) ∧ (rng (max (zI s a0 5) (min (zby (zI s (a1 + 2) x2)) (zI (zwI s (a0 + 3) x2 (zby (zI s (a1 + 2) x2))) a1 0))) ∧ ((¬ (20 < (zI s (a1 + 2) x2) ∧ (zI s (a1 + 2) x2) ≤ 36) → wp S 48 0 [(0, rf a0), (1, iv x2), (2, iv (zI s (a1 + 3) x2))] [] (zwI (zwI (zwI s (a0 + 3) x2 (zby (zI s (a1 + 2) x2))) (a0 + 4) x2 (min (zby (zI s (a1 + 2) x2)) (zI (zwI s (a0 + 3) x2 (zby (zI s (a1 + 2) x2))) a1 0))) a0 5 (max (zI s a0 5) (min (zby (zI s (a1 + 2) x2)) (zI (zwI s (a0 + 3) x2 (zby (zI s (a1 + 2) x2))) a1 0)))) (fun o73 s73 => zkU ((0 ≤ a3 → rng ((zI s73 a0 6) + ((zI s (a1 + 3) x2) * (zI s73 a3 6))) ∧ (wp S 43 145 [(0, rf a0), (1, rf a1), (2, iv x2), (3, rf a3), (4, iv (zI s (a1 + 2) x2)), (5, iv (zI s (a1 + 3) x2)), (6, iv 0)] [] (zwI s73 a0 6 ((zI s73 a0 6) + ((zI s (a1 + 3) x2) * (zI s73 a3 6)))) Q)) ∧ (a3 < 0 → rng ((zI s73 a0 6) + ((zI s (a1 + 3) x2) * (zI s73 (a0 + 3) x2))) ∧ (wp S 43 145 [(0, rf a0), (1, rf a1), (2, iv x2), (3, orf a3), (4, iv (zI s (a1 + 2) x2)), (5, iv (zI s (a1 + 3) x2)), (6, iv 0)] [] (zwI s73 a0 6 ((zI s73 a0 6) + ((zI s (a1 + 3) x2) * (zI s73 (a0 + 3) x2)))) Q))) (fun e73 => False) o73)) ∧ (20 < (zI s (a1 + 2) x2) ∧ (zI s (a1 + 2) x2) ≤ 36 → wp S 47 0 [(0, rf a0), (1, iv x2), (2, iv ((zI s (a1 + 2) x2) - 20))] [] (zwI (zwI (zwI s (a0 + 3) x2 (zby (zI s (a1 + 2) x2))) (a0 + 4) x2 (min (zby (zI s (a1 + 2) x2)) (zI (zwI s (a0 + 3) x2 (zby (zI s (a1 + 2) x2))) a1 0))) a0 5 (max (zI s a0 5) (min (zby (zI s (a1 + 2) x2)) (zI (zwI s (a0 + 3) x2 (zby (zI s (a1 + 2) x2))) a1 0)))) (fun o82 s82 => zkU (wp S 43 145 [(0, rf a0), (1, rf a1), (2, iv x2), (3, orf a3), (4, iv (zI s (a1 + 2) x2)), (5, iv (zI s (a1 + 3) x2)), (6, iv 0)] [] s82 Q) (fun e82 => False) o82))))))))) :
    wp S 43 0 [(0, rf a0), (1, rf a1), (2, iv x2), (3, orf a3)] [] s Q := by
  refine i_aload_n (a := a1) r_43_0 (n_43_0 _) rfl ?_
  refine i_getR (a := a1) (b := a1 + 2) r_43_1 (n_43_1 _) rfl rfl rfl (by omega) ha1 (by omega) ?_
  have t1 := (t_1_3 ha1)
  refine i_iload_n (x := x2) r_43_4 (n_43_4 _) rfl ?_
  obtain ⟨g2, h⟩ := h
  refine i_iaload (a := a1 + 2) (j := x2) r_43_5 (n_43_5 _) t1 ⟨by omega, by omega⟩ (by omega) (by omega) (fun q3 => ?_)
  refine i_istore (l' := [(0, rf a0), (1, rf a1), (2, iv x2), (3, orf a3), (4, iv (zI s (a1 + 2) x2))]) r_43_6 (n_43_6 _) (by decide) (by rcases Int.lt_or_le a3 0 with z | z <;> first | (rw [orf_neg z]; done) | (rw [orf_pos z]; done) | (rw [orf_neg z]; rfl) | (rw [orf_pos z]; rfl)) ?_
  refine i_aload_n (a := a1) r_43_8 (n_43_8 _) rfl ?_
  refine i_getR (a := a1) (b := a1 + 3) r_43_9 (n_43_9 _) rfl rfl rfl (by omega) ha1 (by omega) ?_
  have t4 := (t_1_4 ha1)
  refine i_iload_n (x := x2) r_43_12 (n_43_12 _) rfl ?_
  refine i_iaload (a := a1 + 3) (j := x2) r_43_13 (n_43_13 _) t4 ⟨by omega, by omega⟩ (by omega) (by omega) (fun q5 => ?_)
  refine i_istore (l' := [(0, rf a0), (1, rf a1), (2, iv x2), (3, orf a3), (4, iv (zI s (a1 + 2) x2)), (5, iv (zI s (a1 + 3) x2))]) r_43_14 (n_43_14 _) (by decide) rfl ?_
  refine i_aload_n (a := a0) r_43_16 (n_43_16 _) rfl ?_
  refine i_getR (a := a0) (b := a0 + 3) r_43_17 (n_43_17 _) rfl rfl rfl (by omega) ha0 (by omega) ?_
  have t6 := (t_4_2 ha0)
  refine i_iload_n (x := x2) r_43_20 (n_43_20 _) rfl ?_
  refine i_aloadN_n (a := a3) r_43_21 (n_43_21 _) rfl ?_
  refine i_ifnonnull (t := 33) r_43_22 (n_43_22 _) rfl (fun c7 => ?_) (fun c7 => ?_)
  · replace h := h.1 c7
    rw [show [(0, rf a0), (1, rf a1), (2, iv x2), (3, orf a3), (4, iv (zI s (a1 + 2) x2)), (5, iv (zI s (a1 + 3) x2))] = [(0, rf a0), (1, rf a1), (2, iv x2), (3, rf a3), (4, iv (zI s (a1 + 2) x2)), (5, iv (zI s (a1 + 3) x2))] by rw [orf_pos c7]]
    refine i_aload_n (a := a3) r_43_33 (n_43_33 _) rfl ?_
    obtain ⟨g8, h⟩ := h
    obtain ⟨g9, h⟩ := h
    obtain ⟨g10, h⟩ := h
    refine wp_virt (b := a3) (rest := [iv x2, rf (a0 + 3)]) (Ls := [(0, rf a3)]) r_43_34 (n_43_34 _) rfl ⟨rfl, rfl, by decide, by decide⟩ rfl rfl (ha3 c7) ⟨rfl, Nat.le_of_ble_eq_true rfl, Nat.le_of_ble_eq_true rfl⟩ rfl (K_Shape_size (ha3 c7) g8 g9 g10) ?_
    rintro _ _ ⟨rfl, rfl⟩
    refine .inl ⟨some (iv (zup (zI s a3 7) (zI s a3 5))), rfl, ?_⟩
    show wp S 43 37 [(0, rf a0), (1, rf a1), (2, iv x2), (3, rf a3), (4, iv (zI s (a1 + 2) x2)), (5, iv (zI s (a1 + 3) x2))] [iv (zup (zI s a3 7) (zI s a3 5)), iv x2, rf (a0 + 3)] s Q
    obtain ⟨g12, h⟩ := h
    refine i_iastore (a := a0 + 3) (j := x2) (x := zup (zI s a3 7) (zI s a3 5)) r_43_37 (n_43_37 _) t6 ⟨by omega, by omega⟩ (by omega) (by omega) g12 ?_
    refine i_aload_n (a := a0) r_43_38 (n_43_38 _) rfl ?_
    refine i_getR (a := a0) (b := a0 + 4) r_43_39 (n_43_39 _) rfl rfl rfl (by omega) ha0 (by omega) ?_
    have t13 := (t_4_3 ha0)
    refine i_iload_n (x := x2) r_43_42 (n_43_42 _) rfl ?_
    refine i_aload_n (a := a3) r_43_43 (n_43_43 _) rfl ?_
    refine i_ifnonnullA (t := 56) (a := a3) r_43_44 (n_43_44 _) rfl (ha3 c7).1 ?_
    refine i_aload_n (a := a3) r_43_56 (n_43_56 _) rfl ?_
    refine i_getI (a := a3) r_43_57 (n_43_57 _) rfl (by decide) (ha3 c7) (fun q14 => ?_)
    refine i_aload_n (a := a1) r_43_60 (n_43_60 _) rfl ?_
    refine i_getI (a := a1) r_43_61 (n_43_61 _) rfl (by decide) ha1 (fun q15 => ?_)
    refine wp_stat (rest := [iv x2, rf (a0 + 4)]) (Ls := [(0, iv (zI (zwI s (a0 + 3) x2 (zup (zI s a3 7) (zI s a3 5))) a3 5)), (1, iv (zI (zwI s (a0 + 3) x2 (zup (zI s a3 7) (zI s a3 5))) a1 0))]) r_43_64 (n_43_64 _) rfl ⟨rfl, by decide, by decide, by decide⟩ rfl rfl ⟨rfl, Nat.le_of_ble_eq_true rfl, Nat.le_of_ble_eq_true rfl⟩ rfl (K_Math_min q14 q15) ?_
    rintro _ _ ⟨rfl, rfl⟩
    refine .inl ⟨some (iv (min (zI (zwI s (a0 + 3) x2 (zup (zI s a3 7) (zI s a3 5))) a3 5) (zI (zwI s (a0 + 3) x2 (zup (zI s a3 7) (zI s a3 5))) a1 0))), rfl, ?_⟩
    show wp S 43 67 [(0, rf a0), (1, rf a1), (2, iv x2), (3, rf a3), (4, iv (zI s (a1 + 2) x2)), (5, iv (zI s (a1 + 3) x2))] [iv (min (zI (zwI s (a0 + 3) x2 (zup (zI s a3 7) (zI s a3 5))) a3 5) (zI (zwI s (a0 + 3) x2 (zup (zI s a3 7) (zI s a3 5))) a1 0)), iv x2, rf (a0 + 4)] (zwI s (a0 + 3) x2 (zup (zI s a3 7) (zI s a3 5))) Q
    obtain ⟨g17, h⟩ := h
    refine i_iastore (a := a0 + 4) (j := x2) (x := min (zI (zwI s (a0 + 3) x2 (zup (zI s a3 7) (zI s a3 5))) a3 5) (zI (zwI s (a0 + 3) x2 (zup (zI s a3 7) (zI s a3 5))) a1 0)) r_43_67 (n_43_67 _) t13 ⟨by omega, by omega⟩ (by omega) (by omega) g17 ?_
    refine i_aload_n (a := a0) r_43_68 (n_43_68 _) rfl ?_
    refine i_aload_n (a := a0) r_43_69 (n_43_69 _) rfl ?_
    have e19 : zI (zwI (zwI s (a0 + 3) x2 (zup (zI s a3 7) (zI s a3 5))) (a0 + 4) x2 (min (zI (zwI s (a0 + 3) x2 (zup (zI s a3 7) (zI s a3 5))) a3 5) (zI (zwI s (a0 + 3) x2 (zup (zI s a3 7) (zI s a3 5))) a1 0))) a0 5 = zI s a0 5 := (zI_ne (by omega)).trans (zI_ne (by omega))
    refine i_getIe (a := a0) (x := zI s a0 5) r_43_70 (n_43_70 _) rfl (by decide) ha0 e19 (fun q18 => ?_)
    refine i_aload_n (a := a0) r_43_73 (n_43_73 _) rfl ?_
    refine i_getR (a := a0) (b := a0 + 4) r_43_74 (n_43_74 _) rfl rfl rfl (by omega) ha0 (by omega) ?_
    have t20 := (t_4_3 ha0)
    refine i_iload_n (x := x2) r_43_77 (n_43_77 _) rfl ?_
    refine i_iaload (a := a0 + 4) (j := x2) r_43_78 (n_43_78 _) t20 ⟨by omega, by omega⟩ (by omega) (by omega) (fun q21 => ?_)
    have e22 : zI (zwI (zwI s (a0 + 3) x2 (zup (zI s a3 7) (zI s a3 5))) (a0 + 4) x2 (min (zI (zwI s (a0 + 3) x2 (zup (zI s a3 7) (zI s a3 5))) a3 5) (zI (zwI s (a0 + 3) x2 (zup (zI s a3 7) (zI s a3 5))) a1 0))) (a0 + 4) x2 = min (zI (zwI s (a0 + 3) x2 (zup (zI s a3 7) (zI s a3 5))) a3 5) (zI (zwI s (a0 + 3) x2 (zup (zI s a3 7) (zI s a3 5))) a1 0) := zI_eq
    rw [e22] at q21 ⊢
    refine wp_stat (rest := [rf a0]) (Ls := [(0, iv (zI s a0 5)), (1, iv (min (zI (zwI s (a0 + 3) x2 (zup (zI s a3 7) (zI s a3 5))) a3 5) (zI (zwI s (a0 + 3) x2 (zup (zI s a3 7) (zI s a3 5))) a1 0)))]) r_43_79 (n_43_79 _) rfl ⟨rfl, by decide, by decide, by decide⟩ rfl rfl ⟨rfl, Nat.le_of_ble_eq_true rfl, Nat.le_of_ble_eq_true rfl⟩ rfl (K_Math_max q18 q21) ?_
    rintro _ _ ⟨rfl, rfl⟩
    refine .inl ⟨some (iv (max (zI s a0 5) (min (zI (zwI s (a0 + 3) x2 (zup (zI s a3 7) (zI s a3 5))) a3 5) (zI (zwI s (a0 + 3) x2 (zup (zI s a3 7) (zI s a3 5))) a1 0)))), rfl, ?_⟩
    show wp S 43 82 [(0, rf a0), (1, rf a1), (2, iv x2), (3, rf a3), (4, iv (zI s (a1 + 2) x2)), (5, iv (zI s (a1 + 3) x2))] [iv (max (zI s a0 5) (min (zI (zwI s (a0 + 3) x2 (zup (zI s a3 7) (zI s a3 5))) a3 5) (zI (zwI s (a0 + 3) x2 (zup (zI s a3 7) (zI s a3 5))) a1 0))), rf a0] (zwI (zwI s (a0 + 3) x2 (zup (zI s a3 7) (zI s a3 5))) (a0 + 4) x2 (min (zI (zwI s (a0 + 3) x2 (zup (zI s a3 7) (zI s a3 5))) a3 5) (zI (zwI s (a0 + 3) x2 (zup (zI s a3 7) (zI s a3 5))) a1 0))) Q
    obtain ⟨g24, h⟩ := h
    refine i_putI (a := a0) (x := max (zI s a0 5) (min (zI (zwI s (a0 + 3) x2 (zup (zI s a3 7) (zI s a3 5))) a3 5) (zI (zwI s (a0 + 3) x2 (zup (zI s a3 7) (zI s a3 5))) a1 0))) r_43_82 (n_43_82 _) rfl (.inl rfl) rfl ha0 g24 ?_
    refine i_iload (x := zI s (a1 + 2) x2) r_43_85 (n_43_85 _) rfl ?_
    refine wp_stat (rest := []) (Ls := [(0, iv (zI s (a1 + 2) x2))]) r_43_87 (n_43_87 _) rfl ⟨rfl, by decide, by decide, by decide⟩ rfl rfl ⟨rfl, Nat.le_of_ble_eq_true rfl, Nat.le_of_ble_eq_true rfl⟩ rfl (K_RL_isBits q3) ?_
    rintro _ _ ⟨rfl, rfl⟩
    refine .inl ⟨some (iv (bi (20 < (zI s (a1 + 2) x2) ∧ (zI s (a1 + 2) x2) ≤ 36))), rfl, ?_⟩
    show wp S 43 90 [(0, rf a0), (1, rf a1), (2, iv x2), (3, rf a3), (4, iv (zI s (a1 + 2) x2)), (5, iv (zI s (a1 + 3) x2))] [iv (bi (20 < (zI s (a1 + 2) x2) ∧ (zI s (a1 + 2) x2) ≤ 36))] (zwI (zwI (zwI s (a0 + 3) x2 (zup (zI s a3 7) (zI s a3 5))) (a0 + 4) x2 (min (zI (zwI s (a0 + 3) x2 (zup (zI s a3 7) (zI s a3 5))) a3 5) (zI (zwI s (a0 + 3) x2 (zup (zI s a3 7) (zI s a3 5))) a1 0))) a0 5 (max (zI s a0 5) (min (zI (zwI s (a0 + 3) x2 (zup (zI s a3 7) (zI s a3 5))) a3 5) (zI (zwI s (a0 + 3) x2 (zup (zI s a3 7) (zI s a3 5))) a1 0)))) Q
    refine i_if (t := 106) r_43_90 (n_43_90 _) rfl (TB_eq) (fun c26 => ?_) (fun c26 => ?_)
    · replace h := h.1 c26
      refine i_aload_n (a := a0) r_43_106 (n_43_106 _) rfl ?_
      refine i_iload_n (x := x2) r_43_107 (n_43_107 _) rfl ?_
      refine i_iload (x := zI s (a1 + 3) x2) r_43_108 (n_43_108 _) rfl ?_
      refine wp_virt (b := a0) (rest := []) (Ls := [(0, rf a0), (1, iv x2), (2, iv (zI s (a1 + 3) x2))]) r_43_110 (n_43_110 _) rfl ⟨rfl, rfl, by decide, by decide⟩ rfl rfl ha0 ⟨rfl, Nat.le_of_ble_eq_true rfl, Nat.le_of_ble_eq_true rfl⟩ rfl h ?_
      intro o27 s27 h
      rcases h with ⟨rfl, h⟩ | ⟨e27, rfl, h⟩
      · refine .inl ⟨none, rfl, ?_⟩
        refine i_aload_n (a := a0) r_43_113 (n_43_113 _) rfl ?_
        refine i_dup r_43_114 (n_43_114 _) rfl ?_
        refine i_getI (a := a0) r_43_115 (n_43_115 _) rfl (by decide) ha0 (fun q29 => ?_)
        refine i_iload (x := zI s (a1 + 3) x2) r_43_118 (n_43_118 _) rfl ?_
        refine i_aload_n (a := a3) r_43_120 (n_43_120 _) rfl ?_
        refine i_ifnonnullA (t := 133) (a := a3) r_43_121 (n_43_121 _) rfl (ha3 c7).1 ?_
        refine i_aload_n (a := a3) r_43_133 (n_43_133 _) rfl ?_
        refine i_getI (a := a3) r_43_134 (n_43_134 _) rfl (by decide) (ha3 c7) (fun q30 => ?_)
        refine i_imul r_43_137 (n_43_137 _) ?_
        refine i_iadd r_43_138 (n_43_138 _) ?_
        obtain ⟨g31, h⟩ := h
        refine i_putI (a := a0) (x := (zI s27 a0 6) + ((zI s (a1 + 3) x2) * (zI s27 a3 6))) r_43_139 (n_43_139 _) rfl (.inl rfl) rfl ha0 g31 ?_
        refine i_iconst r_43_142 (n_43_142 _) ?_
        refine i_istore (l' := [(0, rf a0), (1, rf a1), (2, iv x2), (3, rf a3), (4, iv (zI s (a1 + 2) x2)), (5, iv (zI s (a1 + 3) x2)), (6, iv 0)]) r_43_143 (n_43_143 _) (by decide) rfl ?_
        exact wp_pr (l' := [(0, rf a0), (1, rf a1), (2, iv x2), (3, rf a3), (4, iv (zI s (a1 + 2) x2)), (5, iv (zI s (a1 + 3) x2)), (6, iv 0)]) rfl h
      · skip
        exact h.elim
    · replace h := h.2 c26
      refine i_aload_n (a := a0) r_43_93 (n_43_93 _) rfl ?_
      refine i_iload_n (x := x2) r_43_94 (n_43_94 _) rfl ?_
      refine i_iload (x := zI s (a1 + 2) x2) r_43_95 (n_43_95 _) rfl ?_
      refine i_bipush r_43_97 (n_43_97 _) rfl ?_
      refine i_isub r_43_99 (n_43_99 _) ?_
      refine wp_virt (b := a0) (rest := []) (Ls := [(0, rf a0), (1, iv x2), (2, iv ((zI s (a1 + 2) x2) - 20))]) r_43_100 (n_43_100 _) rfl ⟨rfl, rfl, by decide, by decide⟩ rfl rfl ha0 ⟨rfl, Nat.le_of_ble_eq_true rfl, Nat.le_of_ble_eq_true rfl⟩ rfl h ?_
      intro o32 s32 h
      rcases h with ⟨rfl, h⟩ | ⟨e32, rfl, h⟩
      · refine .inl ⟨none, rfl, ?_⟩
        refine i_goto (t := 142) r_43_103 (n_43_103 _) rfl ?_
        refine i_iconst r_43_142 (n_43_142 _) ?_
        refine i_istore (l' := [(0, rf a0), (1, rf a1), (2, iv x2), (3, rf a3), (4, iv (zI s (a1 + 2) x2)), (5, iv (zI s (a1 + 3) x2)), (6, iv 0)]) r_43_143 (n_43_143 _) (by decide) rfl ?_
        exact wp_pr (l' := [(0, rf a0), (1, rf a1), (2, iv x2), (3, rf a3), (4, iv (zI s (a1 + 2) x2)), (5, iv (zI s (a1 + 3) x2)), (6, iv 0)]) rfl h
      · skip
        exact h.elim
  · replace h := h.2 c7
    refine i_iload (x := zI s (a1 + 2) x2) r_43_25 (n_43_25 _) rfl ?_
    refine wp_stat (rest := [iv x2, rf (a0 + 3)]) (Ls := [(0, iv (zI s (a1 + 2) x2))]) r_43_27 (n_43_27 _) rfl ⟨rfl, by decide, by decide, by decide⟩ rfl rfl ⟨rfl, Nat.le_of_ble_eq_true rfl, Nat.le_of_ble_eq_true rfl⟩ rfl (K_RL_bytesOfType q3) ?_
    rintro _ _ ⟨rfl, rfl⟩
    refine .inl ⟨some (iv (zby (zI s (a1 + 2) x2))), rfl, ?_⟩
    show wp S 43 30 [(0, rf a0), (1, rf a1), (2, iv x2), (3, orf a3), (4, iv (zI s (a1 + 2) x2)), (5, iv (zI s (a1 + 3) x2))] [iv (zby (zI s (a1 + 2) x2)), iv x2, rf (a0 + 3)] s Q
    refine i_goto (t := 37) r_43_30 (n_43_30 _) rfl ?_
    obtain ⟨g35, h⟩ := h
    refine i_iastore (a := a0 + 3) (j := x2) (x := zby (zI s (a1 + 2) x2)) r_43_37 (n_43_37 _) t6 ⟨by omega, by omega⟩ (by omega) (by omega) g35 ?_
    refine i_aload_n (a := a0) r_43_38 (n_43_38 _) rfl ?_
    refine i_getR (a := a0) (b := a0 + 4) r_43_39 (n_43_39 _) rfl rfl rfl (by omega) ha0 (by omega) ?_
    have t36 := (t_4_3 ha0)
    refine i_iload_n (x := x2) r_43_42 (n_43_42 _) rfl ?_
    refine i_aloadN_n (a := a3) r_43_43 (n_43_43 _) rfl ?_
    refine i_ifnonnull (t := 56) r_43_44 (n_43_44 _) rfl (fun c37 => ?_) (fun c37 => ?_)
    · replace h := h.1 c37
      rw [show [(0, rf a0), (1, rf a1), (2, iv x2), (3, orf a3), (4, iv (zI s (a1 + 2) x2)), (5, iv (zI s (a1 + 3) x2))] = [(0, rf a0), (1, rf a1), (2, iv x2), (3, rf a3), (4, iv (zI s (a1 + 2) x2)), (5, iv (zI s (a1 + 3) x2))] by rw [orf_pos c37]]
      refine i_aload_n (a := a3) r_43_56 (n_43_56 _) rfl ?_
      refine i_getI (a := a3) r_43_57 (n_43_57 _) rfl (by decide) (ha3 c37) (fun q38 => ?_)
      refine i_aload_n (a := a1) r_43_60 (n_43_60 _) rfl ?_
      refine i_getI (a := a1) r_43_61 (n_43_61 _) rfl (by decide) ha1 (fun q39 => ?_)
      refine wp_stat (rest := [iv x2, rf (a0 + 4)]) (Ls := [(0, iv (zI (zwI s (a0 + 3) x2 (zby (zI s (a1 + 2) x2))) a3 5)), (1, iv (zI (zwI s (a0 + 3) x2 (zby (zI s (a1 + 2) x2))) a1 0))]) r_43_64 (n_43_64 _) rfl ⟨rfl, by decide, by decide, by decide⟩ rfl rfl ⟨rfl, Nat.le_of_ble_eq_true rfl, Nat.le_of_ble_eq_true rfl⟩ rfl (K_Math_min q38 q39) ?_
      rintro _ _ ⟨rfl, rfl⟩
      refine .inl ⟨some (iv (min (zI (zwI s (a0 + 3) x2 (zby (zI s (a1 + 2) x2))) a3 5) (zI (zwI s (a0 + 3) x2 (zby (zI s (a1 + 2) x2))) a1 0))), rfl, ?_⟩
      show wp S 43 67 [(0, rf a0), (1, rf a1), (2, iv x2), (3, rf a3), (4, iv (zI s (a1 + 2) x2)), (5, iv (zI s (a1 + 3) x2))] [iv (min (zI (zwI s (a0 + 3) x2 (zby (zI s (a1 + 2) x2))) a3 5) (zI (zwI s (a0 + 3) x2 (zby (zI s (a1 + 2) x2))) a1 0)), iv x2, rf (a0 + 4)] (zwI s (a0 + 3) x2 (zby (zI s (a1 + 2) x2))) Q
      obtain ⟨g41, h⟩ := h
      refine i_iastore (a := a0 + 4) (j := x2) (x := min (zI (zwI s (a0 + 3) x2 (zby (zI s (a1 + 2) x2))) a3 5) (zI (zwI s (a0 + 3) x2 (zby (zI s (a1 + 2) x2))) a1 0)) r_43_67 (n_43_67 _) t36 ⟨by omega, by omega⟩ (by omega) (by omega) g41 ?_
      refine i_aload_n (a := a0) r_43_68 (n_43_68 _) rfl ?_
      refine i_aload_n (a := a0) r_43_69 (n_43_69 _) rfl ?_
      have e43 : zI (zwI (zwI s (a0 + 3) x2 (zby (zI s (a1 + 2) x2))) (a0 + 4) x2 (min (zI (zwI s (a0 + 3) x2 (zby (zI s (a1 + 2) x2))) a3 5) (zI (zwI s (a0 + 3) x2 (zby (zI s (a1 + 2) x2))) a1 0))) a0 5 = zI s a0 5 := (zI_ne (by omega)).trans (zI_ne (by omega))
      refine i_getIe (a := a0) (x := zI s a0 5) r_43_70 (n_43_70 _) rfl (by decide) ha0 e43 (fun q42 => ?_)
      refine i_aload_n (a := a0) r_43_73 (n_43_73 _) rfl ?_
      refine i_getR (a := a0) (b := a0 + 4) r_43_74 (n_43_74 _) rfl rfl rfl (by omega) ha0 (by omega) ?_
      have t44 := (t_4_3 ha0)
      refine i_iload_n (x := x2) r_43_77 (n_43_77 _) rfl ?_
      refine i_iaload (a := a0 + 4) (j := x2) r_43_78 (n_43_78 _) t44 ⟨by omega, by omega⟩ (by omega) (by omega) (fun q45 => ?_)
      have e46 : zI (zwI (zwI s (a0 + 3) x2 (zby (zI s (a1 + 2) x2))) (a0 + 4) x2 (min (zI (zwI s (a0 + 3) x2 (zby (zI s (a1 + 2) x2))) a3 5) (zI (zwI s (a0 + 3) x2 (zby (zI s (a1 + 2) x2))) a1 0))) (a0 + 4) x2 = min (zI (zwI s (a0 + 3) x2 (zby (zI s (a1 + 2) x2))) a3 5) (zI (zwI s (a0 + 3) x2 (zby (zI s (a1 + 2) x2))) a1 0) := zI_eq
      rw [e46] at q45 ⊢
      refine wp_stat (rest := [rf a0]) (Ls := [(0, iv (zI s a0 5)), (1, iv (min (zI (zwI s (a0 + 3) x2 (zby (zI s (a1 + 2) x2))) a3 5) (zI (zwI s (a0 + 3) x2 (zby (zI s (a1 + 2) x2))) a1 0)))]) r_43_79 (n_43_79 _) rfl ⟨rfl, by decide, by decide, by decide⟩ rfl rfl ⟨rfl, Nat.le_of_ble_eq_true rfl, Nat.le_of_ble_eq_true rfl⟩ rfl (K_Math_max q42 q45) ?_
      rintro _ _ ⟨rfl, rfl⟩
      refine .inl ⟨some (iv (max (zI s a0 5) (min (zI (zwI s (a0 + 3) x2 (zby (zI s (a1 + 2) x2))) a3 5) (zI (zwI s (a0 + 3) x2 (zby (zI s (a1 + 2) x2))) a1 0)))), rfl, ?_⟩
      show wp S 43 82 [(0, rf a0), (1, rf a1), (2, iv x2), (3, rf a3), (4, iv (zI s (a1 + 2) x2)), (5, iv (zI s (a1 + 3) x2))] [iv (max (zI s a0 5) (min (zI (zwI s (a0 + 3) x2 (zby (zI s (a1 + 2) x2))) a3 5) (zI (zwI s (a0 + 3) x2 (zby (zI s (a1 + 2) x2))) a1 0))), rf a0] (zwI (zwI s (a0 + 3) x2 (zby (zI s (a1 + 2) x2))) (a0 + 4) x2 (min (zI (zwI s (a0 + 3) x2 (zby (zI s (a1 + 2) x2))) a3 5) (zI (zwI s (a0 + 3) x2 (zby (zI s (a1 + 2) x2))) a1 0))) Q
      obtain ⟨g48, h⟩ := h
      refine i_putI (a := a0) (x := max (zI s a0 5) (min (zI (zwI s (a0 + 3) x2 (zby (zI s (a1 + 2) x2))) a3 5) (zI (zwI s (a0 + 3) x2 (zby (zI s (a1 + 2) x2))) a1 0))) r_43_82 (n_43_82 _) rfl (.inl rfl) rfl ha0 g48 ?_
      refine i_iload (x := zI s (a1 + 2) x2) r_43_85 (n_43_85 _) rfl ?_
      refine wp_stat (rest := []) (Ls := [(0, iv (zI s (a1 + 2) x2))]) r_43_87 (n_43_87 _) rfl ⟨rfl, by decide, by decide, by decide⟩ rfl rfl ⟨rfl, Nat.le_of_ble_eq_true rfl, Nat.le_of_ble_eq_true rfl⟩ rfl (K_RL_isBits q3) ?_
      rintro _ _ ⟨rfl, rfl⟩
      refine .inl ⟨some (iv (bi (20 < (zI s (a1 + 2) x2) ∧ (zI s (a1 + 2) x2) ≤ 36))), rfl, ?_⟩
      show wp S 43 90 [(0, rf a0), (1, rf a1), (2, iv x2), (3, rf a3), (4, iv (zI s (a1 + 2) x2)), (5, iv (zI s (a1 + 3) x2))] [iv (bi (20 < (zI s (a1 + 2) x2) ∧ (zI s (a1 + 2) x2) ≤ 36))] (zwI (zwI (zwI s (a0 + 3) x2 (zby (zI s (a1 + 2) x2))) (a0 + 4) x2 (min (zI (zwI s (a0 + 3) x2 (zby (zI s (a1 + 2) x2))) a3 5) (zI (zwI s (a0 + 3) x2 (zby (zI s (a1 + 2) x2))) a1 0))) a0 5 (max (zI s a0 5) (min (zI (zwI s (a0 + 3) x2 (zby (zI s (a1 + 2) x2))) a3 5) (zI (zwI s (a0 + 3) x2 (zby (zI s (a1 + 2) x2))) a1 0)))) Q
      refine i_if (t := 106) r_43_90 (n_43_90 _) rfl (TB_eq) (fun c50 => ?_) (fun c50 => ?_)
      · replace h := h.1 c50
        refine i_aload_n (a := a0) r_43_106 (n_43_106 _) rfl ?_
        refine i_iload_n (x := x2) r_43_107 (n_43_107 _) rfl ?_
        refine i_iload (x := zI s (a1 + 3) x2) r_43_108 (n_43_108 _) rfl ?_
        refine wp_virt (b := a0) (rest := []) (Ls := [(0, rf a0), (1, iv x2), (2, iv (zI s (a1 + 3) x2))]) r_43_110 (n_43_110 _) rfl ⟨rfl, rfl, by decide, by decide⟩ rfl rfl ha0 ⟨rfl, Nat.le_of_ble_eq_true rfl, Nat.le_of_ble_eq_true rfl⟩ rfl h ?_
        intro o51 s51 h
        rcases h with ⟨rfl, h⟩ | ⟨e51, rfl, h⟩
        · refine .inl ⟨none, rfl, ?_⟩
          refine i_aload_n (a := a0) r_43_113 (n_43_113 _) rfl ?_
          refine i_dup r_43_114 (n_43_114 _) rfl ?_
          refine i_getI (a := a0) r_43_115 (n_43_115 _) rfl (by decide) ha0 (fun q53 => ?_)
          refine i_iload (x := zI s (a1 + 3) x2) r_43_118 (n_43_118 _) rfl ?_
          refine i_aload_n (a := a3) r_43_120 (n_43_120 _) rfl ?_
          refine i_ifnonnullA (t := 133) (a := a3) r_43_121 (n_43_121 _) rfl (ha3 c37).1 ?_
          refine i_aload_n (a := a3) r_43_133 (n_43_133 _) rfl ?_
          refine i_getI (a := a3) r_43_134 (n_43_134 _) rfl (by decide) (ha3 c37) (fun q54 => ?_)
          refine i_imul r_43_137 (n_43_137 _) ?_
          refine i_iadd r_43_138 (n_43_138 _) ?_
          obtain ⟨g55, h⟩ := h
          refine i_putI (a := a0) (x := (zI s51 a0 6) + ((zI s (a1 + 3) x2) * (zI s51 a3 6))) r_43_139 (n_43_139 _) rfl (.inl rfl) rfl ha0 g55 ?_
          refine i_iconst r_43_142 (n_43_142 _) ?_
          refine i_istore (l' := [(0, rf a0), (1, rf a1), (2, iv x2), (3, rf a3), (4, iv (zI s (a1 + 2) x2)), (5, iv (zI s (a1 + 3) x2)), (6, iv 0)]) r_43_143 (n_43_143 _) (by decide) rfl ?_
          exact wp_pr (l' := [(0, rf a0), (1, rf a1), (2, iv x2), (3, rf a3), (4, iv (zI s (a1 + 2) x2)), (5, iv (zI s (a1 + 3) x2)), (6, iv 0)]) rfl h
        · skip
          exact h.elim
      · replace h := h.2 c50
        refine i_aload_n (a := a0) r_43_93 (n_43_93 _) rfl ?_
        refine i_iload_n (x := x2) r_43_94 (n_43_94 _) rfl ?_
        refine i_iload (x := zI s (a1 + 2) x2) r_43_95 (n_43_95 _) rfl ?_
        refine i_bipush r_43_97 (n_43_97 _) rfl ?_
        refine i_isub r_43_99 (n_43_99 _) ?_
        refine wp_virt (b := a0) (rest := []) (Ls := [(0, rf a0), (1, iv x2), (2, iv ((zI s (a1 + 2) x2) - 20))]) r_43_100 (n_43_100 _) rfl ⟨rfl, rfl, by decide, by decide⟩ rfl rfl ha0 ⟨rfl, Nat.le_of_ble_eq_true rfl, Nat.le_of_ble_eq_true rfl⟩ rfl h ?_
        intro o56 s56 h
        rcases h with ⟨rfl, h⟩ | ⟨e56, rfl, h⟩
        · refine .inl ⟨none, rfl, ?_⟩
          refine i_goto (t := 142) r_43_103 (n_43_103 _) rfl ?_
          refine i_iconst r_43_142 (n_43_142 _) ?_
          refine i_istore (l' := [(0, rf a0), (1, rf a1), (2, iv x2), (3, rf a3), (4, iv (zI s (a1 + 2) x2)), (5, iv (zI s (a1 + 3) x2)), (6, iv 0)]) r_43_143 (n_43_143 _) (by decide) rfl ?_
          exact wp_pr (l' := [(0, rf a0), (1, rf a1), (2, iv x2), (3, rf a3), (4, iv (zI s (a1 + 2) x2)), (5, iv (zI s (a1 + 3) x2)), (6, iv 0)]) rfl h
        · skip
          exact h.elim
    · replace h := h.2 c37
      refine i_aload_n (a := a0) r_43_47 (n_43_47 _) rfl ?_
      refine i_getR (a := a0) (b := a0 + 3) r_43_48 (n_43_48 _) rfl rfl rfl (by omega) ha0 (by omega) ?_
      have t58 := (t_4_2 ha0)
      refine i_iload_n (x := x2) r_43_51 (n_43_51 _) rfl ?_
      refine i_iaload (a := a0 + 3) (j := x2) r_43_52 (n_43_52 _) t58 ⟨by omega, by omega⟩ (by omega) (by omega) (fun q59 => ?_)
      have e60 : zI (zwI s (a0 + 3) x2 (zby (zI s (a1 + 2) x2))) (a0 + 3) x2 = zby (zI s (a1 + 2) x2) := zI_eq
      rw [e60] at q59 ⊢
      refine i_goto (t := 60) r_43_53 (n_43_53 _) rfl ?_
      refine i_aload_n (a := a1) r_43_60 (n_43_60 _) rfl ?_
      refine i_getI (a := a1) r_43_61 (n_43_61 _) rfl (by decide) ha1 (fun q61 => ?_)
      refine wp_stat (rest := [iv x2, rf (a0 + 4)]) (Ls := [(0, iv (zby (zI s (a1 + 2) x2))), (1, iv (zI (zwI s (a0 + 3) x2 (zby (zI s (a1 + 2) x2))) a1 0))]) r_43_64 (n_43_64 _) rfl ⟨rfl, by decide, by decide, by decide⟩ rfl rfl ⟨rfl, Nat.le_of_ble_eq_true rfl, Nat.le_of_ble_eq_true rfl⟩ rfl (K_Math_min q59 q61) ?_
      rintro _ _ ⟨rfl, rfl⟩
      refine .inl ⟨some (iv (min (zby (zI s (a1 + 2) x2)) (zI (zwI s (a0 + 3) x2 (zby (zI s (a1 + 2) x2))) a1 0))), rfl, ?_⟩
      show wp S 43 67 [(0, rf a0), (1, rf a1), (2, iv x2), (3, orf a3), (4, iv (zI s (a1 + 2) x2)), (5, iv (zI s (a1 + 3) x2))] [iv (min (zby (zI s (a1 + 2) x2)) (zI (zwI s (a0 + 3) x2 (zby (zI s (a1 + 2) x2))) a1 0)), iv x2, rf (a0 + 4)] (zwI s (a0 + 3) x2 (zby (zI s (a1 + 2) x2))) Q
      obtain ⟨g63, h⟩ := h
      refine i_iastore (a := a0 + 4) (j := x2) (x := min (zby (zI s (a1 + 2) x2)) (zI (zwI s (a0 + 3) x2 (zby (zI s (a1 + 2) x2))) a1 0)) r_43_67 (n_43_67 _) t36 ⟨by omega, by omega⟩ (by omega) (by omega) g63 ?_
      refine i_aload_n (a := a0) r_43_68 (n_43_68 _) rfl ?_
      refine i_aload_n (a := a0) r_43_69 (n_43_69 _) rfl ?_
      have e65 : zI (zwI (zwI s (a0 + 3) x2 (zby (zI s (a1 + 2) x2))) (a0 + 4) x2 (min (zby (zI s (a1 + 2) x2)) (zI (zwI s (a0 + 3) x2 (zby (zI s (a1 + 2) x2))) a1 0))) a0 5 = zI s a0 5 := (zI_ne (by omega)).trans (zI_ne (by omega))
      refine i_getIe (a := a0) (x := zI s a0 5) r_43_70 (n_43_70 _) rfl (by decide) ha0 e65 (fun q64 => ?_)
      refine i_aload_n (a := a0) r_43_73 (n_43_73 _) rfl ?_
      refine i_getR (a := a0) (b := a0 + 4) r_43_74 (n_43_74 _) rfl rfl rfl (by omega) ha0 (by omega) ?_
      have t66 := (t_4_3 ha0)
      refine i_iload_n (x := x2) r_43_77 (n_43_77 _) rfl ?_
      refine i_iaload (a := a0 + 4) (j := x2) r_43_78 (n_43_78 _) t66 ⟨by omega, by omega⟩ (by omega) (by omega) (fun q67 => ?_)
      have e68 : zI (zwI (zwI s (a0 + 3) x2 (zby (zI s (a1 + 2) x2))) (a0 + 4) x2 (min (zby (zI s (a1 + 2) x2)) (zI (zwI s (a0 + 3) x2 (zby (zI s (a1 + 2) x2))) a1 0))) (a0 + 4) x2 = min (zby (zI s (a1 + 2) x2)) (zI (zwI s (a0 + 3) x2 (zby (zI s (a1 + 2) x2))) a1 0) := zI_eq
      rw [e68] at q67 ⊢
      refine wp_stat (rest := [rf a0]) (Ls := [(0, iv (zI s a0 5)), (1, iv (min (zby (zI s (a1 + 2) x2)) (zI (zwI s (a0 + 3) x2 (zby (zI s (a1 + 2) x2))) a1 0)))]) r_43_79 (n_43_79 _) rfl ⟨rfl, by decide, by decide, by decide⟩ rfl rfl ⟨rfl, Nat.le_of_ble_eq_true rfl, Nat.le_of_ble_eq_true rfl⟩ rfl (K_Math_max q64 q67) ?_
      rintro _ _ ⟨rfl, rfl⟩
      refine .inl ⟨some (iv (max (zI s a0 5) (min (zby (zI s (a1 + 2) x2)) (zI (zwI s (a0 + 3) x2 (zby (zI s (a1 + 2) x2))) a1 0)))), rfl, ?_⟩
      show wp S 43 82 [(0, rf a0), (1, rf a1), (2, iv x2), (3, orf a3), (4, iv (zI s (a1 + 2) x2)), (5, iv (zI s (a1 + 3) x2))] [iv (max (zI s a0 5) (min (zby (zI s (a1 + 2) x2)) (zI (zwI s (a0 + 3) x2 (zby (zI s (a1 + 2) x2))) a1 0))), rf a0] (zwI (zwI s (a0 + 3) x2 (zby (zI s (a1 + 2) x2))) (a0 + 4) x2 (min (zby (zI s (a1 + 2) x2)) (zI (zwI s (a0 + 3) x2 (zby (zI s (a1 + 2) x2))) a1 0))) Q
      obtain ⟨g70, h⟩ := h
      refine i_putI (a := a0) (x := max (zI s a0 5) (min (zby (zI s (a1 + 2) x2)) (zI (zwI s (a0 + 3) x2 (zby (zI s (a1 + 2) x2))) a1 0))) r_43_82 (n_43_82 _) rfl (.inl rfl) rfl ha0 g70 ?_
      refine i_iload (x := zI s (a1 + 2) x2) r_43_85 (n_43_85 _) rfl ?_
      refine wp_stat (rest := []) (Ls := [(0, iv (zI s (a1 + 2) x2))]) r_43_87 (n_43_87 _) rfl ⟨rfl, by decide, by decide, by decide⟩ rfl rfl ⟨rfl, Nat.le_of_ble_eq_true rfl, Nat.le_of_ble_eq_true rfl⟩ rfl (K_RL_isBits q3) ?_
      rintro _ _ ⟨rfl, rfl⟩
      refine .inl ⟨some (iv (bi (20 < (zI s (a1 + 2) x2) ∧ (zI s (a1 + 2) x2) ≤ 36))), rfl, ?_⟩
      show wp S 43 90 [(0, rf a0), (1, rf a1), (2, iv x2), (3, orf a3), (4, iv (zI s (a1 + 2) x2)), (5, iv (zI s (a1 + 3) x2))] [iv (bi (20 < (zI s (a1 + 2) x2) ∧ (zI s (a1 + 2) x2) ≤ 36))] (zwI (zwI (zwI s (a0 + 3) x2 (zby (zI s (a1 + 2) x2))) (a0 + 4) x2 (min (zby (zI s (a1 + 2) x2)) (zI (zwI s (a0 + 3) x2 (zby (zI s (a1 + 2) x2))) a1 0))) a0 5 (max (zI s a0 5) (min (zby (zI s (a1 + 2) x2)) (zI (zwI s (a0 + 3) x2 (zby (zI s (a1 + 2) x2))) a1 0)))) Q
      refine i_if (t := 106) r_43_90 (n_43_90 _) rfl (TB_eq) (fun c72 => ?_) (fun c72 => ?_)
      · replace h := h.1 c72
        refine i_aload_n (a := a0) r_43_106 (n_43_106 _) rfl ?_
        refine i_iload_n (x := x2) r_43_107 (n_43_107 _) rfl ?_
        refine i_iload (x := zI s (a1 + 3) x2) r_43_108 (n_43_108 _) rfl ?_
        refine wp_virt (b := a0) (rest := []) (Ls := [(0, rf a0), (1, iv x2), (2, iv (zI s (a1 + 3) x2))]) r_43_110 (n_43_110 _) rfl ⟨rfl, rfl, by decide, by decide⟩ rfl rfl ha0 ⟨rfl, Nat.le_of_ble_eq_true rfl, Nat.le_of_ble_eq_true rfl⟩ rfl h ?_
        intro o73 s73 h
        rcases h with ⟨rfl, h⟩ | ⟨e73, rfl, h⟩
        · refine .inl ⟨none, rfl, ?_⟩
          refine i_aload_n (a := a0) r_43_113 (n_43_113 _) rfl ?_
          refine i_dup r_43_114 (n_43_114 _) rfl ?_
          refine i_getI (a := a0) r_43_115 (n_43_115 _) rfl (by decide) ha0 (fun q75 => ?_)
          refine i_iload (x := zI s (a1 + 3) x2) r_43_118 (n_43_118 _) rfl ?_
          refine i_aloadN_n (a := a3) r_43_120 (n_43_120 _) rfl ?_
          refine i_ifnonnull (t := 133) r_43_121 (n_43_121 _) rfl (fun c76 => ?_) (fun c76 => ?_)
          · replace h := h.1 c76
            rw [show [(0, rf a0), (1, rf a1), (2, iv x2), (3, orf a3), (4, iv (zI s (a1 + 2) x2)), (5, iv (zI s (a1 + 3) x2))] = [(0, rf a0), (1, rf a1), (2, iv x2), (3, rf a3), (4, iv (zI s (a1 + 2) x2)), (5, iv (zI s (a1 + 3) x2))] by rw [orf_pos c76]]
            refine i_aload_n (a := a3) r_43_133 (n_43_133 _) rfl ?_
            refine i_getI (a := a3) r_43_134 (n_43_134 _) rfl (by decide) (ha3 c76) (fun q77 => ?_)
            refine i_imul r_43_137 (n_43_137 _) ?_
            refine i_iadd r_43_138 (n_43_138 _) ?_
            obtain ⟨g78, h⟩ := h
            refine i_putI (a := a0) (x := (zI s73 a0 6) + ((zI s (a1 + 3) x2) * (zI s73 a3 6))) r_43_139 (n_43_139 _) rfl (.inl rfl) rfl ha0 g78 ?_
            refine i_iconst r_43_142 (n_43_142 _) ?_
            refine i_istore (l' := [(0, rf a0), (1, rf a1), (2, iv x2), (3, rf a3), (4, iv (zI s (a1 + 2) x2)), (5, iv (zI s (a1 + 3) x2)), (6, iv 0)]) r_43_143 (n_43_143 _) (by decide) rfl ?_
            exact wp_pr (l' := [(0, rf a0), (1, rf a1), (2, iv x2), (3, rf a3), (4, iv (zI s (a1 + 2) x2)), (5, iv (zI s (a1 + 3) x2)), (6, iv 0)]) rfl h
          · replace h := h.2 c76
            refine i_aload_n (a := a0) r_43_124 (n_43_124 _) rfl ?_
            refine i_getR (a := a0) (b := a0 + 3) r_43_125 (n_43_125 _) rfl rfl rfl (by omega) ha0 (by omega) ?_
            have t79 := (t_4_2 ha0)
            refine i_iload_n (x := x2) r_43_128 (n_43_128 _) rfl ?_
            refine i_iaload (a := a0 + 3) (j := x2) r_43_129 (n_43_129 _) t79 ⟨by omega, by omega⟩ (by omega) (by omega) (fun q80 => ?_)
            refine i_goto (t := 137) r_43_130 (n_43_130 _) rfl ?_
            refine i_imul r_43_137 (n_43_137 _) ?_
            refine i_iadd r_43_138 (n_43_138 _) ?_
            obtain ⟨g81, h⟩ := h
            refine i_putI (a := a0) (x := (zI s73 a0 6) + ((zI s (a1 + 3) x2) * (zI s73 (a0 + 3) x2))) r_43_139 (n_43_139 _) rfl (.inl rfl) rfl ha0 g81 ?_
            refine i_iconst r_43_142 (n_43_142 _) ?_
            refine i_istore (l' := [(0, rf a0), (1, rf a1), (2, iv x2), (3, orf a3), (4, iv (zI s (a1 + 2) x2)), (5, iv (zI s (a1 + 3) x2)), (6, iv 0)]) r_43_143 (n_43_143 _) (by decide) rfl ?_
            exact wp_pr (l' := [(0, rf a0), (1, rf a1), (2, iv x2), (3, orf a3), (4, iv (zI s (a1 + 2) x2)), (5, iv (zI s (a1 + 3) x2)), (6, iv 0)]) rfl h
        · skip
          exact h.elim
      · replace h := h.2 c72
        refine i_aload_n (a := a0) r_43_93 (n_43_93 _) rfl ?_
        refine i_iload_n (x := x2) r_43_94 (n_43_94 _) rfl ?_
        refine i_iload (x := zI s (a1 + 2) x2) r_43_95 (n_43_95 _) rfl ?_
        refine i_bipush r_43_97 (n_43_97 _) rfl ?_
        refine i_isub r_43_99 (n_43_99 _) ?_
        refine wp_virt (b := a0) (rest := []) (Ls := [(0, rf a0), (1, iv x2), (2, iv ((zI s (a1 + 2) x2) - 20))]) r_43_100 (n_43_100 _) rfl ⟨rfl, rfl, by decide, by decide⟩ rfl rfl ha0 ⟨rfl, Nat.le_of_ble_eq_true rfl, Nat.le_of_ble_eq_true rfl⟩ rfl h ?_
        intro o82 s82 h
        rcases h with ⟨rfl, h⟩ | ⟨e82, rfl, h⟩
        · refine .inl ⟨none, rfl, ?_⟩
          refine i_goto (t := 142) r_43_103 (n_43_103 _) rfl ?_
          refine i_iconst r_43_142 (n_43_142 _) ?_
          refine i_istore (l' := [(0, rf a0), (1, rf a1), (2, iv x2), (3, orf a3), (4, iv (zI s (a1 + 2) x2)), (5, iv (zI s (a1 + 3) x2)), (6, iv 0)]) r_43_143 (n_43_143 _) (by decide) rfl ?_
          exact wp_pr (l' := [(0, rf a0), (1, rf a1), (2, iv x2), (3, orf a3), (4, iv (zI s (a1 + 2) x2)), (5, iv (zI s (a1 + 3) x2)), (6, iv 0)]) rfl h
        · skip
          exact h.elim
theorem v_Shape_place_145 {S : Option (Nat × (Nat → Int32))} {s : zSt} {Q : Option Value ⊕ Nat → zSt → Prop} {a0 : Int} {a1 : Int} {x2 : Int} {a3 : Int} {x4 : Int} {x5 : Int} {x6 : Int} (ha0 : isO a0 4) (ha1 : isO a1 1) (ha3 : 0 ≤ a3 → isO a3 4)
    (h : rng x6 ∧ (rng x5 ∧ ((x5 ≤ x6 → Q rU s) ∧ (x6 < x5 → (0 ≤ a3 → wp S 51 0 [(0, rf a0), (1, rf a1), (2, iv x2), (3, iv x6), (4, rf (a3 + 5))] [] s (fun o6 s6 => zkU (wp S 43 145 [(0, rf a0), (1, rf a1), (2, iv x2), (3, rf a3), (4, iv x4), (5, iv x5), (6, iv (x6 + 1))] [] s6 Q) (fun e6 => False) o6)) ∧ (a3 < 0 → (0 ≤ x2 ∧ x2 < 8) ∧ (wp S 50 0 [(0, rf (a0 + 5)), (1, iv x4), (2, iv ((zI s (a0 + 1) x2) + (x6 * (zI s (a0 + 3) x2)))), (3, iv (zI s (a0 + 2) x2)), (4, iv x2), (5, .long (zpo (zI s (a1 + 1) x2) x6 x5 0))] [] s (fun o19 s19 => zkU (wp S 43 145 [(0, rf a0), (1, rf a1), (2, iv x2), (3, orf a3), (4, iv x4), (5, iv x5), (6, iv (x6 + 1))] [] s19 Q) (fun e19 => False) o19))))))) :
    wp S 43 145 [(0, rf a0), (1, rf a1), (2, iv x2), (3, orf a3), (4, iv x4), (5, iv x5), (6, iv x6)] [] s Q := by
  refine i_iload (x := x6) r_43_145 rfl rfl ?_
  refine i_iload (x := x5) r_43_147 (n_43_147 _) rfl ?_
  obtain ⟨g1, h⟩ := h
  obtain ⟨g2, h⟩ := h
  refine i_icmp (t := 223) r_43_149 (n_43_149 _) rfl (T_ge g1 g2) (fun c3 => ?_) (fun c3 => ?_)
  · replace h := h.1 c3
    exact i_return r_43_223 (n_43_223 _) rfl h
  · replace h := h.2 c3
    refine i_aloadN_n (a := a3) r_43_152 (n_43_152 _) rfl ?_
    refine i_ifnonnull (t := 205) r_43_153 (n_43_153 _) rfl (fun c4 => ?_) (fun c4 => ?_)
    · replace h := h.1 c4
      rw [show [(0, rf a0), (1, rf a1), (2, iv x2), (3, orf a3), (4, iv x4), (5, iv x5), (6, iv x6)] = [(0, rf a0), (1, rf a1), (2, iv x2), (3, rf a3), (4, iv x4), (5, iv x5), (6, iv x6)] by rw [orf_pos c4]]
      refine i_aload_n (a := a0) r_43_205 (n_43_205 _) rfl ?_
      refine i_aload_n (a := a1) r_43_206 (n_43_206 _) rfl ?_
      refine i_iload_n (x := x2) r_43_207 (n_43_207 _) rfl ?_
      refine i_iload (x := x6) r_43_208 (n_43_208 _) rfl ?_
      refine i_aload_n (a := a3) r_43_210 (n_43_210 _) rfl ?_
      refine i_getR (a := a3) (b := a3 + 5) r_43_211 (n_43_211 _) rfl rfl rfl (by omega) (ha3 c4) (by omega) ?_
      have t5 := (t_4_4 (ha3 c4))
      refine wp_virt (b := a0) (rest := []) (Ls := [(0, rf a0), (1, rf a1), (2, iv x2), (3, iv x6), (4, rf (a3 + 5))]) r_43_214 (n_43_214 _) rfl ⟨rfl, rfl, by decide, by decide⟩ rfl rfl ha0 ⟨rfl, Nat.le_of_ble_eq_true rfl, Nat.le_of_ble_eq_true rfl⟩ rfl h ?_
      intro o6 s6 h
      rcases h with ⟨rfl, h⟩ | ⟨e6, rfl, h⟩
      · refine .inl ⟨none, rfl, ?_⟩
        refine i_iinc (x := x6) (l' := [(0, rf a0), (1, rf a1), (2, iv x2), (3, rf a3), (4, iv x4), (5, iv x5), (6, iv (x6 + 1))]) r_43_217 (n_43_217 _) (by decide) rfl rfl ?_
        refine i_goto (t := 145) r_43_220 (n_43_220 _) rfl ?_
        exact wp_pr (l' := [(0, rf a0), (1, rf a1), (2, iv x2), (3, rf a3), (4, iv x4), (5, iv x5), (6, iv (x6 + 1))]) rfl h
      · skip
        exact h.elim
    · replace h := h.2 c4
      refine i_aload_n (a := a0) r_43_156 (n_43_156 _) rfl ?_
      refine i_getR (a := a0) (b := a0 + 5) r_43_157 (n_43_157 _) rfl rfl rfl (by omega) ha0 (by omega) ?_
      have t8 := (t_4_4 ha0)
      refine i_iload (x := x4) r_43_160 (n_43_160 _) rfl ?_
      refine i_aload_n (a := a0) r_43_162 (n_43_162 _) rfl ?_
      refine i_getR (a := a0) (b := a0 + 1) r_43_163 (n_43_163 _) rfl rfl rfl (by omega) ha0 (by omega) ?_
      have t9 := (t_4_0 ha0)
      refine i_iload_n (x := x2) r_43_166 (n_43_166 _) rfl ?_
      obtain ⟨g10, h⟩ := h
      refine i_iaload (a := a0 + 1) (j := x2) r_43_167 (n_43_167 _) t9 ⟨by omega, by omega⟩ (by omega) (by omega) (fun q11 => ?_)
      refine i_iload (x := x6) r_43_168 (n_43_168 _) rfl ?_
      refine i_aload_n (a := a0) r_43_170 (n_43_170 _) rfl ?_
      refine i_getR (a := a0) (b := a0 + 3) r_43_171 (n_43_171 _) rfl rfl rfl (by omega) ha0 (by omega) ?_
      have t12 := (t_4_2 ha0)
      refine i_iload_n (x := x2) r_43_174 (n_43_174 _) rfl ?_
      refine i_iaload (a := a0 + 3) (j := x2) r_43_175 (n_43_175 _) t12 ⟨by omega, by omega⟩ (by omega) (by omega) (fun q13 => ?_)
      refine i_imul r_43_176 (n_43_176 _) ?_
      refine i_iadd r_43_177 (n_43_177 _) ?_
      refine i_aload_n (a := a0) r_43_178 (n_43_178 _) rfl ?_
      refine i_getR (a := a0) (b := a0 + 2) r_43_179 (n_43_179 _) rfl rfl rfl (by omega) ha0 (by omega) ?_
      have t14 := (t_4_1 ha0)
      refine i_iload_n (x := x2) r_43_182 (n_43_182 _) rfl ?_
      refine i_iaload (a := a0 + 2) (j := x2) r_43_183 (n_43_183 _) t14 ⟨by omega, by omega⟩ (by omega) (by omega) (fun q15 => ?_)
      refine i_iload_n (x := x2) r_43_184 (n_43_184 _) rfl ?_
      refine i_aload_n (a := a1) r_43_185 (n_43_185 _) rfl ?_
      refine i_getR (a := a1) (b := a1 + 1) r_43_186 (n_43_186 _) rfl rfl rfl (by omega) ha1 (by omega) ?_
      have t16 := (t_1_2 ha1)
      refine i_iload_n (x := x2) r_43_189 (n_43_189 _) rfl ?_
      refine i_iaload (a := a1 + 1) (j := x2) r_43_190 (n_43_190 _) t16 ⟨by omega, by omega⟩ (by omega) (by omega) (fun q17 => ?_)
      refine i_iload (x := x6) r_43_191 (n_43_191 _) rfl ?_
      refine i_iload (x := x5) r_43_193 (n_43_193 _) rfl ?_
      refine i_lconst r_43_195 (n_43_195 _) ?_
      refine wp_stat (rest := [iv x2, iv (zI s (a0 + 2) x2), iv ((zI s (a0 + 1) x2) + (x6 * (zI s (a0 + 3) x2))), iv x4, rf (a0 + 5)]) (Ls := [(0, iv (zI s (a1 + 1) x2)), (1, iv x6), (2, iv x5), (3, .long 0)]) r_43_196 (n_43_196 _) rfl ⟨rfl, by decide, by decide, by decide⟩ rfl rfl ⟨rfl, Nat.le_of_ble_eq_true rfl, Nat.le_of_ble_eq_true rfl⟩ rfl (K_RL_pathOf g2) ?_
      rintro _ _ ⟨rfl, rfl⟩
      refine .inl ⟨some (.long (zpo (zI s (a1 + 1) x2) x6 x5 0)), rfl, ?_⟩
      show wp S 43 199 [(0, rf a0), (1, rf a1), (2, iv x2), (3, orf a3), (4, iv x4), (5, iv x5), (6, iv x6)] [.long (zpo (zI s (a1 + 1) x2) x6 x5 0), iv x2, iv (zI s (a0 + 2) x2), iv ((zI s (a0 + 1) x2) + (x6 * (zI s (a0 + 3) x2))), iv x4, rf (a0 + 5)] s Q
      refine wp_virt (b := a0 + 5) (rest := []) (Ls := [(0, rf (a0 + 5)), (1, iv x4), (2, iv ((zI s (a0 + 1) x2) + (x6 * (zI s (a0 + 3) x2)))), (3, iv (zI s (a0 + 2) x2)), (4, iv x2), (5, .long (zpo (zI s (a1 + 1) x2) x6 x5 0))]) r_43_199 (n_43_199 _) rfl ⟨rfl, rfl, by decide, by decide⟩ rfl rfl t8 ⟨rfl, Nat.le_of_ble_eq_true rfl, Nat.le_of_ble_eq_true rfl⟩ rfl h ?_
      intro o19 s19 h
      rcases h with ⟨rfl, h⟩ | ⟨e19, rfl, h⟩
      · refine .inl ⟨none, rfl, ?_⟩
        refine i_goto (t := 217) r_43_202 (n_43_202 _) rfl ?_
        refine i_iinc (x := x6) (l' := [(0, rf a0), (1, rf a1), (2, iv x2), (3, orf a3), (4, iv x4), (5, iv x5), (6, iv (x6 + 1))]) r_43_217 (n_43_217 _) (by decide) rfl rfl ?_
        refine i_goto (t := 145) r_43_220 (n_43_220 _) rfl ?_
        exact wp_pr (l' := [(0, rf a0), (1, rf a1), (2, iv x2), (3, orf a3), (4, iv x4), (5, iv x5), (6, iv (x6 + 1))]) rfl h
      · skip
        exact h.elim
theorem r_47_0 : xfetch 47 0 = some (.aload_n 0, 1) := by decide +kernel
theorem n_47_0 : ∀ l, xpr 47 0 l = l := xpr_no (by decide +kernel)
theorem r_47_1 : xfetch 47 1 = some (.getfield 44, 3) := by decide +kernel
theorem n_47_1 : ∀ l, xpr 47 1 l = l := xpr_no (by decide +kernel)
theorem r_47_4 : xfetch 47 4 = some (.iload_n 2, 1) := by decide +kernel
theorem n_47_4 : ∀ l, xpr 47 4 l = l := xpr_no (by decide +kernel)
theorem r_47_5 : xfetch 47 5 = some (.if_icmp .ge 38, 3) := by decide +kernel
theorem n_47_5 : ∀ l, xpr 47 5 l = l := xpr_no (by decide +kernel)
theorem r_47_8 : xfetch 47 8 = some (.aload_n 0, 1) := by decide +kernel
theorem n_47_8 : ∀ l, xpr 47 8 l = l := xpr_no (by decide +kernel)
theorem r_47_9 : xfetch 47 9 = some (.aload_n 0, 1) := by decide +kernel
theorem n_47_9 : ∀ l, xpr 47 9 l = l := xpr_no (by decide +kernel)
theorem r_47_10 : xfetch 47 10 = some (.getfield 41, 3) := by decide +kernel
theorem n_47_10 : ∀ l, xpr 47 10 l = l := xpr_no (by decide +kernel)
theorem r_47_13 : xfetch 47 13 = some (.aload_n 0, 1) := by decide +kernel
theorem n_47_13 : ∀ l, xpr 47 13 l = l := xpr_no (by decide +kernel)
theorem r_47_14 : xfetch 47 14 = some (.getfield 21, 3) := by decide +kernel
theorem n_47_14 : ∀ l, xpr 47 14 l = l := xpr_no (by decide +kernel)
theorem r_47_17 : xfetch 47 17 = some (.iload_n 1, 1) := by decide +kernel
theorem n_47_17 : ∀ l, xpr 47 17 l = l := xpr_no (by decide +kernel)
theorem r_47_18 : xfetch 47 18 = some (.iaload, 1) := by decide +kernel
theorem n_47_18 : ∀ l, xpr 47 18 l = l := xpr_no (by decide +kernel)
theorem r_47_19 : xfetch 47 19 = some (.invokestatic 47, 3) := by decide +kernel
theorem n_47_19 : ∀ l, xpr 47 19 l = l := xpr_no (by decide +kernel)
theorem r_47_22 : xfetch 47 22 = some (.iconst 2, 1) := by decide +kernel
theorem n_47_22 : ∀ l, xpr 47 22 l = l := xpr_no (by decide +kernel)
theorem r_47_23 : xfetch 47 23 = some (.iadd, 1) := by decide +kernel
theorem n_47_23 : ∀ l, xpr 47 23 l = l := xpr_no (by decide +kernel)
theorem r_47_24 : xfetch 47 24 = some (.putfield 41, 3) := by decide +kernel
theorem n_47_24 : ∀ l, xpr 47 24 l = l := xpr_no (by decide +kernel)
theorem r_47_27 : xfetch 47 27 = some (.aload_n 0, 1) := by decide +kernel
theorem n_47_27 : ∀ l, xpr 47 27 l = l := xpr_no (by decide +kernel)
theorem r_47_28 : xfetch 47 28 = some (.bipush 16, 2) := by decide +kernel
theorem n_47_28 : ∀ l, xpr 47 28 l = l := xpr_no (by decide +kernel)
theorem r_47_30 : xfetch 47 30 = some (.putfield 44, 3) := by decide +kernel
theorem n_47_30 : ∀ l, xpr 47 30 l = l := xpr_no (by decide +kernel)
theorem r_47_33 : xfetch 47 33 = some (.aload_n 0, 1) := by decide +kernel
theorem n_47_33 : ∀ l, xpr 47 33 l = l := xpr_no (by decide +kernel)
theorem r_47_34 : xfetch 47 34 = some (.dup, 1) := by decide +kernel
theorem n_47_34 : ∀ l, xpr 47 34 l = l := xpr_no (by decide +kernel)
theorem r_47_35 : xfetch 47 35 = some (.getfield 38, 3) := by decide +kernel
theorem n_47_35 : ∀ l, xpr 47 35 l = l := xpr_no (by decide +kernel)
theorem r_47_38 : xfetch 47 38 = some (.iconst 2, 1) := by decide +kernel
theorem n_47_38 : ∀ l, xpr 47 38 l = l := xpr_no (by decide +kernel)
theorem r_47_39 : xfetch 47 39 = some (.iadd, 1) := by decide +kernel
theorem n_47_39 : ∀ l, xpr 47 39 l = l := xpr_no (by decide +kernel)
theorem r_47_40 : xfetch 47 40 = some (.putfield 38, 3) := by decide +kernel
theorem n_47_40 : ∀ l, xpr 47 40 l = l := xpr_no (by decide +kernel)
theorem r_47_43 : xfetch 47 43 = some (.aload_n 0, 1) := by decide +kernel
theorem n_47_43 : ∀ l, xpr 47 43 l = l := xpr_no (by decide +kernel)
theorem r_47_44 : xfetch 47 44 = some (.getfield 9, 3) := by decide +kernel
theorem n_47_44 : ∀ l, xpr 47 44 l = l := xpr_no (by decide +kernel)
theorem r_47_47 : xfetch 47 47 = some (.iload_n 1, 1) := by decide +kernel
theorem n_47_47 : ∀ l, xpr 47 47 l = l := xpr_no (by decide +kernel)
theorem r_47_48 : xfetch 47 48 = some (.aload_n 0, 1) := by decide +kernel
theorem n_47_48 : ∀ l, xpr 47 48 l = l := xpr_no (by decide +kernel)
theorem r_47_49 : xfetch 47 49 = some (.getfield 41, 3) := by decide +kernel
theorem n_47_49 : ∀ l, xpr 47 49 l = l := xpr_no (by decide +kernel)
theorem r_47_52 : xfetch 47 52 = some (.iconst 2, 1) := by decide +kernel
theorem n_47_52 : ∀ l, xpr 47 52 l = l := xpr_no (by decide +kernel)
theorem r_47_53 : xfetch 47 53 = some (.isub, 1) := by decide +kernel
theorem n_47_53 : ∀ l, xpr 47 53 l = l := xpr_no (by decide +kernel)
theorem r_47_54 : xfetch 47 54 = some (.iastore, 1) := by decide +kernel
theorem n_47_54 : ∀ l, xpr 47 54 l = l := xpr_no (by decide +kernel)
theorem r_47_55 : xfetch 47 55 = some (.aload_n 0, 1) := by decide +kernel
theorem n_47_55 : ∀ l, xpr 47 55 l = l := xpr_no (by decide +kernel)
theorem r_47_56 : xfetch 47 56 = some (.getfield 15, 3) := by decide +kernel
theorem n_47_56 : ∀ l, xpr 47 56 l = l := xpr_no (by decide +kernel)
theorem r_47_59 : xfetch 47 59 = some (.iload_n 1, 1) := by decide +kernel
theorem n_47_59 : ∀ l, xpr 47 59 l = l := xpr_no (by decide +kernel)
theorem r_47_60 : xfetch 47 60 = some (.bipush 16, 2) := by decide +kernel
theorem n_47_60 : ∀ l, xpr 47 60 l = l := xpr_no (by decide +kernel)
theorem r_47_62 : xfetch 47 62 = some (.aload_n 0, 1) := by decide +kernel
theorem n_47_62 : ∀ l, xpr 47 62 l = l := xpr_no (by decide +kernel)
theorem r_47_63 : xfetch 47 63 = some (.getfield 44, 3) := by decide +kernel
theorem n_47_63 : ∀ l, xpr 47 63 l = l := xpr_no (by decide +kernel)
theorem r_47_66 : xfetch 47 66 = some (.isub, 1) := by decide +kernel
theorem n_47_66 : ∀ l, xpr 47 66 l = l := xpr_no (by decide +kernel)
theorem r_47_67 : xfetch 47 67 = some (.iastore, 1) := by decide +kernel
theorem n_47_67 : ∀ l, xpr 47 67 l = l := xpr_no (by decide +kernel)
theorem r_47_68 : xfetch 47 68 = some (.aload_n 0, 1) := by decide +kernel
theorem n_47_68 : ∀ l, xpr 47 68 l = l := xpr_no (by decide +kernel)
theorem r_47_69 : xfetch 47 69 = some (.dup, 1) := by decide +kernel
theorem n_47_69 : ∀ l, xpr 47 69 l = l := xpr_no (by decide +kernel)
theorem r_47_70 : xfetch 47 70 = some (.getfield 44, 3) := by decide +kernel
theorem n_47_70 : ∀ l, xpr 47 70 l = l := xpr_no (by decide +kernel)
theorem r_47_73 : xfetch 47 73 = some (.iload_n 2, 1) := by decide +kernel
theorem n_47_73 : ∀ l, xpr 47 73 l = l := xpr_no (by decide +kernel)
theorem r_47_74 : xfetch 47 74 = some (.isub, 1) := by decide +kernel
theorem n_47_74 : ∀ l, xpr 47 74 l = l := xpr_no (by decide +kernel)
theorem r_47_75 : xfetch 47 75 = some (.putfield 44, 3) := by decide +kernel
theorem n_47_75 : ∀ l, xpr 47 75 l = l := xpr_no (by decide +kernel)
theorem r_47_78 : xfetch 47 78 = some (.return_, 1) := by decide +kernel
theorem n_47_78 : ∀ l, xpr 47 78 l = l := xpr_no (by decide +kernel)
theorem v_Shape_placeBits_0 {S : Option (Nat × (Nat → Int32))} {s : zSt} {Q : Option Value ⊕ Nat → zSt → Prop} {a0 : Int} {x1 : Int} {x2 : Int} (ha0 : isO a0 4)
    (h : rng x2 ∧ ((x2 ≤ (zI s a0 8) → (0 ≤ x1 ∧ x1 < 8) ∧ (rng ((zI s a0 7) - 2) ∧ (rng (16 - (zI s a0 8)) ∧ (rng ((zI s a0 8) - x2) ∧ (Q rU (zwI (zwI (zwI s (a0 + 1) x1 ((zI s a0 7) - 2)) (a0 + 2) x1 (16 - (zI s a0 8))) a0 8 ((zI s a0 8) - x2))))))) ∧ ((zI s a0 8) < x2 → (0 ≤ x1 ∧ x1 < 8) ∧ ((zp2 (zI s (a0 + 4) x1)) ∧ ((0 ≤ (zI s a0 7)) ∧ (((zI s a0 7) ≤ 1000000) ∧ (rng ((zup (zI s a0 7) (zI s (a0 + 4) x1)) + 2) ∧ (rng ((zI s a0 6) + 2) ∧ (rng (((zup (zI s a0 7) (zI s (a0 + 4) x1)) + 2) - 2) ∧ (rng (16 - 16) ∧ (rng (16 - x2) ∧ (Q rU (zwI (zwI (zwI (zwI (zwI (zwI s a0 7 ((zup (zI s a0 7) (zI s (a0 + 4) x1)) + 2)) a0 8 16) a0 6 ((zI s a0 6) + 2)) (a0 + 1) x1 (((zup (zI s a0 7) (zI s (a0 + 4) x1)) + 2) - 2)) (a0 + 2) x1 (16 - 16)) a0 8 (16 - x2)))))))))))))) :
    wp S 47 0 [(0, rf a0), (1, iv x1), (2, iv x2)] [] s Q := by
  refine i_aload_n (a := a0) r_47_0 (n_47_0 _) rfl ?_
  refine i_getI (a := a0) r_47_1 (n_47_1 _) rfl (by decide) ha0 (fun q1 => ?_)
  refine i_iload_n (x := x2) r_47_4 (n_47_4 _) rfl ?_
  obtain ⟨g2, h⟩ := h
  refine i_icmp (t := 43) r_47_5 (n_47_5 _) rfl (T_ge q1 g2) (fun c3 => ?_) (fun c3 => ?_)
  · replace h := h.1 c3
    refine i_aload_n (a := a0) r_47_43 (n_47_43 _) rfl ?_
    refine i_getR (a := a0) (b := a0 + 1) r_47_44 (n_47_44 _) rfl rfl rfl (by omega) ha0 (by omega) ?_
    have t4 := (t_4_0 ha0)
    refine i_iload_n (x := x1) r_47_47 (n_47_47 _) rfl ?_
    refine i_aload_n (a := a0) r_47_48 (n_47_48 _) rfl ?_
    refine i_getI (a := a0) r_47_49 (n_47_49 _) rfl (by decide) ha0 (fun q5 => ?_)
    refine i_iconst r_47_52 (n_47_52 _) ?_
    refine i_isub r_47_53 (n_47_53 _) ?_
    obtain ⟨g6, h⟩ := h
    obtain ⟨g7, h⟩ := h
    refine i_iastore (a := a0 + 1) (j := x1) (x := (zI s a0 7) - 2) r_47_54 (n_47_54 _) t4 ⟨by omega, by omega⟩ (by omega) (by omega) g7 ?_
    refine i_aload_n (a := a0) r_47_55 (n_47_55 _) rfl ?_
    refine i_getR (a := a0) (b := a0 + 2) r_47_56 (n_47_56 _) rfl rfl rfl (by omega) ha0 (by omega) ?_
    have t8 := (t_4_1 ha0)
    refine i_iload_n (x := x1) r_47_59 (n_47_59 _) rfl ?_
    refine i_bipush r_47_60 (n_47_60 _) rfl ?_
    refine i_aload_n (a := a0) r_47_62 (n_47_62 _) rfl ?_
    have e10 : zI (zwI s (a0 + 1) x1 ((zI s a0 7) - 2)) a0 8 = zI s a0 8 := zI_ne (by omega)
    refine i_getIe (a := a0) (x := zI s a0 8) r_47_63 (n_47_63 _) rfl (by decide) ha0 e10 (fun q9 => ?_)
    refine i_isub r_47_66 (n_47_66 _) ?_
    obtain ⟨g11, h⟩ := h
    refine i_iastore (a := a0 + 2) (j := x1) (x := 16 - (zI s a0 8)) r_47_67 (n_47_67 _) t8 ⟨by omega, by omega⟩ (by omega) (by omega) g11 ?_
    refine i_aload_n (a := a0) r_47_68 (n_47_68 _) rfl ?_
    refine i_dup r_47_69 (n_47_69 _) rfl ?_
    have e13 : zI (zwI (zwI s (a0 + 1) x1 ((zI s a0 7) - 2)) (a0 + 2) x1 (16 - (zI s a0 8))) a0 8 = zI s a0 8 := (zI_ne (by omega)).trans (zI_ne (by omega))
    refine i_getIe (a := a0) (x := zI s a0 8) r_47_70 (n_47_70 _) rfl (by decide) ha0 e13 (fun q12 => ?_)
    refine i_iload_n (x := x2) r_47_73 (n_47_73 _) rfl ?_
    refine i_isub r_47_74 (n_47_74 _) ?_
    obtain ⟨g14, h⟩ := h
    refine i_putI (a := a0) (x := (zI s a0 8) - x2) r_47_75 (n_47_75 _) rfl (.inl rfl) rfl ha0 g14 ?_
    exact i_return r_47_78 (n_47_78 _) rfl h
  · replace h := h.2 c3
    refine i_aload_n (a := a0) r_47_8 (n_47_8 _) rfl ?_
    refine i_aload_n (a := a0) r_47_9 (n_47_9 _) rfl ?_
    refine i_getI (a := a0) r_47_10 (n_47_10 _) rfl (by decide) ha0 (fun q15 => ?_)
    refine i_aload_n (a := a0) r_47_13 (n_47_13 _) rfl ?_
    refine i_getR (a := a0) (b := a0 + 4) r_47_14 (n_47_14 _) rfl rfl rfl (by omega) ha0 (by omega) ?_
    have t16 := (t_4_3 ha0)
    refine i_iload_n (x := x1) r_47_17 (n_47_17 _) rfl ?_
    obtain ⟨g17, h⟩ := h
    refine i_iaload (a := a0 + 4) (j := x1) r_47_18 (n_47_18 _) t16 ⟨by omega, by omega⟩ (by omega) (by omega) (fun q18 => ?_)
    obtain ⟨g19, h⟩ := h
    obtain ⟨g20, h⟩ := h
    obtain ⟨g21, h⟩ := h
    refine wp_stat (rest := [rf a0]) (Ls := [(0, iv (zI s a0 7)), (1, iv (zI s (a0 + 4) x1))]) r_47_19 (n_47_19 _) rfl ⟨rfl, by decide, by decide, by decide⟩ rfl rfl ⟨rfl, Nat.le_of_ble_eq_true rfl, Nat.le_of_ble_eq_true rfl⟩ rfl (K_RL_roundUp g19 g20 g21) ?_
    rintro _ _ ⟨rfl, rfl⟩
    refine .inl ⟨some (iv (zup (zI s a0 7) (zI s (a0 + 4) x1))), rfl, ?_⟩
    show wp S 47 22 [(0, rf a0), (1, iv x1), (2, iv x2)] [iv (zup (zI s a0 7) (zI s (a0 + 4) x1)), rf a0] s Q
    refine i_iconst r_47_22 (n_47_22 _) ?_
    refine i_iadd r_47_23 (n_47_23 _) ?_
    obtain ⟨g23, h⟩ := h
    refine i_putI (a := a0) (x := (zup (zI s a0 7) (zI s (a0 + 4) x1)) + 2) r_47_24 (n_47_24 _) rfl (.inl rfl) rfl ha0 g23 ?_
    refine i_aload_n (a := a0) r_47_27 (n_47_27 _) rfl ?_
    refine i_bipush r_47_28 (n_47_28 _) rfl ?_
    refine i_putI (a := a0) (x := 16) r_47_30 (n_47_30 _) rfl (.inl rfl) rfl ha0 ⟨by omega, by omega⟩ ?_
    refine i_aload_n (a := a0) r_47_33 (n_47_33 _) rfl ?_
    refine i_dup r_47_34 (n_47_34 _) rfl ?_
    have e25 : zI (zwI (zwI s a0 7 ((zup (zI s a0 7) (zI s (a0 + 4) x1)) + 2)) a0 8 16) a0 6 = zI s a0 6 := (zI_nj (by omega)).trans (zI_nj (by omega))
    refine i_getIe (a := a0) (x := zI s a0 6) r_47_35 (n_47_35 _) rfl (by decide) ha0 e25 (fun q24 => ?_)
    refine i_iconst r_47_38 (n_47_38 _) ?_
    refine i_iadd r_47_39 (n_47_39 _) ?_
    obtain ⟨g26, h⟩ := h
    refine i_putI (a := a0) (x := (zI s a0 6) + 2) r_47_40 (n_47_40 _) rfl (.inl rfl) rfl ha0 g26 ?_
    refine i_aload_n (a := a0) r_47_43 (n_47_43 _) rfl ?_
    refine i_getR (a := a0) (b := a0 + 1) r_47_44 (n_47_44 _) rfl rfl rfl (by omega) ha0 (by omega) ?_
    have t27 := (t_4_0 ha0)
    refine i_iload_n (x := x1) r_47_47 (n_47_47 _) rfl ?_
    refine i_aload_n (a := a0) r_47_48 (n_47_48 _) rfl ?_
    have e29 : zI (zwI (zwI (zwI s a0 7 ((zup (zI s a0 7) (zI s (a0 + 4) x1)) + 2)) a0 8 16) a0 6 ((zI s a0 6) + 2)) a0 7 = (zup (zI s a0 7) (zI s (a0 + 4) x1)) + 2 := (zI_nj (by omega)).trans ((zI_nj (by omega)).trans (zI_eq))
    refine i_getIe (a := a0) (x := (zup (zI s a0 7) (zI s (a0 + 4) x1)) + 2) r_47_49 (n_47_49 _) rfl (by decide) ha0 e29 (fun q28 => ?_)
    refine i_iconst r_47_52 (n_47_52 _) ?_
    refine i_isub r_47_53 (n_47_53 _) ?_
    obtain ⟨g30, h⟩ := h
    refine i_iastore (a := a0 + 1) (j := x1) (x := ((zup (zI s a0 7) (zI s (a0 + 4) x1)) + 2) - 2) r_47_54 (n_47_54 _) t27 ⟨by omega, by omega⟩ (by omega) (by omega) g30 ?_
    refine i_aload_n (a := a0) r_47_55 (n_47_55 _) rfl ?_
    refine i_getR (a := a0) (b := a0 + 2) r_47_56 (n_47_56 _) rfl rfl rfl (by omega) ha0 (by omega) ?_
    have t31 := (t_4_1 ha0)
    refine i_iload_n (x := x1) r_47_59 (n_47_59 _) rfl ?_
    refine i_bipush r_47_60 (n_47_60 _) rfl ?_
    refine i_aload_n (a := a0) r_47_62 (n_47_62 _) rfl ?_
    have e33 : zI (zwI (zwI (zwI (zwI s a0 7 ((zup (zI s a0 7) (zI s (a0 + 4) x1)) + 2)) a0 8 16) a0 6 ((zI s a0 6) + 2)) (a0 + 1) x1 (((zup (zI s a0 7) (zI s (a0 + 4) x1)) + 2) - 2)) a0 8 = 16 := (zI_ne (by omega)).trans ((zI_nj (by omega)).trans (zI_eq))
    refine i_getIe (a := a0) (x := 16) r_47_63 (n_47_63 _) rfl (by decide) ha0 e33 (fun q32 => ?_)
    refine i_isub r_47_66 (n_47_66 _) ?_
    obtain ⟨g34, h⟩ := h
    refine i_iastore (a := a0 + 2) (j := x1) (x := 16 - 16) r_47_67 (n_47_67 _) t31 ⟨by omega, by omega⟩ (by omega) (by omega) g34 ?_
    refine i_aload_n (a := a0) r_47_68 (n_47_68 _) rfl ?_
    refine i_dup r_47_69 (n_47_69 _) rfl ?_
    have e36 : zI (zwI (zwI (zwI (zwI (zwI s a0 7 ((zup (zI s a0 7) (zI s (a0 + 4) x1)) + 2)) a0 8 16) a0 6 ((zI s a0 6) + 2)) (a0 + 1) x1 (((zup (zI s a0 7) (zI s (a0 + 4) x1)) + 2) - 2)) (a0 + 2) x1 (16 - 16)) a0 8 = 16 := (zI_ne (by omega)).trans ((zI_ne (by omega)).trans ((zI_nj (by omega)).trans (zI_eq)))
    refine i_getIe (a := a0) (x := 16) r_47_70 (n_47_70 _) rfl (by decide) ha0 e36 (fun q35 => ?_)
    refine i_iload_n (x := x2) r_47_73 (n_47_73 _) rfl ?_
    refine i_isub r_47_74 (n_47_74 _) ?_
    obtain ⟨g37, h⟩ := h
    refine i_putI (a := a0) (x := 16 - x2) r_47_75 (n_47_75 _) rfl (.inl rfl) rfl ha0 g37 ?_
    exact i_return r_47_78 (n_47_78 _) rfl h
theorem r_48_0 : xfetch 48 0 = some (.aload_n 0, 1) := by decide +kernel
theorem n_48_0 : ∀ l, xpr 48 0 l = l := xpr_no (by decide +kernel)
theorem r_48_1 : xfetch 48 1 = some (.getfield 9, 3) := by decide +kernel
theorem n_48_1 : ∀ l, xpr 48 1 l = l := xpr_no (by decide +kernel)
theorem r_48_4 : xfetch 48 4 = some (.iload_n 1, 1) := by decide +kernel
theorem n_48_4 : ∀ l, xpr 48 4 l = l := xpr_no (by decide +kernel)
theorem r_48_5 : xfetch 48 5 = some (.aload_n 0, 1) := by decide +kernel
theorem n_48_5 : ∀ l, xpr 48 5 l = l := xpr_no (by decide +kernel)
theorem r_48_6 : xfetch 48 6 = some (.getfield 41, 3) := by decide +kernel
theorem n_48_6 : ∀ l, xpr 48 6 l = l := xpr_no (by decide +kernel)
theorem r_48_9 : xfetch 48 9 = some (.aload_n 0, 1) := by decide +kernel
theorem n_48_9 : ∀ l, xpr 48 9 l = l := xpr_no (by decide +kernel)
theorem r_48_10 : xfetch 48 10 = some (.getfield 21, 3) := by decide +kernel
theorem n_48_10 : ∀ l, xpr 48 10 l = l := xpr_no (by decide +kernel)
theorem r_48_13 : xfetch 48 13 = some (.iload_n 1, 1) := by decide +kernel
theorem n_48_13 : ∀ l, xpr 48 13 l = l := xpr_no (by decide +kernel)
theorem r_48_14 : xfetch 48 14 = some (.iaload, 1) := by decide +kernel
theorem n_48_14 : ∀ l, xpr 48 14 l = l := xpr_no (by decide +kernel)
theorem r_48_15 : xfetch 48 15 = some (.invokestatic 47, 3) := by decide +kernel
theorem n_48_15 : ∀ l, xpr 48 15 l = l := xpr_no (by decide +kernel)
theorem r_48_18 : xfetch 48 18 = some (.iastore, 1) := by decide +kernel
theorem n_48_18 : ∀ l, xpr 48 18 l = l := xpr_no (by decide +kernel)
theorem r_48_19 : xfetch 48 19 = some (.aload_n 0, 1) := by decide +kernel
theorem n_48_19 : ∀ l, xpr 48 19 l = l := xpr_no (by decide +kernel)
theorem r_48_20 : xfetch 48 20 = some (.getfield 15, 3) := by decide +kernel
theorem n_48_20 : ∀ l, xpr 48 20 l = l := xpr_no (by decide +kernel)
theorem r_48_23 : xfetch 48 23 = some (.iload_n 1, 1) := by decide +kernel
theorem n_48_23 : ∀ l, xpr 48 23 l = l := xpr_no (by decide +kernel)
theorem r_48_24 : xfetch 48 24 = some (.iconst 0, 1) := by decide +kernel
theorem n_48_24 : ∀ l, xpr 48 24 l = l := xpr_no (by decide +kernel)
theorem r_48_25 : xfetch 48 25 = some (.iastore, 1) := by decide +kernel
theorem n_48_25 : ∀ l, xpr 48 25 l = l := xpr_no (by decide +kernel)
theorem r_48_26 : xfetch 48 26 = some (.aload_n 0, 1) := by decide +kernel
theorem n_48_26 : ∀ l, xpr 48 26 l = l := xpr_no (by decide +kernel)
theorem r_48_27 : xfetch 48 27 = some (.aload_n 0, 1) := by decide +kernel
theorem n_48_27 : ∀ l, xpr 48 27 l = l := xpr_no (by decide +kernel)
theorem r_48_28 : xfetch 48 28 = some (.getfield 9, 3) := by decide +kernel
theorem n_48_28 : ∀ l, xpr 48 28 l = l := xpr_no (by decide +kernel)
theorem r_48_31 : xfetch 48 31 = some (.iload_n 1, 1) := by decide +kernel
theorem n_48_31 : ∀ l, xpr 48 31 l = l := xpr_no (by decide +kernel)
theorem r_48_32 : xfetch 48 32 = some (.iaload, 1) := by decide +kernel
theorem n_48_32 : ∀ l, xpr 48 32 l = l := xpr_no (by decide +kernel)
theorem r_48_33 : xfetch 48 33 = some (.iload_n 2, 1) := by decide +kernel
theorem n_48_33 : ∀ l, xpr 48 33 l = l := xpr_no (by decide +kernel)
theorem r_48_34 : xfetch 48 34 = some (.aload_n 0, 1) := by decide +kernel
theorem n_48_34 : ∀ l, xpr 48 34 l = l := xpr_no (by decide +kernel)
theorem r_48_35 : xfetch 48 35 = some (.getfield 18, 3) := by decide +kernel
theorem n_48_35 : ∀ l, xpr 48 35 l = l := xpr_no (by decide +kernel)
theorem r_48_38 : xfetch 48 38 = some (.iload_n 1, 1) := by decide +kernel
theorem n_48_38 : ∀ l, xpr 48 38 l = l := xpr_no (by decide +kernel)
theorem r_48_39 : xfetch 48 39 = some (.iaload, 1) := by decide +kernel
theorem n_48_39 : ∀ l, xpr 48 39 l = l := xpr_no (by decide +kernel)
theorem r_48_40 : xfetch 48 40 = some (.imul, 1) := by decide +kernel
theorem n_48_40 : ∀ l, xpr 48 40 l = l := xpr_no (by decide +kernel)
theorem r_48_41 : xfetch 48 41 = some (.iadd, 1) := by decide +kernel
theorem n_48_41 : ∀ l, xpr 48 41 l = l := xpr_no (by decide +kernel)
theorem r_48_42 : xfetch 48 42 = some (.putfield 41, 3) := by decide +kernel
theorem n_48_42 : ∀ l, xpr 48 42 l = l := xpr_no (by decide +kernel)
theorem r_48_45 : xfetch 48 45 = some (.aload_n 0, 1) := by decide +kernel
theorem n_48_45 : ∀ l, xpr 48 45 l = l := xpr_no (by decide +kernel)
theorem r_48_46 : xfetch 48 46 = some (.iconst 0, 1) := by decide +kernel
theorem n_48_46 : ∀ l, xpr 48 46 l = l := xpr_no (by decide +kernel)
theorem r_48_47 : xfetch 48 47 = some (.putfield 44, 3) := by decide +kernel
theorem n_48_47 : ∀ l, xpr 48 47 l = l := xpr_no (by decide +kernel)
theorem r_48_50 : xfetch 48 50 = some (.return_, 1) := by decide +kernel
theorem n_48_50 : ∀ l, xpr 48 50 l = l := xpr_no (by decide +kernel)
theorem v_Shape_placeElements_0 {S : Option (Nat × (Nat → Int32))} {s : zSt} {Q : Option Value ⊕ Nat → zSt → Prop} {a0 : Int} {x1 : Int} {x2 : Int} (ha0 : isO a0 4)
    (h : (0 ≤ x1 ∧ x1 < 8) ∧ ((zp2 (zI s (a0 + 4) x1)) ∧ ((0 ≤ (zI s a0 7)) ∧ (((zI s a0 7) ≤ 1000000) ∧ (rng (zup (zI s a0 7) (zI s (a0 + 4) x1)) ∧ (rng ((zup (zI s a0 7) (zI s (a0 + 4) x1)) + (x2 * (zI s (a0 + 3) x1))) ∧ (Q rU (zwI (zwI (zwI (zwI s (a0 + 1) x1 (zup (zI s a0 7) (zI s (a0 + 4) x1))) (a0 + 2) x1 0) a0 7 ((zup (zI s a0 7) (zI s (a0 + 4) x1)) + (x2 * (zI s (a0 + 3) x1)))) a0 8 0)))))))) :
    wp S 48 0 [(0, rf a0), (1, iv x1), (2, iv x2)] [] s Q := by
  refine i_aload_n (a := a0) r_48_0 (n_48_0 _) rfl ?_
  refine i_getR (a := a0) (b := a0 + 1) r_48_1 (n_48_1 _) rfl rfl rfl (by omega) ha0 (by omega) ?_
  have t1 := (t_4_0 ha0)
  refine i_iload_n (x := x1) r_48_4 (n_48_4 _) rfl ?_
  refine i_aload_n (a := a0) r_48_5 (n_48_5 _) rfl ?_
  refine i_getI (a := a0) r_48_6 (n_48_6 _) rfl (by decide) ha0 (fun q2 => ?_)
  refine i_aload_n (a := a0) r_48_9 (n_48_9 _) rfl ?_
  refine i_getR (a := a0) (b := a0 + 4) r_48_10 (n_48_10 _) rfl rfl rfl (by omega) ha0 (by omega) ?_
  have t3 := (t_4_3 ha0)
  refine i_iload_n (x := x1) r_48_13 (n_48_13 _) rfl ?_
  obtain ⟨g4, h⟩ := h
  refine i_iaload (a := a0 + 4) (j := x1) r_48_14 (n_48_14 _) t3 ⟨by omega, by omega⟩ (by omega) (by omega) (fun q5 => ?_)
  obtain ⟨g6, h⟩ := h
  obtain ⟨g7, h⟩ := h
  obtain ⟨g8, h⟩ := h
  refine wp_stat (rest := [iv x1, rf (a0 + 1)]) (Ls := [(0, iv (zI s a0 7)), (1, iv (zI s (a0 + 4) x1))]) r_48_15 (n_48_15 _) rfl ⟨rfl, by decide, by decide, by decide⟩ rfl rfl ⟨rfl, Nat.le_of_ble_eq_true rfl, Nat.le_of_ble_eq_true rfl⟩ rfl (K_RL_roundUp g6 g7 g8) ?_
  rintro _ _ ⟨rfl, rfl⟩
  refine .inl ⟨some (iv (zup (zI s a0 7) (zI s (a0 + 4) x1))), rfl, ?_⟩
  show wp S 48 18 [(0, rf a0), (1, iv x1), (2, iv x2)] [iv (zup (zI s a0 7) (zI s (a0 + 4) x1)), iv x1, rf (a0 + 1)] s Q
  obtain ⟨g10, h⟩ := h
  refine i_iastore (a := a0 + 1) (j := x1) (x := zup (zI s a0 7) (zI s (a0 + 4) x1)) r_48_18 (n_48_18 _) t1 ⟨by omega, by omega⟩ (by omega) (by omega) g10 ?_
  refine i_aload_n (a := a0) r_48_19 (n_48_19 _) rfl ?_
  refine i_getR (a := a0) (b := a0 + 2) r_48_20 (n_48_20 _) rfl rfl rfl (by omega) ha0 (by omega) ?_
  have t11 := (t_4_1 ha0)
  refine i_iload_n (x := x1) r_48_23 (n_48_23 _) rfl ?_
  refine i_iconst r_48_24 (n_48_24 _) ?_
  refine i_iastore (a := a0 + 2) (j := x1) (x := 0) r_48_25 (n_48_25 _) t11 ⟨by omega, by omega⟩ (by omega) (by omega) ⟨by omega, by omega⟩ ?_
  refine i_aload_n (a := a0) r_48_26 (n_48_26 _) rfl ?_
  refine i_aload_n (a := a0) r_48_27 (n_48_27 _) rfl ?_
  refine i_getR (a := a0) (b := a0 + 1) r_48_28 (n_48_28 _) rfl rfl rfl (by omega) ha0 (by omega) ?_
  have t12 := (t_4_0 ha0)
  refine i_iload_n (x := x1) r_48_31 (n_48_31 _) rfl ?_
  refine i_iaload (a := a0 + 1) (j := x1) r_48_32 (n_48_32 _) t12 ⟨by omega, by omega⟩ (by omega) (by omega) (fun q13 => ?_)
  have e14 : zI (zwI (zwI s (a0 + 1) x1 (zup (zI s a0 7) (zI s (a0 + 4) x1))) (a0 + 2) x1 0) (a0 + 1) x1 = zup (zI s a0 7) (zI s (a0 + 4) x1) := (zI_ne (by omega)).trans (zI_eq)
  rw [e14] at q13 ⊢
  refine i_iload_n (x := x2) r_48_33 (n_48_33 _) rfl ?_
  refine i_aload_n (a := a0) r_48_34 (n_48_34 _) rfl ?_
  refine i_getR (a := a0) (b := a0 + 3) r_48_35 (n_48_35 _) rfl rfl rfl (by omega) ha0 (by omega) ?_
  have t15 := (t_4_2 ha0)
  refine i_iload_n (x := x1) r_48_38 (n_48_38 _) rfl ?_
  refine i_iaload (a := a0 + 3) (j := x1) r_48_39 (n_48_39 _) t15 ⟨by omega, by omega⟩ (by omega) (by omega) (fun q16 => ?_)
  have e17 : zI (zwI (zwI s (a0 + 1) x1 (zup (zI s a0 7) (zI s (a0 + 4) x1))) (a0 + 2) x1 0) (a0 + 3) x1 = zI s (a0 + 3) x1 := (zI_ne (by omega)).trans (zI_ne (by omega))
  rw [e17] at q16 ⊢
  refine i_imul r_48_40 (n_48_40 _) ?_
  refine i_iadd r_48_41 (n_48_41 _) ?_
  obtain ⟨g18, h⟩ := h
  refine i_putI (a := a0) (x := (zup (zI s a0 7) (zI s (a0 + 4) x1)) + (x2 * (zI s (a0 + 3) x1))) r_48_42 (n_48_42 _) rfl (.inl rfl) rfl ha0 g18 ?_
  refine i_aload_n (a := a0) r_48_45 (n_48_45 _) rfl ?_
  refine i_iconst r_48_46 (n_48_46 _) ?_
  refine i_putI (a := a0) (x := 0) r_48_47 (n_48_47 _) rfl (.inl rfl) rfl ha0 ⟨by omega, by omega⟩ ?_
  exact i_return r_48_50 (n_48_50 _) rfl h
theorem r_50_0 : xfetch 50 0 = some (.aload_n 0, 1) := by decide +kernel
theorem n_50_0 : ∀ l, xpr 50 0 l = l := xpr_no (by decide +kernel)
theorem r_50_1 : xfetch 50 1 = some (.getfield 28, 3) := by decide +kernel
theorem n_50_1 : ∀ l, xpr 50 1 l = l := xpr_no (by decide +kernel)
theorem r_50_4 : xfetch 50 4 = some (.bipush 40, 2) := by decide +kernel
theorem n_50_4 : ∀ l, xpr 50 4 l = l := xpr_no (by decide +kernel)
theorem r_50_6 : xfetch 50 6 = some (.if_icmp .lt 4, 3) := by decide +kernel
theorem n_50_6 : ∀ l, xpr 50 6 l = l := xpr_no (by decide +kernel)
theorem r_50_9 : xfetch 50 9 = some (.return_, 1) := by decide +kernel
theorem n_50_9 : ∀ l, xpr 50 9 l = l := xpr_no (by decide +kernel)
theorem r_50_10 : xfetch 50 10 = some (.aload_n 0, 1) := by decide +kernel
theorem n_50_10 : ∀ l, xpr 50 10 l = l := xpr_no (by decide +kernel)
theorem r_50_11 : xfetch 50 11 = some (.getfield 9, 3) := by decide +kernel
theorem n_50_11 : ∀ l, xpr 50 11 l = l := xpr_no (by decide +kernel)
theorem r_50_14 : xfetch 50 14 = some (.aload_n 0, 1) := by decide +kernel
theorem n_50_14 : ∀ l, xpr 50 14 l = l := xpr_no (by decide +kernel)
theorem r_50_15 : xfetch 50 15 = some (.getfield 28, 3) := by decide +kernel
theorem n_50_15 : ∀ l, xpr 50 15 l = l := xpr_no (by decide +kernel)
theorem r_50_18 : xfetch 50 18 = some (.iload_n 1, 1) := by decide +kernel
theorem n_50_18 : ∀ l, xpr 50 18 l = l := xpr_no (by decide +kernel)
theorem r_50_19 : xfetch 50 19 = some (.iastore, 1) := by decide +kernel
theorem n_50_19 : ∀ l, xpr 50 19 l = l := xpr_no (by decide +kernel)
theorem r_50_20 : xfetch 50 20 = some (.aload_n 0, 1) := by decide +kernel
theorem n_50_20 : ∀ l, xpr 50 20 l = l := xpr_no (by decide +kernel)
theorem r_50_21 : xfetch 50 21 = some (.getfield 15, 3) := by decide +kernel
theorem n_50_21 : ∀ l, xpr 50 21 l = l := xpr_no (by decide +kernel)
theorem r_50_24 : xfetch 50 24 = some (.aload_n 0, 1) := by decide +kernel
theorem n_50_24 : ∀ l, xpr 50 24 l = l := xpr_no (by decide +kernel)
theorem r_50_25 : xfetch 50 25 = some (.getfield 28, 3) := by decide +kernel
theorem n_50_25 : ∀ l, xpr 50 25 l = l := xpr_no (by decide +kernel)
theorem r_50_28 : xfetch 50 28 = some (.iload_n 2, 1) := by decide +kernel
theorem n_50_28 : ∀ l, xpr 50 28 l = l := xpr_no (by decide +kernel)
theorem r_50_29 : xfetch 50 29 = some (.iastore, 1) := by decide +kernel
theorem n_50_29 : ∀ l, xpr 50 29 l = l := xpr_no (by decide +kernel)
theorem r_50_30 : xfetch 50 30 = some (.aload_n 0, 1) := by decide +kernel
theorem n_50_30 : ∀ l, xpr 50 30 l = l := xpr_no (by decide +kernel)
theorem r_50_31 : xfetch 50 31 = some (.getfield 18, 3) := by decide +kernel
theorem n_50_31 : ∀ l, xpr 50 31 l = l := xpr_no (by decide +kernel)
theorem r_50_34 : xfetch 50 34 = some (.aload_n 0, 1) := by decide +kernel
theorem n_50_34 : ∀ l, xpr 50 34 l = l := xpr_no (by decide +kernel)
theorem r_50_35 : xfetch 50 35 = some (.getfield 28, 3) := by decide +kernel
theorem n_50_35 : ∀ l, xpr 50 35 l = l := xpr_no (by decide +kernel)
theorem r_50_38 : xfetch 50 38 = some (.iload_n 3, 1) := by decide +kernel
theorem n_50_38 : ∀ l, xpr 50 38 l = l := xpr_no (by decide +kernel)
theorem r_50_39 : xfetch 50 39 = some (.iastore, 1) := by decide +kernel
theorem n_50_39 : ∀ l, xpr 50 39 l = l := xpr_no (by decide +kernel)
theorem r_50_40 : xfetch 50 40 = some (.aload_n 0, 1) := by decide +kernel
theorem n_50_40 : ∀ l, xpr 50 40 l = l := xpr_no (by decide +kernel)
theorem r_50_41 : xfetch 50 41 = some (.getfield 21, 3) := by decide +kernel
theorem n_50_41 : ∀ l, xpr 50 41 l = l := xpr_no (by decide +kernel)
theorem r_50_44 : xfetch 50 44 = some (.aload_n 0, 1) := by decide +kernel
theorem n_50_44 : ∀ l, xpr 50 44 l = l := xpr_no (by decide +kernel)
theorem r_50_45 : xfetch 50 45 = some (.getfield 28, 3) := by decide +kernel
theorem n_50_45 : ∀ l, xpr 50 45 l = l := xpr_no (by decide +kernel)
theorem r_50_48 : xfetch 50 48 = some (.iload 4, 2) := by decide +kernel
theorem n_50_48 : ∀ l, xpr 50 48 l = l := xpr_no (by decide +kernel)
theorem r_50_50 : xfetch 50 50 = some (.iastore, 1) := by decide +kernel
theorem n_50_50 : ∀ l, xpr 50 50 l = l := xpr_no (by decide +kernel)
theorem r_50_51 : xfetch 50 51 = some (.aload_n 0, 1) := by decide +kernel
theorem n_50_51 : ∀ l, xpr 50 51 l = l := xpr_no (by decide +kernel)
theorem r_50_52 : xfetch 50 52 = some (.getfield 24, 3) := by decide +kernel
theorem n_50_52 : ∀ l, xpr 50 52 l = l := xpr_no (by decide +kernel)
theorem r_50_55 : xfetch 50 55 = some (.aload_n 0, 1) := by decide +kernel
theorem n_50_55 : ∀ l, xpr 50 55 l = l := xpr_no (by decide +kernel)
theorem r_50_56 : xfetch 50 56 = some (.getfield 28, 3) := by decide +kernel
theorem n_50_56 : ∀ l, xpr 50 56 l = l := xpr_no (by decide +kernel)
theorem r_50_59 : xfetch 50 59 = some (.lload 5, 2) := by decide +kernel
theorem n_50_59 : ∀ l, xpr 50 59 l = l := xpr_no (by decide +kernel)
theorem r_50_61 : xfetch 50 61 = some (.lastore, 1) := by decide +kernel
theorem n_50_61 : ∀ l, xpr 50 61 l = l := xpr_no (by decide +kernel)
theorem r_50_62 : xfetch 50 62 = some (.aload_n 0, 1) := by decide +kernel
theorem n_50_62 : ∀ l, xpr 50 62 l = l := xpr_no (by decide +kernel)
theorem r_50_63 : xfetch 50 63 = some (.dup, 1) := by decide +kernel
theorem n_50_63 : ∀ l, xpr 50 63 l = l := xpr_no (by decide +kernel)
theorem r_50_64 : xfetch 50 64 = some (.getfield 28, 3) := by decide +kernel
theorem n_50_64 : ∀ l, xpr 50 64 l = l := xpr_no (by decide +kernel)
theorem r_50_67 : xfetch 50 67 = some (.iconst 1, 1) := by decide +kernel
theorem n_50_67 : ∀ l, xpr 50 67 l = l := xpr_no (by decide +kernel)
theorem r_50_68 : xfetch 50 68 = some (.iadd, 1) := by decide +kernel
theorem n_50_68 : ∀ l, xpr 50 68 l = l := xpr_no (by decide +kernel)
theorem r_50_69 : xfetch 50 69 = some (.putfield 28, 3) := by decide +kernel
theorem n_50_69 : ∀ l, xpr 50 69 l = l := xpr_no (by decide +kernel)
theorem r_50_72 : xfetch 50 72 = some (.return_, 1) := by decide +kernel
theorem n_50_72 : ∀ l, xpr 50 72 l = l := xpr_no (by decide +kernel)
theorem v_Leaves_add_0 {S : Option (Nat × (Nat → Int32))} {s : zSt} {Q : Option Value ⊕ Nat → zSt → Prop} {a0 : Int} {x1 : Int} {x2 : Int} {x3 : Int} {x4 : Int} {u5 : Int64} (ha0 : isO a0 2)
    (h : ((zI s a0 0) < 40 → (0 ≤ (zI s a0 0) ∧ (zI s a0 0) < 40) ∧ (rng x1 ∧ (rng x2 ∧ (rng x3 ∧ (rng x4 ∧ (rng ((zI s a0 0) + 1) ∧ (Q rU (zwI (zwL (zwI (zwI (zwI (zwI s (a0 + 1) (zI s a0 0) x1) (a0 + 2) (zI s a0 0) x2) (a0 + 3) (zI s a0 0) x3) (a0 + 4) (zI s a0 0) x4) (a0 + 5) (zI s a0 0) u5) a0 0 ((zI s a0 0) + 1))))))))) ∧ (40 ≤ (zI s a0 0) → Q rU s)) :
    wp S 50 0 [(0, rf a0), (1, iv x1), (2, iv x2), (3, iv x3), (4, iv x4), (5, .long u5)] [] s Q := by
  refine i_aload_n (a := a0) r_50_0 (n_50_0 _) rfl ?_
  refine i_getI (a := a0) r_50_1 (n_50_1 _) rfl (by decide) ha0 (fun q1 => ?_)
  refine i_bipush r_50_4 (n_50_4 _) rfl ?_
  refine i_icmp (t := 10) r_50_6 (n_50_6 _) rfl (T_lt q1 ⟨by omega, by omega⟩) (fun c2 => ?_) (fun c2 => ?_)
  · replace h := h.1 c2
    refine i_aload_n (a := a0) r_50_10 (n_50_10 _) rfl ?_
    refine i_getR (a := a0) (b := a0 + 1) r_50_11 (n_50_11 _) rfl rfl rfl (by omega) ha0 (by omega) ?_
    have t3 := (t_2_1 ha0)
    refine i_aload_n (a := a0) r_50_14 (n_50_14 _) rfl ?_
    refine i_getI (a := a0) r_50_15 (n_50_15 _) rfl (by decide) ha0 (fun q4 => ?_)
    refine i_iload_n (x := x1) r_50_18 (n_50_18 _) rfl ?_
    obtain ⟨g5, h⟩ := h
    obtain ⟨g6, h⟩ := h
    refine i_iastore (a := a0 + 1) (j := zI s a0 0) (x := x1) r_50_19 (n_50_19 _) t3 ⟨by omega, by omega⟩ (by omega) (by omega) g6 ?_
    refine i_aload_n (a := a0) r_50_20 (n_50_20 _) rfl ?_
    refine i_getR (a := a0) (b := a0 + 2) r_50_21 (n_50_21 _) rfl rfl rfl (by omega) ha0 (by omega) ?_
    have t7 := (t_2_2 ha0)
    refine i_aload_n (a := a0) r_50_24 (n_50_24 _) rfl ?_
    have e9 : zI (zwI s (a0 + 1) (zI s a0 0) x1) a0 0 = zI s a0 0 := zI_ne (by omega)
    refine i_getIe (a := a0) (x := zI s a0 0) r_50_25 (n_50_25 _) rfl (by decide) ha0 e9 (fun q8 => ?_)
    refine i_iload_n (x := x2) r_50_28 (n_50_28 _) rfl ?_
    obtain ⟨g10, h⟩ := h
    refine i_iastore (a := a0 + 2) (j := zI s a0 0) (x := x2) r_50_29 (n_50_29 _) t7 ⟨by omega, by omega⟩ (by omega) (by omega) g10 ?_
    refine i_aload_n (a := a0) r_50_30 (n_50_30 _) rfl ?_
    refine i_getR (a := a0) (b := a0 + 3) r_50_31 (n_50_31 _) rfl rfl rfl (by omega) ha0 (by omega) ?_
    have t11 := (t_2_3 ha0)
    refine i_aload_n (a := a0) r_50_34 (n_50_34 _) rfl ?_
    have e13 : zI (zwI (zwI s (a0 + 1) (zI s a0 0) x1) (a0 + 2) (zI s a0 0) x2) a0 0 = zI s a0 0 := (zI_ne (by omega)).trans (zI_ne (by omega))
    refine i_getIe (a := a0) (x := zI s a0 0) r_50_35 (n_50_35 _) rfl (by decide) ha0 e13 (fun q12 => ?_)
    refine i_iload_n (x := x3) r_50_38 (n_50_38 _) rfl ?_
    obtain ⟨g14, h⟩ := h
    refine i_iastore (a := a0 + 3) (j := zI s a0 0) (x := x3) r_50_39 (n_50_39 _) t11 ⟨by omega, by omega⟩ (by omega) (by omega) g14 ?_
    refine i_aload_n (a := a0) r_50_40 (n_50_40 _) rfl ?_
    refine i_getR (a := a0) (b := a0 + 4) r_50_41 (n_50_41 _) rfl rfl rfl (by omega) ha0 (by omega) ?_
    have t15 := (t_2_4 ha0)
    refine i_aload_n (a := a0) r_50_44 (n_50_44 _) rfl ?_
    have e17 : zI (zwI (zwI (zwI s (a0 + 1) (zI s a0 0) x1) (a0 + 2) (zI s a0 0) x2) (a0 + 3) (zI s a0 0) x3) a0 0 = zI s a0 0 := (zI_ne (by omega)).trans ((zI_ne (by omega)).trans (zI_ne (by omega)))
    refine i_getIe (a := a0) (x := zI s a0 0) r_50_45 (n_50_45 _) rfl (by decide) ha0 e17 (fun q16 => ?_)
    refine i_iload (x := x4) r_50_48 (n_50_48 _) rfl ?_
    obtain ⟨g18, h⟩ := h
    refine i_iastore (a := a0 + 4) (j := zI s a0 0) (x := x4) r_50_50 (n_50_50 _) t15 ⟨by omega, by omega⟩ (by omega) (by omega) g18 ?_
    refine i_aload_n (a := a0) r_50_51 (n_50_51 _) rfl ?_
    refine i_getR (a := a0) (b := a0 + 5) r_50_52 (n_50_52 _) rfl rfl rfl (by omega) ha0 (by omega) ?_
    have t19 := (t_2_5 ha0)
    refine i_aload_n (a := a0) r_50_55 (n_50_55 _) rfl ?_
    have e21 : zI (zwI (zwI (zwI (zwI s (a0 + 1) (zI s a0 0) x1) (a0 + 2) (zI s a0 0) x2) (a0 + 3) (zI s a0 0) x3) (a0 + 4) (zI s a0 0) x4) a0 0 = zI s a0 0 := (zI_ne (by omega)).trans ((zI_ne (by omega)).trans ((zI_ne (by omega)).trans (zI_ne (by omega))))
    refine i_getIe (a := a0) (x := zI s a0 0) r_50_56 (n_50_56 _) rfl (by decide) ha0 e21 (fun q20 => ?_)
    refine i_lload (u := u5) r_50_59 (n_50_59 _) rfl ?_
    refine i_lastore (a := a0 + 5) (j := zI s a0 0) r_50_61 (n_50_61 _) t19 ⟨by omega, by omega⟩ (by omega) (by omega) ?_
    refine i_aload_n (a := a0) r_50_62 (n_50_62 _) rfl ?_
    refine i_dup r_50_63 (n_50_63 _) rfl ?_
    have e23 : zI (zwL (zwI (zwI (zwI (zwI s (a0 + 1) (zI s a0 0) x1) (a0 + 2) (zI s a0 0) x2) (a0 + 3) (zI s a0 0) x3) (a0 + 4) (zI s a0 0) x4) (a0 + 5) (zI s a0 0) u5) a0 0 = zI s a0 0 := (zI_wL _ _ _ _ _ _).trans ((zI_ne (by omega)).trans ((zI_ne (by omega)).trans ((zI_ne (by omega)).trans (zI_ne (by omega)))))
    refine i_getIe (a := a0) (x := zI s a0 0) r_50_64 (n_50_64 _) rfl (by decide) ha0 e23 (fun q22 => ?_)
    refine i_iconst r_50_67 (n_50_67 _) ?_
    refine i_iadd r_50_68 (n_50_68 _) ?_
    obtain ⟨g24, h⟩ := h
    refine i_putI (a := a0) (x := (zI s a0 0) + 1) r_50_69 (n_50_69 _) rfl (.inl rfl) rfl ha0 g24 ?_
    exact i_return r_50_72 (n_50_72 _) rfl h
  · replace h := h.2 c2
    exact i_return r_50_9 (n_50_9 _) rfl h
theorem r_51_0 : xfetch 51 0 = some (.aload_n 0, 1) := by decide +kernel
theorem n_51_0 : ∀ l, xpr 51 0 l = l := xpr_no (by decide +kernel)
theorem r_51_1 : xfetch 51 1 = some (.getfield 9, 3) := by decide +kernel
theorem n_51_1 : ∀ l, xpr 51 1 l = l := xpr_no (by decide +kernel)
theorem r_51_4 : xfetch 51 4 = some (.iload_n 2, 1) := by decide +kernel
theorem n_51_4 : ∀ l, xpr 51 4 l = l := xpr_no (by decide +kernel)
theorem r_51_5 : xfetch 51 5 = some (.iaload, 1) := by decide +kernel
theorem n_51_5 : ∀ l, xpr 51 5 l = l := xpr_no (by decide +kernel)
theorem r_51_6 : xfetch 51 6 = some (.iload_n 3, 1) := by decide +kernel
theorem n_51_6 : ∀ l, xpr 51 6 l = l := xpr_no (by decide +kernel)
theorem r_51_7 : xfetch 51 7 = some (.aload_n 0, 1) := by decide +kernel
theorem n_51_7 : ∀ l, xpr 51 7 l = l := xpr_no (by decide +kernel)
theorem r_51_8 : xfetch 51 8 = some (.getfield 18, 3) := by decide +kernel
theorem n_51_8 : ∀ l, xpr 51 8 l = l := xpr_no (by decide +kernel)
theorem r_51_11 : xfetch 51 11 = some (.iload_n 2, 1) := by decide +kernel
theorem n_51_11 : ∀ l, xpr 51 11 l = l := xpr_no (by decide +kernel)
theorem r_51_12 : xfetch 51 12 = some (.iaload, 1) := by decide +kernel
theorem n_51_12 : ∀ l, xpr 51 12 l = l := xpr_no (by decide +kernel)
theorem r_51_13 : xfetch 51 13 = some (.imul, 1) := by decide +kernel
theorem n_51_13 : ∀ l, xpr 51 13 l = l := xpr_no (by decide +kernel)
theorem r_51_14 : xfetch 51 14 = some (.iadd, 1) := by decide +kernel
theorem n_51_14 : ∀ l, xpr 51 14 l = l := xpr_no (by decide +kernel)
theorem r_51_15 : xfetch 51 15 = some (.istore 5, 2) := by decide +kernel
theorem n_51_15 : ∀ l, xpr 51 15 l = l := xpr_no (by decide +kernel)
theorem r_51_17 : xfetch 51 17 = some (.iconst 0, 1) := by decide +kernel
theorem n_51_17 : ∀ l, xpr 51 17 l = l := xpr_no (by decide +kernel)
theorem r_51_18 : xfetch 51 18 = some (.istore 6, 2) := by decide +kernel
theorem n_51_18 : ∀ l, xpr 51 18 l = l := xpr_no (by decide +kernel)
theorem r_51_20 : xfetch 51 20 = some (.iload 6, 2) := by decide +kernel
theorem r_51_22 : xfetch 51 22 = some (.aload 4, 2) := by decide +kernel
theorem n_51_22 : ∀ l, xpr 51 22 l = l := xpr_no (by decide +kernel)
theorem r_51_24 : xfetch 51 24 = some (.getfield 35, 3) := by decide +kernel
theorem n_51_24 : ∀ l, xpr 51 24 l = l := xpr_no (by decide +kernel)
theorem r_51_27 : xfetch 51 27 = some (.if_icmp .ge 68, 3) := by decide +kernel
theorem n_51_27 : ∀ l, xpr 51 27 l = l := xpr_no (by decide +kernel)
theorem r_51_30 : xfetch 51 30 = some (.aload_n 0, 1) := by decide +kernel
theorem n_51_30 : ∀ l, xpr 51 30 l = l := xpr_no (by decide +kernel)
theorem r_51_31 : xfetch 51 31 = some (.getfield 27, 3) := by decide +kernel
theorem n_51_31 : ∀ l, xpr 51 31 l = l := xpr_no (by decide +kernel)
theorem r_51_34 : xfetch 51 34 = some (.aload 4, 2) := by decide +kernel
theorem n_51_34 : ∀ l, xpr 51 34 l = l := xpr_no (by decide +kernel)
theorem r_51_36 : xfetch 51 36 = some (.getfield 104, 3) := by decide +kernel
theorem n_51_36 : ∀ l, xpr 51 36 l = l := xpr_no (by decide +kernel)
theorem r_51_39 : xfetch 51 39 = some (.iload 6, 2) := by decide +kernel
theorem n_51_39 : ∀ l, xpr 51 39 l = l := xpr_no (by decide +kernel)
theorem r_51_41 : xfetch 51 41 = some (.iaload, 1) := by decide +kernel
theorem n_51_41 : ∀ l, xpr 51 41 l = l := xpr_no (by decide +kernel)
theorem r_51_42 : xfetch 51 42 = some (.iload 5, 2) := by decide +kernel
theorem n_51_42 : ∀ l, xpr 51 42 l = l := xpr_no (by decide +kernel)
theorem r_51_44 : xfetch 51 44 = some (.aload 4, 2) := by decide +kernel
theorem n_51_44 : ∀ l, xpr 51 44 l = l := xpr_no (by decide +kernel)
theorem r_51_46 : xfetch 51 46 = some (.getfield 105, 3) := by decide +kernel
theorem n_51_46 : ∀ l, xpr 51 46 l = l := xpr_no (by decide +kernel)
theorem r_51_49 : xfetch 51 49 = some (.iload 6, 2) := by decide +kernel
theorem n_51_49 : ∀ l, xpr 51 49 l = l := xpr_no (by decide +kernel)
theorem r_51_51 : xfetch 51 51 = some (.iaload, 1) := by decide +kernel
theorem n_51_51 : ∀ l, xpr 51 51 l = l := xpr_no (by decide +kernel)
theorem r_51_52 : xfetch 51 52 = some (.iadd, 1) := by decide +kernel
theorem n_51_52 : ∀ l, xpr 51 52 l = l := xpr_no (by decide +kernel)
theorem r_51_53 : xfetch 51 53 = some (.aload 4, 2) := by decide +kernel
theorem n_51_53 : ∀ l, xpr 51 53 l = l := xpr_no (by decide +kernel)
theorem r_51_55 : xfetch 51 55 = some (.getfield 106, 3) := by decide +kernel
theorem n_51_55 : ∀ l, xpr 51 55 l = l := xpr_no (by decide +kernel)
theorem r_51_58 : xfetch 51 58 = some (.iload 6, 2) := by decide +kernel
theorem n_51_58 : ∀ l, xpr 51 58 l = l := xpr_no (by decide +kernel)
theorem r_51_60 : xfetch 51 60 = some (.iaload, 1) := by decide +kernel
theorem n_51_60 : ∀ l, xpr 51 60 l = l := xpr_no (by decide +kernel)
theorem r_51_61 : xfetch 51 61 = some (.iload_n 2, 1) := by decide +kernel
theorem n_51_61 : ∀ l, xpr 51 61 l = l := xpr_no (by decide +kernel)
theorem r_51_62 : xfetch 51 62 = some (.aload_n 1, 1) := by decide +kernel
theorem n_51_62 : ∀ l, xpr 51 62 l = l := xpr_no (by decide +kernel)
theorem r_51_63 : xfetch 51 63 = some (.getfield 89, 3) := by decide +kernel
theorem n_51_63 : ∀ l, xpr 51 63 l = l := xpr_no (by decide +kernel)
theorem r_51_66 : xfetch 51 66 = some (.iload_n 2, 1) := by decide +kernel
theorem n_51_66 : ∀ l, xpr 51 66 l = l := xpr_no (by decide +kernel)
theorem r_51_67 : xfetch 51 67 = some (.iaload, 1) := by decide +kernel
theorem n_51_67 : ∀ l, xpr 51 67 l = l := xpr_no (by decide +kernel)
theorem r_51_68 : xfetch 51 68 = some (.iload_n 3, 1) := by decide +kernel
theorem n_51_68 : ∀ l, xpr 51 68 l = l := xpr_no (by decide +kernel)
theorem r_51_69 : xfetch 51 69 = some (.aload_n 1, 1) := by decide +kernel
theorem n_51_69 : ∀ l, xpr 51 69 l = l := xpr_no (by decide +kernel)
theorem r_51_70 : xfetch 51 70 = some (.getfield 56, 3) := by decide +kernel
theorem n_51_70 : ∀ l, xpr 51 70 l = l := xpr_no (by decide +kernel)
theorem r_51_73 : xfetch 51 73 = some (.iload_n 2, 1) := by decide +kernel
theorem n_51_73 : ∀ l, xpr 51 73 l = l := xpr_no (by decide +kernel)
theorem r_51_74 : xfetch 51 74 = some (.iaload, 1) := by decide +kernel
theorem n_51_74 : ∀ l, xpr 51 74 l = l := xpr_no (by decide +kernel)
theorem r_51_75 : xfetch 51 75 = some (.aload 4, 2) := by decide +kernel
theorem n_51_75 : ∀ l, xpr 51 75 l = l := xpr_no (by decide +kernel)
theorem r_51_77 : xfetch 51 77 = some (.getfield 107, 3) := by decide +kernel
theorem n_51_77 : ∀ l, xpr 51 77 l = l := xpr_no (by decide +kernel)
theorem r_51_80 : xfetch 51 80 = some (.iload 6, 2) := by decide +kernel
theorem n_51_80 : ∀ l, xpr 51 80 l = l := xpr_no (by decide +kernel)
theorem r_51_82 : xfetch 51 82 = some (.laload, 1) := by decide +kernel
theorem n_51_82 : ∀ l, xpr 51 82 l = l := xpr_no (by decide +kernel)
theorem r_51_83 : xfetch 51 83 = some (.invokestatic 92, 3) := by decide +kernel
theorem n_51_83 : ∀ l, xpr 51 83 l = l := xpr_no (by decide +kernel)
theorem r_51_86 : xfetch 51 86 = some (.invokevirtual 96, 3) := by decide +kernel
theorem n_51_86 : ∀ l, xpr 51 86 l = l := xpr_no (by decide +kernel)
theorem r_51_89 : xfetch 51 89 = some (.iinc 6 1, 3) := by decide +kernel
theorem n_51_89 : ∀ l, xpr 51 89 l = l := xpr_no (by decide +kernel)
theorem r_51_92 : xfetch 51 92 = some (.goto (-72), 3) := by decide +kernel
theorem n_51_92 : ∀ l, xpr 51 92 l = l := xpr_no (by decide +kernel)
theorem r_51_95 : xfetch 51 95 = some (.return_, 1) := by decide +kernel
theorem n_51_95 : ∀ l, xpr 51 95 l = l := xpr_no (by decide +kernel)
theorem v_Shape_addInnerLeaves_0 {S : Option (Nat × (Nat → Int32))} {s : zSt} {Q : Option Value ⊕ Nat → zSt → Prop} {a0 : Int} {a1 : Int} {x2 : Int} {x3 : Int} {a4 : Int} (ha0 : isO a0 4) (ha1 : isO a1 1) (ha4 : isO a4 2)
    (h : (0 ≤ x2 ∧ x2 < 8) ∧ (wp S 51 20 [(0, rf a0), (1, rf a1), (2, iv x2), (3, iv x3), (4, rf a4), (5, iv ((zI s (a0 + 1) x2) + (x3 * (zI s (a0 + 3) x2)))), (6, iv 0)] [] s Q)) :
    wp S 51 0 [(0, rf a0), (1, rf a1), (2, iv x2), (3, iv x3), (4, rf a4)] [] s Q := by
  refine i_aload_n (a := a0) r_51_0 (n_51_0 _) rfl ?_
  refine i_getR (a := a0) (b := a0 + 1) r_51_1 (n_51_1 _) rfl rfl rfl (by omega) ha0 (by omega) ?_
  have t1 := (t_4_0 ha0)
  refine i_iload_n (x := x2) r_51_4 (n_51_4 _) rfl ?_
  obtain ⟨g2, h⟩ := h
  refine i_iaload (a := a0 + 1) (j := x2) r_51_5 (n_51_5 _) t1 ⟨by omega, by omega⟩ (by omega) (by omega) (fun q3 => ?_)
  refine i_iload_n (x := x3) r_51_6 (n_51_6 _) rfl ?_
  refine i_aload_n (a := a0) r_51_7 (n_51_7 _) rfl ?_
  refine i_getR (a := a0) (b := a0 + 3) r_51_8 (n_51_8 _) rfl rfl rfl (by omega) ha0 (by omega) ?_
  have t4 := (t_4_2 ha0)
  refine i_iload_n (x := x2) r_51_11 (n_51_11 _) rfl ?_
  refine i_iaload (a := a0 + 3) (j := x2) r_51_12 (n_51_12 _) t4 ⟨by omega, by omega⟩ (by omega) (by omega) (fun q5 => ?_)
  refine i_imul r_51_13 (n_51_13 _) ?_
  refine i_iadd r_51_14 (n_51_14 _) ?_
  refine i_istore (l' := [(0, rf a0), (1, rf a1), (2, iv x2), (3, iv x3), (4, rf a4), (5, iv ((zI s (a0 + 1) x2) + (x3 * (zI s (a0 + 3) x2))))]) r_51_15 (n_51_15 _) (by decide) rfl ?_
  refine i_iconst r_51_17 (n_51_17 _) ?_
  refine i_istore (l' := [(0, rf a0), (1, rf a1), (2, iv x2), (3, iv x3), (4, rf a4), (5, iv ((zI s (a0 + 1) x2) + (x3 * (zI s (a0 + 3) x2)))), (6, iv 0)]) r_51_18 (n_51_18 _) (by decide) rfl ?_
  exact wp_pr (l' := [(0, rf a0), (1, rf a1), (2, iv x2), (3, iv x3), (4, rf a4), (5, iv ((zI s (a0 + 1) x2) + (x3 * (zI s (a0 + 3) x2)))), (6, iv 0)]) rfl h
theorem v_Shape_addInnerLeaves_20 {S : Option (Nat × (Nat → Int32))} {s : zSt} {Q : Option Value ⊕ Nat → zSt → Prop} {a0 : Int} {a1 : Int} {x2 : Int} {x3 : Int} {a4 : Int} {x5 : Int} {x6 : Int} (ha0 : isO a0 4) (ha1 : isO a1 1) (ha4 : isO a4 2)
    (h : rng x6 ∧ (((zI s a4 0) ≤ x6 → Q rU s) ∧ (x6 < (zI s a4 0) → (0 ≤ x6 ∧ x6 < 40) ∧ ((0 ≤ x2 ∧ x2 < 8) ∧ (wp S 50 0 [(0, rf (a0 + 5)), (1, iv (zI s (a4 + 1) x6)), (2, iv (x5 + (zI s (a4 + 2) x6))), (3, iv (zI s (a4 + 3) x6)), (4, iv x2), (5, .long (zpo (zI s (a1 + 1) x2) x3 (zI s (a1 + 3) x2) (zL s (a4 + 5) x6)))] [] s (fun o19 s19 => zkU (wp S 51 20 [(0, rf a0), (1, rf a1), (2, iv x2), (3, iv x3), (4, rf a4), (5, iv x5), (6, iv (x6 + 1))] [] s19 Q) (fun e19 => False) o19)))))) :
    wp S 51 20 [(0, rf a0), (1, rf a1), (2, iv x2), (3, iv x3), (4, rf a4), (5, iv x5), (6, iv x6)] [] s Q := by
  refine i_iload (x := x6) r_51_20 rfl rfl ?_
  refine i_aload (a := a4) r_51_22 (n_51_22 _) rfl ?_
  refine i_getI (a := a4) r_51_24 (n_51_24 _) rfl (by decide) ha4 (fun q1 => ?_)
  obtain ⟨g2, h⟩ := h
  refine i_icmp (t := 95) r_51_27 (n_51_27 _) rfl (T_ge g2 q1) (fun c3 => ?_) (fun c3 => ?_)
  · replace h := h.1 c3
    exact i_return r_51_95 (n_51_95 _) rfl h
  · replace h := h.2 c3
    refine i_aload_n (a := a0) r_51_30 (n_51_30 _) rfl ?_
    refine i_getR (a := a0) (b := a0 + 5) r_51_31 (n_51_31 _) rfl rfl rfl (by omega) ha0 (by omega) ?_
    have t4 := (t_4_4 ha0)
    refine i_aload (a := a4) r_51_34 (n_51_34 _) rfl ?_
    refine i_getR (a := a4) (b := a4 + 1) r_51_36 (n_51_36 _) rfl rfl rfl (by omega) ha4 (by omega) ?_
    have t5 := (t_2_1 ha4)
    refine i_iload (x := x6) r_51_39 (n_51_39 _) rfl ?_
    obtain ⟨g6, h⟩ := h
    refine i_iaload (a := a4 + 1) (j := x6) r_51_41 (n_51_41 _) t5 ⟨by omega, by omega⟩ (by omega) (by omega) (fun q7 => ?_)
    refine i_iload (x := x5) r_51_42 (n_51_42 _) rfl ?_
    refine i_aload (a := a4) r_51_44 (n_51_44 _) rfl ?_
    refine i_getR (a := a4) (b := a4 + 2) r_51_46 (n_51_46 _) rfl rfl rfl (by omega) ha4 (by omega) ?_
    have t8 := (t_2_2 ha4)
    refine i_iload (x := x6) r_51_49 (n_51_49 _) rfl ?_
    refine i_iaload (a := a4 + 2) (j := x6) r_51_51 (n_51_51 _) t8 ⟨by omega, by omega⟩ (by omega) (by omega) (fun q9 => ?_)
    refine i_iadd r_51_52 (n_51_52 _) ?_
    refine i_aload (a := a4) r_51_53 (n_51_53 _) rfl ?_
    refine i_getR (a := a4) (b := a4 + 3) r_51_55 (n_51_55 _) rfl rfl rfl (by omega) ha4 (by omega) ?_
    have t10 := (t_2_3 ha4)
    refine i_iload (x := x6) r_51_58 (n_51_58 _) rfl ?_
    refine i_iaload (a := a4 + 3) (j := x6) r_51_60 (n_51_60 _) t10 ⟨by omega, by omega⟩ (by omega) (by omega) (fun q11 => ?_)
    refine i_iload_n (x := x2) r_51_61 (n_51_61 _) rfl ?_
    refine i_aload_n (a := a1) r_51_62 (n_51_62 _) rfl ?_
    refine i_getR (a := a1) (b := a1 + 1) r_51_63 (n_51_63 _) rfl rfl rfl (by omega) ha1 (by omega) ?_
    have t12 := (t_1_2 ha1)
    refine i_iload_n (x := x2) r_51_66 (n_51_66 _) rfl ?_
    obtain ⟨g13, h⟩ := h
    refine i_iaload (a := a1 + 1) (j := x2) r_51_67 (n_51_67 _) t12 ⟨by omega, by omega⟩ (by omega) (by omega) (fun q14 => ?_)
    refine i_iload_n (x := x3) r_51_68 (n_51_68 _) rfl ?_
    refine i_aload_n (a := a1) r_51_69 (n_51_69 _) rfl ?_
    refine i_getR (a := a1) (b := a1 + 3) r_51_70 (n_51_70 _) rfl rfl rfl (by omega) ha1 (by omega) ?_
    have t15 := (t_1_4 ha1)
    refine i_iload_n (x := x2) r_51_73 (n_51_73 _) rfl ?_
    refine i_iaload (a := a1 + 3) (j := x2) r_51_74 (n_51_74 _) t15 ⟨by omega, by omega⟩ (by omega) (by omega) (fun q16 => ?_)
    refine i_aload (a := a4) r_51_75 (n_51_75 _) rfl ?_
    refine i_getR (a := a4) (b := a4 + 5) r_51_77 (n_51_77 _) rfl rfl rfl (by omega) ha4 (by omega) ?_
    have t17 := (t_2_5 ha4)
    refine i_iload (x := x6) r_51_80 (n_51_80 _) rfl ?_
    refine i_laload (a := a4 + 5) (j := x6) r_51_82 (n_51_82 _) t17 ⟨by omega, by omega⟩ (by omega) (by omega) ?_
    refine wp_stat (rest := [iv x2, iv (zI s (a4 + 3) x6), iv (x5 + (zI s (a4 + 2) x6)), iv (zI s (a4 + 1) x6), rf (a0 + 5)]) (Ls := [(0, iv (zI s (a1 + 1) x2)), (1, iv x3), (2, iv (zI s (a1 + 3) x2)), (3, .long (zL s (a4 + 5) x6))]) r_51_83 (n_51_83 _) rfl ⟨rfl, by decide, by decide, by decide⟩ rfl rfl ⟨rfl, Nat.le_of_ble_eq_true rfl, Nat.le_of_ble_eq_true rfl⟩ rfl (K_RL_pathOf q16) ?_
    rintro _ _ ⟨rfl, rfl⟩
    refine .inl ⟨some (.long (zpo (zI s (a1 + 1) x2) x3 (zI s (a1 + 3) x2) (zL s (a4 + 5) x6))), rfl, ?_⟩
    show wp S 51 86 [(0, rf a0), (1, rf a1), (2, iv x2), (3, iv x3), (4, rf a4), (5, iv x5), (6, iv x6)] [.long (zpo (zI s (a1 + 1) x2) x3 (zI s (a1 + 3) x2) (zL s (a4 + 5) x6)), iv x2, iv (zI s (a4 + 3) x6), iv (x5 + (zI s (a4 + 2) x6)), iv (zI s (a4 + 1) x6), rf (a0 + 5)] s Q
    refine wp_virt (b := a0 + 5) (rest := []) (Ls := [(0, rf (a0 + 5)), (1, iv (zI s (a4 + 1) x6)), (2, iv (x5 + (zI s (a4 + 2) x6))), (3, iv (zI s (a4 + 3) x6)), (4, iv x2), (5, .long (zpo (zI s (a1 + 1) x2) x3 (zI s (a1 + 3) x2) (zL s (a4 + 5) x6)))]) r_51_86 (n_51_86 _) rfl ⟨rfl, rfl, by decide, by decide⟩ rfl rfl t4 ⟨rfl, Nat.le_of_ble_eq_true rfl, Nat.le_of_ble_eq_true rfl⟩ rfl h ?_
    intro o19 s19 h
    rcases h with ⟨rfl, h⟩ | ⟨e19, rfl, h⟩
    · refine .inl ⟨none, rfl, ?_⟩
      refine i_iinc (x := x6) (l' := [(0, rf a0), (1, rf a1), (2, iv x2), (3, iv x3), (4, rf a4), (5, iv x5), (6, iv (x6 + 1))]) r_51_89 (n_51_89 _) (by decide) rfl rfl ?_
      refine i_goto (t := 20) r_51_92 (n_51_92 _) rfl ?_
      exact wp_pr (l' := [(0, rf a0), (1, rf a1), (2, iv x2), (3, iv x3), (4, rf a4), (5, iv x5), (6, iv (x6 + 1))]) rfl h
    · skip
      exact h.elim
theorem r_53_0 : xfetch 53 0 = some (.aload_n 0, 1) := by decide +kernel
theorem n_53_0 : ∀ l, xpr 53 0 l = l := xpr_no (by decide +kernel)
theorem r_53_1 : xfetch 53 1 = some (.iload_n 1, 1) := by decide +kernel
theorem n_53_1 : ∀ l, xpr 53 1 l = l := xpr_no (by decide +kernel)
theorem r_53_2 : xfetch 53 2 = some (.invokevirtual 95, 3) := by decide +kernel
theorem n_53_2 : ∀ l, xpr 53 2 l = l := xpr_no (by decide +kernel)
theorem r_53_5 : xfetch 53 5 = some (.aload_n 0, 1) := by decide +kernel
theorem n_53_5 : ∀ l, xpr 53 5 l = l := xpr_no (by decide +kernel)
theorem r_53_6 : xfetch 53 6 = some (.getfield 10, 3) := by decide +kernel
theorem n_53_6 : ∀ l, xpr 53 6 l = l := xpr_no (by decide +kernel)
theorem r_53_9 : xfetch 53 9 = some (.getfield 83, 3) := by decide +kernel
theorem n_53_9 : ∀ l, xpr 53 9 l = l := xpr_no (by decide +kernel)
theorem r_53_12 : xfetch 53 12 = some (.iload_n 1, 1) := by decide +kernel
theorem n_53_12 : ∀ l, xpr 53 12 l = l := xpr_no (by decide +kernel)
theorem r_53_13 : xfetch 53 13 = some (.aaload, 1) := by decide +kernel
theorem n_53_13 : ∀ l, xpr 53 13 l = l := xpr_no (by decide +kernel)
theorem r_53_14 : xfetch 53 14 = some (.astore 5, 2) := by decide +kernel
theorem n_53_14 : ∀ l, xpr 53 14 l = l := xpr_no (by decide +kernel)
theorem r_53_16 : xfetch 53 16 = some (.iload_n 2, 1) := by decide +kernel
theorem n_53_16 : ∀ l, xpr 53 16 l = l := xpr_no (by decide +kernel)
theorem r_53_17 : xfetch 53 17 = some (.bipush 97, 2) := by decide +kernel
theorem n_53_17 : ∀ l, xpr 53 17 l = l := xpr_no (by decide +kernel)
theorem r_53_19 : xfetch 53 19 = some (.if_icmp .lt 18, 3) := by decide +kernel
theorem n_53_19 : ∀ l, xpr 53 19 l = l := xpr_no (by decide +kernel)
theorem r_53_22 : xfetch 53 22 = some (.iload_n 2, 1) := by decide +kernel
theorem n_53_22 : ∀ l, xpr 53 22 l = l := xpr_no (by decide +kernel)
theorem r_53_23 : xfetch 53 23 = some (.bipush 122, 2) := by decide +kernel
theorem n_53_23 : ∀ l, xpr 53 23 l = l := xpr_no (by decide +kernel)
theorem r_53_25 : xfetch 53 25 = some (.if_icmp .gt 12, 3) := by decide +kernel
theorem n_53_25 : ∀ l, xpr 53 25 l = l := xpr_no (by decide +kernel)
theorem r_53_28 : xfetch 53 28 = some (.aload 5, 2) := by decide +kernel
theorem n_53_28 : ∀ l, xpr 53 28 l = l := xpr_no (by decide +kernel)
theorem r_53_30 : xfetch 53 30 = some (.iload_n 2, 1) := by decide +kernel
theorem n_53_30 : ∀ l, xpr 53 30 l = l := xpr_no (by decide +kernel)
theorem r_53_31 : xfetch 53 31 = some (.invokevirtual 98, 3) := by decide +kernel
theorem n_53_31 : ∀ l, xpr 53 31 l = l := xpr_no (by decide +kernel)
theorem r_53_34 : xfetch 53 34 = some (.ifCond .eq 13, 3) := by decide +kernel
theorem n_53_34 : ∀ l, xpr 53 34 l = l := xpr_no (by decide +kernel)
theorem r_53_37 : xfetch 53 37 = some (.new 102, 3) := by decide +kernel
theorem n_53_37 : ∀ l, xpr 53 37 l = l := xpr_no (by decide +kernel)
theorem r_53_47 : xfetch 53 47 = some (.aload_n 0, 1) := by decide +kernel
theorem n_53_47 : ∀ l, xpr 53 47 l = l := xpr_no (by decide +kernel)
theorem r_53_48 : xfetch 53 48 = some (.iload_n 1, 1) := by decide +kernel
theorem n_53_48 : ∀ l, xpr 53 48 l = l := xpr_no (by decide +kernel)
theorem r_53_49 : xfetch 53 49 = some (.iload_n 3, 1) := by decide +kernel
theorem n_53_49 : ∀ l, xpr 53 49 l = l := xpr_no (by decide +kernel)
theorem r_53_50 : xfetch 53 50 = some (.invokevirtual 109, 3) := by decide +kernel
theorem n_53_50 : ∀ l, xpr 53 50 l = l := xpr_no (by decide +kernel)
theorem r_53_53 : xfetch 53 53 = some (.ifCond .ne 13, 3) := by decide +kernel
theorem n_53_53 : ∀ l, xpr 53 53 l = l := xpr_no (by decide +kernel)
theorem r_53_56 : xfetch 53 56 = some (.new 102, 3) := by decide +kernel
theorem n_53_56 : ∀ l, xpr 53 56 l = l := xpr_no (by decide +kernel)
theorem r_53_66 : xfetch 53 66 = some (.iload 4, 2) := by decide +kernel
theorem n_53_66 : ∀ l, xpr 53 66 l = l := xpr_no (by decide +kernel)
theorem r_53_68 : xfetch 53 68 = some (.iconst 1, 1) := by decide +kernel
theorem n_53_68 : ∀ l, xpr 53 68 l = l := xpr_no (by decide +kernel)
theorem r_53_69 : xfetch 53 69 = some (.if_icmp .lt 20, 3) := by decide +kernel
theorem n_53_69 : ∀ l, xpr 53 69 l = l := xpr_no (by decide +kernel)
theorem r_53_72 : xfetch 53 72 = some (.iload 4, 2) := by decide +kernel
theorem n_53_72 : ∀ l, xpr 53 72 l = l := xpr_no (by decide +kernel)
theorem r_53_74 : xfetch 53 74 = some (.iload_n 3, 1) := by decide +kernel
theorem n_53_74 : ∀ l, xpr 53 74 l = l := xpr_no (by decide +kernel)
theorem r_53_75 : xfetch 53 75 = some (.invokestatic 115, 3) := by decide +kernel
theorem n_53_75 : ∀ l, xpr 53 75 l = l := xpr_no (by decide +kernel)
theorem r_53_78 : xfetch 53 78 = some (.ifCond .eq 7, 3) := by decide +kernel
theorem n_53_78 : ∀ l, xpr 53 78 l = l := xpr_no (by decide +kernel)
theorem r_53_81 : xfetch 53 81 = some (.iconst 1, 1) := by decide +kernel
theorem n_53_81 : ∀ l, xpr 53 81 l = l := xpr_no (by decide +kernel)
theorem r_53_82 : xfetch 53 82 = some (.goto 4, 3) := by decide +kernel
theorem n_53_82 : ∀ l, xpr 53 82 l = l := xpr_no (by decide +kernel)
theorem r_53_85 : xfetch 53 85 = some (.iconst 4, 1) := by decide +kernel
theorem n_53_85 : ∀ l, xpr 53 85 l = l := xpr_no (by decide +kernel)
theorem r_53_86 : xfetch 53 86 = some (.if_icmp .le 13, 3) := by decide +kernel
theorem n_53_86 : ∀ l, xpr 53 86 l = l := xpr_no (by decide +kernel)
theorem r_53_89 : xfetch 53 89 = some (.new 102, 3) := by decide +kernel
theorem n_53_89 : ∀ l, xpr 53 89 l = l := xpr_no (by decide +kernel)
theorem r_53_99 : xfetch 53 99 = some (.aload_n 0, 1) := by decide +kernel
theorem n_53_99 : ∀ l, xpr 53 99 l = l := xpr_no (by decide +kernel)
theorem r_53_100 : xfetch 53 100 = some (.getfield 18, 3) := by decide +kernel
theorem n_53_100 : ∀ l, xpr 53 100 l = l := xpr_no (by decide +kernel)
theorem r_53_103 : xfetch 53 103 = some (.iload_n 1, 1) := by decide +kernel
theorem n_53_103 : ∀ l, xpr 53 103 l = l := xpr_no (by decide +kernel)
theorem r_53_104 : xfetch 53 104 = some (.aaload, 1) := by decide +kernel
theorem n_53_104 : ∀ l, xpr 53 104 l = l := xpr_no (by decide +kernel)
theorem r_53_105 : xfetch 53 105 = some (.getfield 120, 3) := by decide +kernel
theorem n_53_105 : ∀ l, xpr 53 105 l = l := xpr_no (by decide +kernel)
theorem r_53_108 : xfetch 53 108 = some (.getfield 124, 3) := by decide +kernel
theorem n_53_108 : ∀ l, xpr 53 108 l = l := xpr_no (by decide +kernel)
theorem r_53_111 : xfetch 53 111 = some (.iload 4, 2) := by decide +kernel
theorem n_53_111 : ∀ l, xpr 53 111 l = l := xpr_no (by decide +kernel)
theorem r_53_113 : xfetch 53 113 = some (.aload_n 0, 1) := by decide +kernel
theorem n_53_113 : ∀ l, xpr 53 113 l = l := xpr_no (by decide +kernel)
theorem r_53_114 : xfetch 53 114 = some (.iload_n 3, 1) := by decide +kernel
theorem n_53_114 : ∀ l, xpr 53 114 l = l := xpr_no (by decide +kernel)
theorem r_53_115 : xfetch 53 115 = some (.invokevirtual 129, 3) := by decide +kernel
theorem n_53_115 : ∀ l, xpr 53 115 l = l := xpr_no (by decide +kernel)
theorem r_53_118 : xfetch 53 118 = some (.imul, 1) := by decide +kernel
theorem n_53_118 : ∀ l, xpr 53 118 l = l := xpr_no (by decide +kernel)
theorem r_53_119 : xfetch 53 119 = some (.iadd, 1) := by decide +kernel
theorem n_53_119 : ∀ l, xpr 53 119 l = l := xpr_no (by decide +kernel)
theorem r_53_120 : xfetch 53 120 = some (.istore 6, 2) := by decide +kernel
theorem n_53_120 : ∀ l, xpr 53 120 l = l := xpr_no (by decide +kernel)
theorem r_53_122 : xfetch 53 122 = some (.aload 5, 2) := by decide +kernel
theorem n_53_122 : ∀ l, xpr 53 122 l = l := xpr_no (by decide +kernel)
theorem r_53_124 : xfetch 53 124 = some (.getfield 133, 3) := by decide +kernel
theorem n_53_124 : ∀ l, xpr 53 124 l = l := xpr_no (by decide +kernel)
theorem r_53_127 : xfetch 53 127 = some (.bipush 8, 2) := by decide +kernel
theorem n_53_127 : ∀ l, xpr 53 127 l = l := xpr_no (by decide +kernel)
theorem r_53_129 : xfetch 53 129 = some (.if_icmp .ge 18, 3) := by decide +kernel
theorem n_53_129 : ∀ l, xpr 53 129 l = l := xpr_no (by decide +kernel)
theorem r_53_132 : xfetch 53 132 = some (.aload_n 0, 1) := by decide +kernel
theorem n_53_132 : ∀ l, xpr 53 132 l = l := xpr_no (by decide +kernel)
theorem r_53_133 : xfetch 53 133 = some (.iload_n 1, 1) := by decide +kernel
theorem n_53_133 : ∀ l, xpr 53 133 l = l := xpr_no (by decide +kernel)
theorem r_53_134 : xfetch 53 134 = some (.invokevirtual 134, 3) := by decide +kernel
theorem n_53_134 : ∀ l, xpr 53 134 l = l := xpr_no (by decide +kernel)
theorem r_53_137 : xfetch 53 137 = some (.ifCond .ne 10, 3) := by decide +kernel
theorem n_53_137 : ∀ l, xpr 53 137 l = l := xpr_no (by decide +kernel)
theorem r_53_140 : xfetch 53 140 = some (.iload 6, 2) := by decide +kernel
theorem n_53_140 : ∀ l, xpr 53 140 l = l := xpr_no (by decide +kernel)
theorem r_53_142 : xfetch 53 142 = some (.bipush 40, 2) := by decide +kernel
theorem n_53_142 : ∀ l, xpr 53 142 l = l := xpr_no (by decide +kernel)
theorem r_53_144 : xfetch 53 144 = some (.if_icmp .le 13, 3) := by decide +kernel
theorem n_53_144 : ∀ l, xpr 53 144 l = l := xpr_no (by decide +kernel)
theorem r_53_147 : xfetch 53 147 = some (.new 137, 3) := by decide +kernel
theorem n_53_147 : ∀ l, xpr 53 147 l = l := xpr_no (by decide +kernel)
theorem r_53_157 : xfetch 53 157 = some (.aload_n 0, 1) := by decide +kernel
theorem n_53_157 : ∀ l, xpr 53 157 l = l := xpr_no (by decide +kernel)
theorem r_53_158 : xfetch 53 158 = some (.invokevirtual 77, 3) := by decide +kernel
theorem n_53_158 : ∀ l, xpr 53 158 l = l := xpr_no (by decide +kernel)
theorem r_53_161 : xfetch 53 161 = some (.aload 5, 2) := by decide +kernel
theorem n_53_161 : ∀ l, xpr 53 161 l = l := xpr_no (by decide +kernel)
theorem r_53_163 : xfetch 53 163 = some (.iload_n 2, 1) := by decide +kernel
theorem n_53_163 : ∀ l, xpr 53 163 l = l := xpr_no (by decide +kernel)
theorem r_53_164 : xfetch 53 164 = some (.iload_n 3, 1) := by decide +kernel
theorem n_53_164 : ∀ l, xpr 53 164 l = l := xpr_no (by decide +kernel)
theorem r_53_165 : xfetch 53 165 = some (.iload 4, 2) := by decide +kernel
theorem n_53_165 : ∀ l, xpr 53 165 l = l := xpr_no (by decide +kernel)
theorem r_53_167 : xfetch 53 167 = some (.invokevirtual 142, 3) := by decide +kernel
theorem n_53_167 : ∀ l, xpr 53 167 l = l := xpr_no (by decide +kernel)
theorem r_53_170 : xfetch 53 170 = some (.aload_n 0, 1) := by decide +kernel
theorem n_53_170 : ∀ l, xpr 53 170 l = l := xpr_no (by decide +kernel)
theorem r_53_171 : xfetch 53 171 = some (.iload_n 1, 1) := by decide +kernel
theorem n_53_171 : ∀ l, xpr 53 171 l = l := xpr_no (by decide +kernel)
theorem r_53_172 : xfetch 53 172 = some (.aload 5, 2) := by decide +kernel
theorem n_53_172 : ∀ l, xpr 53 172 l = l := xpr_no (by decide +kernel)
theorem r_53_174 : xfetch 53 174 = some (.getfield 133, 3) := by decide +kernel
theorem n_53_174 : ∀ l, xpr 53 174 l = l := xpr_no (by decide +kernel)
theorem r_53_177 : xfetch 53 177 = some (.iconst 1, 1) := by decide +kernel
theorem n_53_177 : ∀ l, xpr 53 177 l = l := xpr_no (by decide +kernel)
theorem r_53_178 : xfetch 53 178 = some (.isub, 1) := by decide +kernel
theorem n_53_178 : ∀ l, xpr 53 178 l = l := xpr_no (by decide +kernel)
theorem r_53_179 : xfetch 53 179 = some (.invokevirtual 146, 3) := by decide +kernel
theorem n_53_179 : ∀ l, xpr 53 179 l = l := xpr_no (by decide +kernel)
theorem r_53_182 : xfetch 53 182 = some (.aload 5, 2) := by decide +kernel
theorem n_53_182 : ∀ l, xpr 53 182 l = l := xpr_no (by decide +kernel)
theorem r_53_184 : xfetch 53 184 = some (.getfield 133, 3) := by decide +kernel
theorem n_53_184 : ∀ l, xpr 53 184 l = l := xpr_no (by decide +kernel)
theorem r_53_187 : xfetch 53 187 = some (.ireturn, 1) := by decide +kernel
theorem n_53_187 : ∀ l, xpr 53 187 l = l := xpr_no (by decide +kernel)
theorem v_RL_addField_0 {S : Option (Nat × (Nat → Int32))} {s : zSt} {Q : Option Value ⊕ Nat → zSt → Prop} {x1 : Int} {x2 : Int} {x3 : Int} {x4 : Int} 
    (h : rng x1 ∧ ((0 ≤ x1 ∧ x1 < zI s 3 0 → (0 ≤ x1 ∧ x1 < 6) ∧ (rng x2 ∧ ((x2 < 97 → Q (rT 0) (zbump s)) ∧ (97 ≤ x2 → (122 < x2 → Q (rT 0) (zbump s)) ∧ (x2 ≤ 122 → wp S 55 0 [(0, rf (7 + 4 * x1)), (1, iv x2)] [] s (fun o8 s8 => zkI (fun y8 => (y8 = 0 → rng x3 ∧ ((x1 < 1000) ∧ ((0 ≤ x3 - 100 → x3 - 100 < x1 → x3 - 100 < 6) ∧ (((0 ≤ x3 ∧ x3 ≤ 7) ∨ (20 < x3 ∧ x3 ≤ 36) ∨ (0 ≤ x3 - 100 ∧ x3 - 100 < x1 ∧ 0 < zI s8 (7 + 4 * (x3 - 100)) 1) → rng x4 ∧ ((x4 < 1 → Q (rT 0) (zbump s8)) ∧ (1 ≤ x4 → (¬ (20 < x3 ∧ x3 ≤ 36) → (x4 ≤ 4 → wp S 57 0 [(0, rf 2), (1, iv x3)] [] s8 (fun o24 s24 => zkI (fun y24 => (8 ≤ (zI s24 (7 + 4 * x1) 1) → Q (rT 1) (zbump s24)) ∧ ((zI s24 (7 + 4 * x1) 1) < 8 → wp S 30 0 [(0, rf 2), (1, iv x1)] [] s24 (fun o28 s28 => zkI (fun y28 => (y28 ≠ 0 → Q (rT 1) (zbump s28)) ∧ (y28 = 0 → rng ((zI s8 (67 + 11 * x1) 0) + (x4 * y24)) ∧ ((((zI s8 (67 + 11 * x1) 0) + (x4 * y24)) ≤ 40 → wp S 18 0 [(0, rf 2)] [] s28 (fun o33 s33 => zkU (wp S 21 0 [(0, rf (7 + 4 * x1)), (1, iv x2), (2, iv x3), (3, iv x4)] [] s33 (fun o35 s35 => zkU (wp S 41 0 [(0, rf 2), (1, iv x1), (2, iv ((zI s35 (7 + 4 * x1) 1) - 1))] [] s35 (fun o38 s38 => zkU (Q (rI (zI s38 (7 + 4 * x1) 1)) s38) (fun e38 => False) o38)) (fun e35 => False) o35)) (fun e33 => False) o33)) ∧ (40 < ((zI s8 (67 + 11 * x1) 0) + (x4 * y24)) → Q (rT 1) (zbump s28))))) (fun e28 => False) o28))) (fun e24 => False) o24)) ∧ (4 < x4 → Q (rT 0) (zbump s8))) ∧ (20 < x3 ∧ x3 ≤ 36 → (x4 ≤ 1 → wp S 57 0 [(0, rf 2), (1, iv x3)] [] s8 (fun o45 s45 => zkI (fun y45 => (8 ≤ (zI s45 (7 + 4 * x1) 1) → Q (rT 1) (zbump s45)) ∧ ((zI s45 (7 + 4 * x1) 1) < 8 → wp S 30 0 [(0, rf 2), (1, iv x1)] [] s45 (fun o49 s49 => zkI (fun y49 => (y49 ≠ 0 → Q (rT 1) (zbump s49)) ∧ (y49 = 0 → rng ((zI s8 (67 + 11 * x1) 0) + (x4 * y45)) ∧ ((((zI s8 (67 + 11 * x1) 0) + (x4 * y45)) ≤ 40 → wp S 18 0 [(0, rf 2)] [] s49 (fun o54 s54 => zkU (wp S 21 0 [(0, rf (7 + 4 * x1)), (1, iv x2), (2, iv x3), (3, iv x4)] [] s54 (fun o56 s56 => zkU (wp S 41 0 [(0, rf 2), (1, iv x1), (2, iv ((zI s56 (7 + 4 * x1) 1) - 1))] [] s56 (fun o59 s59 => zkU (Q (rI (zI s59 (7 + 4 * x1) 1)) s59) (fun e59 => False) o59)) (fun e56 => False) o56)) (fun e54 => False) o54)) ∧ (40 < ((zI s8 (67 + 11 * x1) 0) + (x4 * y45)) → Q (rT 1) (zbump s49))))) (fun e49 => False) o49))) (fun e45 => False) o45)) ∧ (1 < x4 → Q (rT 0) (zbump s8)))))) ∧ (¬ ((0 ≤ x3 ∧ x3 ≤ 7) ∨ (20 < x3 ∧ x3 ≤ 36) ∨ (0 ≤ x3 - 100 ∧ x3 - 100 < x1 ∧ 0 < zI s8 (7 + 4 * (x3 - 100)) 1)) → Q (rT 0) (zbump s8)))))) ∧ (y8 ≠ 0 → Q (rT 0) (zbump s8))) (fun e8 => False) o8)))))) ∧ ((¬ (0 ≤ x1 ∧ x1 < zI s 3 0) → Q (rT 2) (zbump s))))) :
    wp S 53 0 [(0, rf 2), (1, iv x1), (2, iv x2), (3, iv x3), (4, iv x4)] [] s Q := by
  refine i_aload_n (a := 2) r_53_0 (n_53_0 _) rfl ?_
  refine i_iload_n (x := x1) r_53_1 (n_53_1 _) rfl ?_
  obtain ⟨g1, h⟩ := h
  refine wp_virt (b := 2) (rest := []) (Ls := [(0, rf 2), (1, iv x1)]) r_53_2 (n_53_2 _) rfl ⟨rfl, rfl, by decide, by decide⟩ rfl rfl lf_2 ⟨rfl, Nat.le_of_ble_eq_true rfl, Nat.le_of_ble_eq_true rfl⟩ rfl (K_RL_checkRecord g1) ?_
  rintro _ _ (⟨c2, rfl, rfl⟩ | ⟨c2, rfl, rfl⟩)
  · replace h := h.1 c2
    refine .inl ⟨none, rfl, ?_⟩
    show wp S 53 5 [(0, rf 2), (1, iv x1), (2, iv x2), (3, iv x3), (4, iv x4)] [] s Q
    refine i_aload_n (a := 2) r_53_5 (n_53_5 _) rfl ?_
    refine i_getR (a := 2) (b := 3) r_53_6 (n_53_6 _) rfl rfl rfl (by omega) lf_2 (by omega) ?_
    refine i_getR (a := 3) (b := 4) r_53_9 (n_53_9 _) rfl rfl rfl (by omega) lf_3 (by omega) ?_
    refine i_iload_n (x := x1) r_53_12 (n_53_12 _) rfl ?_
    obtain ⟨g3, h⟩ := h
    refine i_aaload (c := 1) (a := 4) (j := x1) (b := 7 + 4 * x1) r_53_13 (n_53_13 _) lf_4 ⟨by omega, by omega⟩ (by omega) (by omega) rfl (by omega) ?_
    have t4 := e_1 (j := x1) lf_4 (by omega) (by omega)
    rw [show 4 + 3 + 4 * x1 = 7 + 4 * x1 by omega] at t4
    refine i_astore (l' := [(0, rf 2), (1, iv x1), (2, iv x2), (3, iv x3), (4, iv x4), (5, rf (7 + 4 * x1))]) r_53_14 (n_53_14 _) (by decide) rfl ?_
    refine i_iload_n (x := x2) r_53_16 (n_53_16 _) rfl ?_
    refine i_bipush r_53_17 (n_53_17 _) rfl ?_
    obtain ⟨g5, h⟩ := h
    refine i_icmp (t := 37) r_53_19 (n_53_19 _) rfl (T_lt g5 ⟨by omega, by omega⟩) (fun c6 => ?_) (fun c6 => ?_)
    · replace h := h.1 c6
      exact i_throw r_53_37 (n_53_37 _) rfl (by decide) h
    · replace h := h.2 c6
      refine i_iload_n (x := x2) r_53_22 (n_53_22 _) rfl ?_
      refine i_bipush r_53_23 (n_53_23 _) rfl ?_
      refine i_icmp (t := 37) r_53_25 (n_53_25 _) rfl (T_gt g5 ⟨by omega, by omega⟩) (fun c7 => ?_) (fun c7 => ?_)
      · replace h := h.1 c7
        exact i_throw r_53_37 (n_53_37 _) rfl (by decide) h
      · replace h := h.2 c7
        refine i_aload (a := 7 + 4 * x1) r_53_28 (n_53_28 _) rfl ?_
        refine i_iload_n (x := x2) r_53_30 (n_53_30 _) rfl ?_
        refine wp_virt (b := 7 + 4 * x1) (rest := []) (Ls := [(0, rf (7 + 4 * x1)), (1, iv x2)]) r_53_31 (n_53_31 _) rfl ⟨rfl, rfl, by decide, by decide⟩ rfl rfl t4 ⟨rfl, Nat.le_of_ble_eq_true rfl, Nat.le_of_ble_eq_true rfl⟩ rfl h ?_
        intro o8 s8 h
        rcases h with ⟨y8, q9, rfl, h⟩ | ⟨e8, rfl, h⟩
        · refine .inl ⟨some (iv y8), rfl, ?_⟩
          show wp S 53 34 [(0, rf 2), (1, iv x1), (2, iv x2), (3, iv x3), (4, iv x4), (5, rf (7 + 4 * x1))] [iv y8] s8 Q
          refine i_if (t := 47) r_53_34 (n_53_34 _) rfl (T_eq q9 ⟨by omega, by omega⟩) (fun c10 => ?_) (fun c10 => ?_)
          · replace h := h.1 c10
            refine i_aload_n (a := 2) r_53_47 (n_53_47 _) rfl ?_
            refine i_iload_n (x := x1) r_53_48 (n_53_48 _) rfl ?_
            refine i_iload_n (x := x3) r_53_49 (n_53_49 _) rfl ?_
            obtain ⟨g11, h⟩ := h
            obtain ⟨g12, h⟩ := h
            obtain ⟨g13, h⟩ := h
            refine wp_virt (b := 2) (rest := []) (Ls := [(0, rf 2), (1, iv x1), (2, iv x3)]) r_53_50 (n_53_50 _) rfl ⟨rfl, rfl, by decide, by decide⟩ rfl rfl lf_2 ⟨rfl, Nat.le_of_ble_eq_true rfl, Nat.le_of_ble_eq_true rfl⟩ rfl (K_RL_canBeTypeIn g11 g1 g12 g13) ?_
            rintro _ _ ⟨rfl, rfl⟩
            refine .inl ⟨some (iv (bi ((0 ≤ x3 ∧ x3 ≤ 7) ∨ (20 < x3 ∧ x3 ≤ 36) ∨ (0 ≤ x3 - 100 ∧ x3 - 100 < x1 ∧ 0 < zI s8 (7 + 4 * (x3 - 100)) 1)))), rfl, ?_⟩
            show wp S 53 53 [(0, rf 2), (1, iv x1), (2, iv x2), (3, iv x3), (4, iv x4), (5, rf (7 + 4 * x1))] [iv (bi ((0 ≤ x3 ∧ x3 ≤ 7) ∨ (20 < x3 ∧ x3 ≤ 36) ∨ (0 ≤ x3 - 100 ∧ x3 - 100 < x1 ∧ 0 < zI s8 (7 + 4 * (x3 - 100)) 1)))] s8 Q
            refine i_if (t := 66) r_53_53 (n_53_53 _) rfl (TB_ne) (fun c15 => ?_) (fun c15 => ?_)
            · replace h := h.1 c15
              refine i_iload (x := x4) r_53_66 (n_53_66 _) rfl ?_
              refine i_iconst r_53_68 (n_53_68 _) ?_
              obtain ⟨g16, h⟩ := h
              refine i_icmp (t := 89) r_53_69 (n_53_69 _) rfl (T_lt g16 ⟨by omega, by omega⟩) (fun c17 => ?_) (fun c17 => ?_)
              · replace h := h.1 c17
                exact i_throw r_53_89 (n_53_89 _) rfl (by decide) h
              · replace h := h.2 c17
                refine i_iload (x := x4) r_53_72 (n_53_72 _) rfl ?_
                refine i_iload_n (x := x3) r_53_74 (n_53_74 _) rfl ?_
                refine wp_stat (rest := [iv x4]) (Ls := [(0, iv x3)]) r_53_75 (n_53_75 _) rfl ⟨rfl, by decide, by decide, by decide⟩ rfl rfl ⟨rfl, Nat.le_of_ble_eq_true rfl, Nat.le_of_ble_eq_true rfl⟩ rfl (K_RL_isBits g11) ?_
                rintro _ _ ⟨rfl, rfl⟩
                refine .inl ⟨some (iv (bi (20 < x3 ∧ x3 ≤ 36))), rfl, ?_⟩
                show wp S 53 78 [(0, rf 2), (1, iv x1), (2, iv x2), (3, iv x3), (4, iv x4), (5, rf (7 + 4 * x1))] [iv (bi (20 < x3 ∧ x3 ≤ 36)), iv x4] s8 Q
                refine i_if (t := 85) r_53_78 (n_53_78 _) rfl (TB_eq) (fun c19 => ?_) (fun c19 => ?_)
                · replace h := h.1 c19
                  refine i_iconst r_53_85 (n_53_85 _) ?_
                  refine i_icmp (t := 99) r_53_86 (n_53_86 _) rfl (T_le g16 ⟨by omega, by omega⟩) (fun c20 => ?_) (fun c20 => ?_)
                  · replace h := h.1 c20
                    refine i_aload_n (a := 2) r_53_99 (n_53_99 _) rfl ?_
                    refine i_getR (a := 2) (b := 34) r_53_100 (n_53_100 _) rfl rfl rfl (by omega) lf_2 (by omega) ?_
                    refine i_iload_n (x := x1) r_53_103 (n_53_103 _) rfl ?_
                    refine i_aaload (c := 4) (a := 34) (j := x1) (b := 62 + 11 * x1) r_53_104 (n_53_104 _) lf_34 ⟨by omega, by omega⟩ (by omega) (by omega) rfl (by omega) ?_
                    have t21 := e_4 (j := x1) lf_34 (by omega) (by omega)
                    rw [show 34 + 28 + 11 * x1 = 62 + 11 * x1 by omega] at t21
                    refine i_getR (a := 62 + 11 * x1) (b := 67 + 11 * x1) r_53_105 (n_53_105 _) rfl rfl rfl (by omega) t21 (by omega) ?_
                    have t22 := (t_4_4 t21)
                    rw [show (62 + 11 * x1) + 5 = 67 + 11 * x1 by omega] at t22
                    refine i_getI (a := 67 + 11 * x1) r_53_108 (n_53_108 _) rfl (by decide) t22 (fun q23 => ?_)
                    refine i_iload (x := x4) r_53_111 (n_53_111 _) rfl ?_
                    refine i_aload_n (a := 2) r_53_113 (n_53_113 _) rfl ?_
                    refine i_iload_n (x := x3) r_53_114 (n_53_114 _) rfl ?_
                    refine wp_virt (b := 2) (rest := [iv x4, iv (zI s8 (67 + 11 * x1) 0)]) (Ls := [(0, rf 2), (1, iv x3)]) r_53_115 (n_53_115 _) rfl ⟨rfl, rfl, by decide, by decide⟩ rfl rfl lf_2 ⟨rfl, Nat.le_of_ble_eq_true rfl, Nat.le_of_ble_eq_true rfl⟩ rfl h ?_
                    intro o24 s24 h
                    rcases h with ⟨y24, q25, rfl, h⟩ | ⟨e24, rfl, h⟩
                    · refine .inl ⟨some (iv y24), rfl, ?_⟩
                      show wp S 53 118 [(0, rf 2), (1, iv x1), (2, iv x2), (3, iv x3), (4, iv x4), (5, rf (7 + 4 * x1))] [iv y24, iv x4, iv (zI s8 (67 + 11 * x1) 0)] s24 Q
                      refine i_imul r_53_118 (n_53_118 _) ?_
                      refine i_iadd r_53_119 (n_53_119 _) ?_
                      refine i_istore (l' := [(0, rf 2), (1, iv x1), (2, iv x2), (3, iv x3), (4, iv x4), (5, rf (7 + 4 * x1)), (6, iv ((zI s8 (67 + 11 * x1) 0) + (x4 * y24)))]) r_53_120 (n_53_120 _) (by decide) rfl ?_
                      refine i_aload (a := 7 + 4 * x1) r_53_122 (n_53_122 _) rfl ?_
                      refine i_getI (a := 7 + 4 * x1) r_53_124 (n_53_124 _) rfl (by decide) t4 (fun q26 => ?_)
                      refine i_bipush r_53_127 (n_53_127 _) rfl ?_
                      refine i_icmp (t := 147) r_53_129 (n_53_129 _) rfl (T_ge q26 ⟨by omega, by omega⟩) (fun c27 => ?_) (fun c27 => ?_)
                      · replace h := h.1 c27
                        exact i_throw r_53_147 (n_53_147 _) rfl (by decide) h
                      · replace h := h.2 c27
                        refine i_aload_n (a := 2) r_53_132 (n_53_132 _) rfl ?_
                        refine i_iload_n (x := x1) r_53_133 (n_53_133 _) rfl ?_
                        refine wp_virt (b := 2) (rest := []) (Ls := [(0, rf 2), (1, iv x1)]) r_53_134 (n_53_134 _) rfl ⟨rfl, rfl, by decide, by decide⟩ rfl rfl lf_2 ⟨rfl, Nat.le_of_ble_eq_true rfl, Nat.le_of_ble_eq_true rfl⟩ rfl h ?_
                        intro o28 s28 h
                        rcases h with ⟨y28, q29, rfl, h⟩ | ⟨e28, rfl, h⟩
                        · refine .inl ⟨some (iv y28), rfl, ?_⟩
                          show wp S 53 137 [(0, rf 2), (1, iv x1), (2, iv x2), (3, iv x3), (4, iv x4), (5, rf (7 + 4 * x1)), (6, iv ((zI s8 (67 + 11 * x1) 0) + (x4 * y24)))] [iv y28] s28 Q
                          refine i_if (t := 147) r_53_137 (n_53_137 _) rfl (T_ne q29 ⟨by omega, by omega⟩) (fun c30 => ?_) (fun c30 => ?_)
                          · replace h := h.1 c30
                            exact i_throw r_53_147 (n_53_147 _) rfl (by decide) h
                          · replace h := h.2 c30
                            refine i_iload (x := (zI s8 (67 + 11 * x1) 0) + (x4 * y24)) r_53_140 (n_53_140 _) rfl ?_
                            refine i_bipush r_53_142 (n_53_142 _) rfl ?_
                            obtain ⟨g31, h⟩ := h
                            refine i_icmp (t := 157) r_53_144 (n_53_144 _) rfl (T_le g31 ⟨by omega, by omega⟩) (fun c32 => ?_) (fun c32 => ?_)
                            · replace h := h.1 c32
                              refine i_aload_n (a := 2) r_53_157 (n_53_157 _) rfl ?_
                              refine wp_virt (b := 2) (rest := []) (Ls := [(0, rf 2)]) r_53_158 (n_53_158 _) rfl ⟨rfl, rfl, by decide, by decide⟩ rfl rfl lf_2 ⟨rfl, Nat.le_of_ble_eq_true rfl, Nat.le_of_ble_eq_true rfl⟩ rfl h ?_
                              intro o33 s33 h
                              rcases h with ⟨rfl, h⟩ | ⟨e33, rfl, h⟩
                              · refine .inl ⟨none, rfl, ?_⟩
                                refine i_aload (a := 7 + 4 * x1) r_53_161 (n_53_161 _) rfl ?_
                                refine i_iload_n (x := x2) r_53_163 (n_53_163 _) rfl ?_
                                refine i_iload_n (x := x3) r_53_164 (n_53_164 _) rfl ?_
                                refine i_iload (x := x4) r_53_165 (n_53_165 _) rfl ?_
                                refine wp_virt (b := 7 + 4 * x1) (rest := []) (Ls := [(0, rf (7 + 4 * x1)), (1, iv x2), (2, iv x3), (3, iv x4)]) r_53_167 (n_53_167 _) rfl ⟨rfl, rfl, by decide, by decide⟩ rfl rfl t4 ⟨rfl, Nat.le_of_ble_eq_true rfl, Nat.le_of_ble_eq_true rfl⟩ rfl h ?_
                                intro o35 s35 h
                                rcases h with ⟨rfl, h⟩ | ⟨e35, rfl, h⟩
                                · refine .inl ⟨none, rfl, ?_⟩
                                  refine i_aload_n (a := 2) r_53_170 (n_53_170 _) rfl ?_
                                  refine i_iload_n (x := x1) r_53_171 (n_53_171 _) rfl ?_
                                  refine i_aload (a := 7 + 4 * x1) r_53_172 (n_53_172 _) rfl ?_
                                  refine i_getI (a := 7 + 4 * x1) r_53_174 (n_53_174 _) rfl (by decide) t4 (fun q37 => ?_)
                                  refine i_iconst r_53_177 (n_53_177 _) ?_
                                  refine i_isub r_53_178 (n_53_178 _) ?_
                                  refine wp_virt (b := 2) (rest := []) (Ls := [(0, rf 2), (1, iv x1), (2, iv ((zI s35 (7 + 4 * x1) 1) - 1))]) r_53_179 (n_53_179 _) rfl ⟨rfl, rfl, by decide, by decide⟩ rfl rfl lf_2 ⟨rfl, Nat.le_of_ble_eq_true rfl, Nat.le_of_ble_eq_true rfl⟩ rfl h ?_
                                  intro o38 s38 h
                                  rcases h with ⟨rfl, h⟩ | ⟨e38, rfl, h⟩
                                  · refine .inl ⟨none, rfl, ?_⟩
                                    refine i_aload (a := 7 + 4 * x1) r_53_182 (n_53_182 _) rfl ?_
                                    refine i_getI (a := 7 + 4 * x1) r_53_184 (n_53_184 _) rfl (by decide) t4 (fun q40 => ?_)
                                    exact i_ireturn r_53_187 (n_53_187 _) rfl h
                                  · skip
                                    exact h.elim
                                · skip
                                  exact h.elim
                              · skip
                                exact h.elim
                            · replace h := h.2 c32
                              exact i_throw r_53_147 (n_53_147 _) rfl (by decide) h
                        · skip
                          exact h.elim
                    · skip
                      exact h.elim
                  · replace h := h.2 c20
                    exact i_throw r_53_89 (n_53_89 _) rfl (by decide) h
                · replace h := h.2 c19
                  refine i_iconst r_53_81 (n_53_81 _) ?_
                  refine i_goto (t := 86) r_53_82 (n_53_82 _) rfl ?_
                  refine i_icmp (t := 99) r_53_86 (n_53_86 _) rfl (T_le g16 ⟨by omega, by omega⟩) (fun c41 => ?_) (fun c41 => ?_)
                  · replace h := h.1 c41
                    refine i_aload_n (a := 2) r_53_99 (n_53_99 _) rfl ?_
                    refine i_getR (a := 2) (b := 34) r_53_100 (n_53_100 _) rfl rfl rfl (by omega) lf_2 (by omega) ?_
                    refine i_iload_n (x := x1) r_53_103 (n_53_103 _) rfl ?_
                    refine i_aaload (c := 4) (a := 34) (j := x1) (b := 62 + 11 * x1) r_53_104 (n_53_104 _) lf_34 ⟨by omega, by omega⟩ (by omega) (by omega) rfl (by omega) ?_
                    have t42 := e_4 (j := x1) lf_34 (by omega) (by omega)
                    rw [show 34 + 28 + 11 * x1 = 62 + 11 * x1 by omega] at t42
                    refine i_getR (a := 62 + 11 * x1) (b := 67 + 11 * x1) r_53_105 (n_53_105 _) rfl rfl rfl (by omega) t42 (by omega) ?_
                    have t43 := (t_4_4 t42)
                    rw [show (62 + 11 * x1) + 5 = 67 + 11 * x1 by omega] at t43
                    refine i_getI (a := 67 + 11 * x1) r_53_108 (n_53_108 _) rfl (by decide) t43 (fun q44 => ?_)
                    refine i_iload (x := x4) r_53_111 (n_53_111 _) rfl ?_
                    refine i_aload_n (a := 2) r_53_113 (n_53_113 _) rfl ?_
                    refine i_iload_n (x := x3) r_53_114 (n_53_114 _) rfl ?_
                    refine wp_virt (b := 2) (rest := [iv x4, iv (zI s8 (67 + 11 * x1) 0)]) (Ls := [(0, rf 2), (1, iv x3)]) r_53_115 (n_53_115 _) rfl ⟨rfl, rfl, by decide, by decide⟩ rfl rfl lf_2 ⟨rfl, Nat.le_of_ble_eq_true rfl, Nat.le_of_ble_eq_true rfl⟩ rfl h ?_
                    intro o45 s45 h
                    rcases h with ⟨y45, q46, rfl, h⟩ | ⟨e45, rfl, h⟩
                    · refine .inl ⟨some (iv y45), rfl, ?_⟩
                      show wp S 53 118 [(0, rf 2), (1, iv x1), (2, iv x2), (3, iv x3), (4, iv x4), (5, rf (7 + 4 * x1))] [iv y45, iv x4, iv (zI s8 (67 + 11 * x1) 0)] s45 Q
                      refine i_imul r_53_118 (n_53_118 _) ?_
                      refine i_iadd r_53_119 (n_53_119 _) ?_
                      refine i_istore (l' := [(0, rf 2), (1, iv x1), (2, iv x2), (3, iv x3), (4, iv x4), (5, rf (7 + 4 * x1)), (6, iv ((zI s8 (67 + 11 * x1) 0) + (x4 * y45)))]) r_53_120 (n_53_120 _) (by decide) rfl ?_
                      refine i_aload (a := 7 + 4 * x1) r_53_122 (n_53_122 _) rfl ?_
                      refine i_getI (a := 7 + 4 * x1) r_53_124 (n_53_124 _) rfl (by decide) t4 (fun q47 => ?_)
                      refine i_bipush r_53_127 (n_53_127 _) rfl ?_
                      refine i_icmp (t := 147) r_53_129 (n_53_129 _) rfl (T_ge q47 ⟨by omega, by omega⟩) (fun c48 => ?_) (fun c48 => ?_)
                      · replace h := h.1 c48
                        exact i_throw r_53_147 (n_53_147 _) rfl (by decide) h
                      · replace h := h.2 c48
                        refine i_aload_n (a := 2) r_53_132 (n_53_132 _) rfl ?_
                        refine i_iload_n (x := x1) r_53_133 (n_53_133 _) rfl ?_
                        refine wp_virt (b := 2) (rest := []) (Ls := [(0, rf 2), (1, iv x1)]) r_53_134 (n_53_134 _) rfl ⟨rfl, rfl, by decide, by decide⟩ rfl rfl lf_2 ⟨rfl, Nat.le_of_ble_eq_true rfl, Nat.le_of_ble_eq_true rfl⟩ rfl h ?_
                        intro o49 s49 h
                        rcases h with ⟨y49, q50, rfl, h⟩ | ⟨e49, rfl, h⟩
                        · refine .inl ⟨some (iv y49), rfl, ?_⟩
                          show wp S 53 137 [(0, rf 2), (1, iv x1), (2, iv x2), (3, iv x3), (4, iv x4), (5, rf (7 + 4 * x1)), (6, iv ((zI s8 (67 + 11 * x1) 0) + (x4 * y45)))] [iv y49] s49 Q
                          refine i_if (t := 147) r_53_137 (n_53_137 _) rfl (T_ne q50 ⟨by omega, by omega⟩) (fun c51 => ?_) (fun c51 => ?_)
                          · replace h := h.1 c51
                            exact i_throw r_53_147 (n_53_147 _) rfl (by decide) h
                          · replace h := h.2 c51
                            refine i_iload (x := (zI s8 (67 + 11 * x1) 0) + (x4 * y45)) r_53_140 (n_53_140 _) rfl ?_
                            refine i_bipush r_53_142 (n_53_142 _) rfl ?_
                            obtain ⟨g52, h⟩ := h
                            refine i_icmp (t := 157) r_53_144 (n_53_144 _) rfl (T_le g52 ⟨by omega, by omega⟩) (fun c53 => ?_) (fun c53 => ?_)
                            · replace h := h.1 c53
                              refine i_aload_n (a := 2) r_53_157 (n_53_157 _) rfl ?_
                              refine wp_virt (b := 2) (rest := []) (Ls := [(0, rf 2)]) r_53_158 (n_53_158 _) rfl ⟨rfl, rfl, by decide, by decide⟩ rfl rfl lf_2 ⟨rfl, Nat.le_of_ble_eq_true rfl, Nat.le_of_ble_eq_true rfl⟩ rfl h ?_
                              intro o54 s54 h
                              rcases h with ⟨rfl, h⟩ | ⟨e54, rfl, h⟩
                              · refine .inl ⟨none, rfl, ?_⟩
                                refine i_aload (a := 7 + 4 * x1) r_53_161 (n_53_161 _) rfl ?_
                                refine i_iload_n (x := x2) r_53_163 (n_53_163 _) rfl ?_
                                refine i_iload_n (x := x3) r_53_164 (n_53_164 _) rfl ?_
                                refine i_iload (x := x4) r_53_165 (n_53_165 _) rfl ?_
                                refine wp_virt (b := 7 + 4 * x1) (rest := []) (Ls := [(0, rf (7 + 4 * x1)), (1, iv x2), (2, iv x3), (3, iv x4)]) r_53_167 (n_53_167 _) rfl ⟨rfl, rfl, by decide, by decide⟩ rfl rfl t4 ⟨rfl, Nat.le_of_ble_eq_true rfl, Nat.le_of_ble_eq_true rfl⟩ rfl h ?_
                                intro o56 s56 h
                                rcases h with ⟨rfl, h⟩ | ⟨e56, rfl, h⟩
                                · refine .inl ⟨none, rfl, ?_⟩
                                  refine i_aload_n (a := 2) r_53_170 (n_53_170 _) rfl ?_
                                  refine i_iload_n (x := x1) r_53_171 (n_53_171 _) rfl ?_
                                  refine i_aload (a := 7 + 4 * x1) r_53_172 (n_53_172 _) rfl ?_
                                  refine i_getI (a := 7 + 4 * x1) r_53_174 (n_53_174 _) rfl (by decide) t4 (fun q58 => ?_)
                                  refine i_iconst r_53_177 (n_53_177 _) ?_
                                  refine i_isub r_53_178 (n_53_178 _) ?_
                                  refine wp_virt (b := 2) (rest := []) (Ls := [(0, rf 2), (1, iv x1), (2, iv ((zI s56 (7 + 4 * x1) 1) - 1))]) r_53_179 (n_53_179 _) rfl ⟨rfl, rfl, by decide, by decide⟩ rfl rfl lf_2 ⟨rfl, Nat.le_of_ble_eq_true rfl, Nat.le_of_ble_eq_true rfl⟩ rfl h ?_
                                  intro o59 s59 h
                                  rcases h with ⟨rfl, h⟩ | ⟨e59, rfl, h⟩
                                  · refine .inl ⟨none, rfl, ?_⟩
                                    refine i_aload (a := 7 + 4 * x1) r_53_182 (n_53_182 _) rfl ?_
                                    refine i_getI (a := 7 + 4 * x1) r_53_184 (n_53_184 _) rfl (by decide) t4 (fun q61 => ?_)
                                    exact i_ireturn r_53_187 (n_53_187 _) rfl h
                                  · skip
                                    exact h.elim
                                · skip
                                  exact h.elim
                              · skip
                                exact h.elim
                            · replace h := h.2 c53
                              exact i_throw r_53_147 (n_53_147 _) rfl (by decide) h
                        · skip
                          exact h.elim
                    · skip
                      exact h.elim
                  · replace h := h.2 c41
                    exact i_throw r_53_89 (n_53_89 _) rfl (by decide) h
            · replace h := h.2 c15
              exact i_throw r_53_56 (n_53_56 _) rfl (by decide) h
          · replace h := h.2 c10
            exact i_throw r_53_37 (n_53_37 _) rfl (by decide) h
        · skip
          exact h.elim
  · replace h := h.2 c2
    exact .inr ⟨_, rfl, .inl ⟨rfl, h⟩⟩
theorem r_55_0 : xfetch 55 0 = some (.iconst 0, 1) := by decide +kernel
theorem n_55_0 : ∀ l, xpr 55 0 l = l := xpr_no (by decide +kernel)
theorem r_55_1 : xfetch 55 1 = some (.istore_n 2, 1) := by decide +kernel
theorem n_55_1 : ∀ l, xpr 55 1 l = l := xpr_no (by decide +kernel)
theorem r_55_2 : xfetch 55 2 = some (.iload_n 2, 1) := by decide +kernel
theorem r_55_3 : xfetch 55 3 = some (.aload_n 0, 1) := by decide +kernel
theorem n_55_3 : ∀ l, xpr 55 3 l = l := xpr_no (by decide +kernel)
theorem r_55_4 : xfetch 55 4 = some (.getfield 25, 3) := by decide +kernel
theorem n_55_4 : ∀ l, xpr 55 4 l = l := xpr_no (by decide +kernel)
theorem r_55_7 : xfetch 55 7 = some (.if_icmp .ge 21, 3) := by decide +kernel
theorem n_55_7 : ∀ l, xpr 55 7 l = l := xpr_no (by decide +kernel)
theorem r_55_10 : xfetch 55 10 = some (.aload_n 0, 1) := by decide +kernel
theorem n_55_10 : ∀ l, xpr 55 10 l = l := xpr_no (by decide +kernel)
theorem r_55_11 : xfetch 55 11 = some (.getfield 15, 3) := by decide +kernel
theorem n_55_11 : ∀ l, xpr 55 11 l = l := xpr_no (by decide +kernel)
theorem r_55_14 : xfetch 55 14 = some (.iload_n 2, 1) := by decide +kernel
theorem n_55_14 : ∀ l, xpr 55 14 l = l := xpr_no (by decide +kernel)
theorem r_55_15 : xfetch 55 15 = some (.iaload, 1) := by decide +kernel
theorem n_55_15 : ∀ l, xpr 55 15 l = l := xpr_no (by decide +kernel)
theorem r_55_16 : xfetch 55 16 = some (.iload_n 1, 1) := by decide +kernel
theorem n_55_16 : ∀ l, xpr 55 16 l = l := xpr_no (by decide +kernel)
theorem r_55_17 : xfetch 55 17 = some (.if_icmp .ne 5, 3) := by decide +kernel
theorem n_55_17 : ∀ l, xpr 55 17 l = l := xpr_no (by decide +kernel)
theorem r_55_20 : xfetch 55 20 = some (.iconst 1, 1) := by decide +kernel
theorem n_55_20 : ∀ l, xpr 55 20 l = l := xpr_no (by decide +kernel)
theorem r_55_21 : xfetch 55 21 = some (.ireturn, 1) := by decide +kernel
theorem n_55_21 : ∀ l, xpr 55 21 l = l := xpr_no (by decide +kernel)
theorem r_55_22 : xfetch 55 22 = some (.iinc 2 1, 3) := by decide +kernel
theorem n_55_22 : ∀ l, xpr 55 22 l = l := xpr_no (by decide +kernel)
theorem r_55_25 : xfetch 55 25 = some (.goto (-23), 3) := by decide +kernel
theorem n_55_25 : ∀ l, xpr 55 25 l = l := xpr_no (by decide +kernel)
theorem r_55_28 : xfetch 55 28 = some (.iconst 0, 1) := by decide +kernel
theorem n_55_28 : ∀ l, xpr 55 28 l = l := xpr_no (by decide +kernel)
theorem r_55_29 : xfetch 55 29 = some (.ireturn, 1) := by decide +kernel
theorem n_55_29 : ∀ l, xpr 55 29 l = l := xpr_no (by decide +kernel)
theorem v_Fields_hasName_0 {S : Option (Nat × (Nat → Int32))} {s : zSt} {Q : Option Value ⊕ Nat → zSt → Prop} {a0 : Int} {x1 : Int} (ha0 : isO a0 1)
    (h : wp S 55 2 [(0, rf a0), (1, iv x1), (2, iv 0)] [] s Q) :
    wp S 55 0 [(0, rf a0), (1, iv x1)] [] s Q := by
  refine i_iconst r_55_0 (n_55_0 _) ?_
  refine i_istore_n (l' := [(0, rf a0), (1, iv x1), (2, iv 0)]) r_55_1 (n_55_1 _) (by decide) rfl ?_
  exact wp_pr (l' := [(0, rf a0), (1, iv x1), (2, iv 0)]) rfl h
theorem v_Fields_hasName_2 {S : Option (Nat × (Nat → Int32))} {s : zSt} {Q : Option Value ⊕ Nat → zSt → Prop} {a0 : Int} {x1 : Int} {x2 : Int} (ha0 : isO a0 1)
    (h : rng x2 ∧ (((zI s a0 1) ≤ x2 → Q (rI 0) s) ∧ (x2 < (zI s a0 1) → (0 ≤ x2 ∧ x2 < 8) ∧ (rng x1 ∧ (((zI s (a0 + 1) x2) ≠ x1 → wp S 55 2 [(0, rf a0), (1, iv x1), (2, iv (x2 + 1))] [] s Q) ∧ ((zI s (a0 + 1) x2) = x1 → Q (rI 1) s)))))) :
    wp S 55 2 [(0, rf a0), (1, iv x1), (2, iv x2)] [] s Q := by
  refine i_iload_n (x := x2) r_55_2 rfl rfl ?_
  refine i_aload_n (a := a0) r_55_3 (n_55_3 _) rfl ?_
  refine i_getI (a := a0) r_55_4 (n_55_4 _) rfl (by decide) ha0 (fun q1 => ?_)
  obtain ⟨g2, h⟩ := h
  refine i_icmp (t := 28) r_55_7 (n_55_7 _) rfl (T_ge g2 q1) (fun c3 => ?_) (fun c3 => ?_)
  · replace h := h.1 c3
    refine i_iconst r_55_28 (n_55_28 _) ?_
    exact i_zreturn r_55_29 (n_55_29 _) rfl (by decide) h
  · replace h := h.2 c3
    refine i_aload_n (a := a0) r_55_10 (n_55_10 _) rfl ?_
    refine i_getR (a := a0) (b := a0 + 1) r_55_11 (n_55_11 _) rfl rfl rfl (by omega) ha0 (by omega) ?_
    have t4 := (t_1_2 ha0)
    refine i_iload_n (x := x2) r_55_14 (n_55_14 _) rfl ?_
    obtain ⟨g5, h⟩ := h
    refine i_iaload (a := a0 + 1) (j := x2) r_55_15 (n_55_15 _) t4 ⟨by omega, by omega⟩ (by omega) (by omega) (fun q6 => ?_)
    refine i_iload_n (x := x1) r_55_16 (n_55_16 _) rfl ?_
    obtain ⟨g7, h⟩ := h
    refine i_icmp (t := 22) r_55_17 (n_55_17 _) rfl (T_ne q6 g7) (fun c8 => ?_) (fun c8 => ?_)
    · replace h := h.1 c8
      refine i_iinc (x := x2) (l' := [(0, rf a0), (1, iv x1), (2, iv (x2 + 1))]) r_55_22 (n_55_22 _) (by decide) rfl rfl ?_
      refine i_goto (t := 2) r_55_25 (n_55_25 _) rfl ?_
      exact wp_pr (l' := [(0, rf a0), (1, iv x1), (2, iv (x2 + 1))]) rfl h
    · replace h := h.2 c8
      refine i_iconst r_55_20 (n_55_20 _) ?_
      exact i_zreturn r_55_21 (n_55_21 _) rfl (by decide) h
theorem r_57_0 : xfetch 57 0 = some (.aload_n 0, 1) := by decide +kernel
theorem n_57_0 : ∀ l, xpr 57 0 l = l := xpr_no (by decide +kernel)
theorem r_57_1 : xfetch 57 1 = some (.iload_n 1, 1) := by decide +kernel
theorem n_57_1 : ∀ l, xpr 57 1 l = l := xpr_no (by decide +kernel)
theorem r_57_2 : xfetch 57 2 = some (.invokevirtual 427, 3) := by decide +kernel
theorem n_57_2 : ∀ l, xpr 57 2 l = l := xpr_no (by decide +kernel)
theorem r_57_5 : xfetch 57 5 = some (.astore_n 2, 1) := by decide +kernel
theorem n_57_5 : ∀ l, xpr 57 5 l = l := xpr_no (by decide +kernel)
theorem r_57_6 : xfetch 57 6 = some (.aload_n 2, 1) := by decide +kernel
theorem n_57_6 : ∀ l, xpr 57 6 l = l := xpr_no (by decide +kernel)
theorem r_57_7 : xfetch 57 7 = some (.ifnonnull 7, 3) := by decide +kernel
theorem n_57_7 : ∀ l, xpr 57 7 l = l := xpr_no (by decide +kernel)
theorem r_57_10 : xfetch 57 10 = some (.iconst 1, 1) := by decide +kernel
theorem n_57_10 : ∀ l, xpr 57 10 l = l := xpr_no (by decide +kernel)
theorem r_57_11 : xfetch 57 11 = some (.goto 10, 3) := by decide +kernel
theorem n_57_11 : ∀ l, xpr 57 11 l = l := xpr_no (by decide +kernel)
theorem r_57_14 : xfetch 57 14 = some (.aload_n 2, 1) := by decide +kernel
theorem n_57_14 : ∀ l, xpr 57 14 l = l := xpr_no (by decide +kernel)
theorem r_57_15 : xfetch 57 15 = some (.getfield 120, 3) := by decide +kernel
theorem n_57_15 : ∀ l, xpr 57 15 l = l := xpr_no (by decide +kernel)
theorem r_57_18 : xfetch 57 18 = some (.getfield 124, 3) := by decide +kernel
theorem n_57_18 : ∀ l, xpr 57 18 l = l := xpr_no (by decide +kernel)
theorem r_57_21 : xfetch 57 21 = some (.ireturn, 1) := by decide +kernel
theorem n_57_21 : ∀ l, xpr 57 21 l = l := xpr_no (by decide +kernel)
theorem v_RL_leavesOfType_0 {S : Option (Nat × (Nat → Int32))} {s : zSt} {Q : Option Value ⊕ Nat → zSt → Prop} {x1 : Int} 
    (h : wp S 42 0 [(0, rf 2), (1, iv x1)] [] s (fun o1 s1 => zkN (fun y1 => (0 ≤ y1 → isO y1 4) ∧ ((0 ≤ y1 → Q (rI (zI s1 (y1 + 5) 0)) s1) ∧ (y1 < 0 → Q (rI 1) s1))) o1)) :
    wp S 57 0 [(0, rf 2), (1, iv x1)] [] s Q := by
  refine i_aload_n (a := 2) r_57_0 (n_57_0 _) rfl ?_
  refine i_iload_n (x := x1) r_57_1 (n_57_1 _) rfl ?_
  refine wp_virt (b := 2) (rest := []) (Ls := [(0, rf 2), (1, iv x1)]) r_57_2 (n_57_2 _) rfl ⟨rfl, rfl, by decide, by decide⟩ rfl rfl lf_2 ⟨rfl, Nat.le_of_ble_eq_true rfl, Nat.le_of_ble_eq_true rfl⟩ rfl h ?_
  intro o1 s1 h
  obtain ⟨y1, rfl, q2, h⟩ := h
  refine .inl ⟨some (orf y1), rfl, ?_⟩
  show wp S 57 5 [(0, rf 2), (1, iv x1)] [orf y1] s1 Q
  refine i_astoreN_n (l' := [(0, rf 2), (1, iv x1), (2, orf y1)]) r_57_5 (n_57_5 _) (by decide) rfl ?_
  refine i_aloadN_n (a := y1) r_57_6 (n_57_6 _) rfl ?_
  refine i_ifnonnull (t := 14) r_57_7 (n_57_7 _) rfl (fun c3 => ?_) (fun c3 => ?_)
  · replace h := h.1 c3
    rw [show [(0, rf 2), (1, iv x1), (2, orf y1)] = [(0, rf 2), (1, iv x1), (2, rf y1)] by rw [orf_pos c3]]
    refine i_aload_n (a := y1) r_57_14 (n_57_14 _) rfl ?_
    refine i_getR (a := y1) (b := y1 + 5) r_57_15 (n_57_15 _) rfl rfl rfl (by omega) (q2 c3) (by omega) ?_
    have t4 := (t_4_4 (q2 c3))
    refine i_getI (a := y1 + 5) r_57_18 (n_57_18 _) rfl (by decide) t4 (fun q5 => ?_)
    exact i_ireturn r_57_21 (n_57_21 _) rfl h
  · replace h := h.2 c3
    refine i_iconst r_57_10 (n_57_10 _) ?_
    refine i_goto (t := 21) r_57_11 (n_57_11 _) rfl ?_
    exact i_ireturn r_57_21 (n_57_21 _) rfl h
theorem r_59_0 : xfetch 59 0 = some (.aload_n 0, 1) := by decide +kernel
theorem n_59_0 : ∀ l, xpr 59 0 l = l := xpr_no (by decide +kernel)
theorem r_59_1 : xfetch 59 1 = some (.iload_n 1, 1) := by decide +kernel
theorem n_59_1 : ∀ l, xpr 59 1 l = l := xpr_no (by decide +kernel)
theorem r_59_2 : xfetch 59 2 = some (.invokevirtual 95, 3) := by decide +kernel
theorem n_59_2 : ∀ l, xpr 59 2 l = l := xpr_no (by decide +kernel)
theorem r_59_5 : xfetch 59 5 = some (.iload_n 2, 1) := by decide +kernel
theorem n_59_5 : ∀ l, xpr 59 5 l = l := xpr_no (by decide +kernel)
theorem r_59_6 : xfetch 59 6 = some (.bipush 6, 2) := by decide +kernel
theorem n_59_6 : ∀ l, xpr 59 6 l = l := xpr_no (by decide +kernel)
theorem r_59_8 : xfetch 59 8 = some (.invokestatic 150, 3) := by decide +kernel
theorem n_59_8 : ∀ l, xpr 59 8 l = l := xpr_no (by decide +kernel)
theorem r_59_11 : xfetch 59 11 = some (.aload_n 0, 1) := by decide +kernel
theorem n_59_11 : ∀ l, xpr 59 11 l = l := xpr_no (by decide +kernel)
theorem r_59_12 : xfetch 59 12 = some (.iload_n 1, 1) := by decide +kernel
theorem n_59_12 : ∀ l, xpr 59 12 l = l := xpr_no (by decide +kernel)
theorem r_59_13 : xfetch 59 13 = some (.iload_n 2, 1) := by decide +kernel
theorem n_59_13 : ∀ l, xpr 59 13 l = l := xpr_no (by decide +kernel)
theorem r_59_14 : xfetch 59 14 = some (.invokevirtual 153, 3) := by decide +kernel
theorem n_59_14 : ∀ l, xpr 59 14 l = l := xpr_no (by decide +kernel)
theorem r_59_17 : xfetch 59 17 = some (.ireturn, 1) := by decide +kernel
theorem n_59_17 : ∀ l, xpr 59 17 l = l := xpr_no (by decide +kernel)
theorem v_RL_recordInfo_0 {S : Option (Nat × (Nat → Int32))} {s : zSt} {Q : Option Value ⊕ Nat → zSt → Prop} {x1 : Int} {x2 : Int} 
    (h : rng x1 ∧ ((0 ≤ x1 ∧ x1 < zI s 3 0 → rng x2 ∧ ((0 ≤ x2 ∧ x2 ≤ 6 → wp S 28 0 [(0, rf 2), (1, iv x1), (2, iv x2)] [] s (fun o5 s5 => zkI (fun y5 => Q (rI y5) s5) (fun e5 => False) o5)) ∧ ((¬ (0 ≤ x2 ∧ x2 ≤ 6) → Q (rT 0) (zbump s))))) ∧ ((¬ (0 ≤ x1 ∧ x1 < zI s 3 0) → Q (rT 2) (zbump s))))) :
    wp S 59 0 [(0, rf 2), (1, iv x1), (2, iv x2)] [] s Q := by
  refine i_aload_n (a := 2) r_59_0 (n_59_0 _) rfl ?_
  refine i_iload_n (x := x1) r_59_1 (n_59_1 _) rfl ?_
  obtain ⟨g1, h⟩ := h
  refine wp_virt (b := 2) (rest := []) (Ls := [(0, rf 2), (1, iv x1)]) r_59_2 (n_59_2 _) rfl ⟨rfl, rfl, by decide, by decide⟩ rfl rfl lf_2 ⟨rfl, Nat.le_of_ble_eq_true rfl, Nat.le_of_ble_eq_true rfl⟩ rfl (K_RL_checkRecord g1) ?_
  rintro _ _ (⟨c2, rfl, rfl⟩ | ⟨c2, rfl, rfl⟩)
  · replace h := h.1 c2
    refine .inl ⟨none, rfl, ?_⟩
    show wp S 59 5 [(0, rf 2), (1, iv x1), (2, iv x2)] [] s Q
    refine i_iload_n (x := x2) r_59_5 (n_59_5 _) rfl ?_
    refine i_bipush r_59_6 (n_59_6 _) rfl ?_
    obtain ⟨g3, h⟩ := h
    refine wp_stat (rest := []) (Ls := [(0, iv x2), (1, iv 6)]) r_59_8 (n_59_8 _) rfl ⟨rfl, by decide, by decide, by decide⟩ rfl rfl ⟨rfl, Nat.le_of_ble_eq_true rfl, Nat.le_of_ble_eq_true rfl⟩ rfl (K_RL_checkWhat g3 ⟨by omega, by omega⟩) ?_
    rintro _ _ (⟨c4, rfl, rfl⟩ | ⟨c4, rfl, rfl⟩)
    · replace h := h.1 c4
      refine .inl ⟨none, rfl, ?_⟩
      show wp S 59 11 [(0, rf 2), (1, iv x1), (2, iv x2)] [] s Q
      refine i_aload_n (a := 2) r_59_11 (n_59_11 _) rfl ?_
      refine i_iload_n (x := x1) r_59_12 (n_59_12 _) rfl ?_
      refine i_iload_n (x := x2) r_59_13 (n_59_13 _) rfl ?_
      refine wp_virt (b := 2) (rest := []) (Ls := [(0, rf 2), (1, iv x1), (2, iv x2)]) r_59_14 (n_59_14 _) rfl ⟨rfl, rfl, by decide, by decide⟩ rfl rfl lf_2 ⟨rfl, Nat.le_of_ble_eq_true rfl, Nat.le_of_ble_eq_true rfl⟩ rfl h ?_
      intro o5 s5 h
      rcases h with ⟨y5, q6, rfl, h⟩ | ⟨e5, rfl, h⟩
      · refine .inl ⟨some (iv y5), rfl, ?_⟩
        show wp S 59 17 [(0, rf 2), (1, iv x1), (2, iv x2)] [iv y5] s5 Q
        exact i_ireturn r_59_17 (n_59_17 _) rfl h
      · skip
        exact h.elim
    · replace h := h.2 c4
      exact .inr ⟨_, rfl, rfl, .inl ⟨rfl, h⟩⟩
  · replace h := h.2 c2
    exact .inr ⟨_, rfl, .inl ⟨rfl, h⟩⟩
theorem r_62_0 : xfetch 62 0 = some (.aload_n 0, 1) := by decide +kernel
theorem n_62_0 : ∀ l, xpr 62 0 l = l := xpr_no (by decide +kernel)
theorem r_62_1 : xfetch 62 1 = some (.iload_n 1, 1) := by decide +kernel
theorem n_62_1 : ∀ l, xpr 62 1 l = l := xpr_no (by decide +kernel)
theorem r_62_2 : xfetch 62 2 = some (.invokevirtual 95, 3) := by decide +kernel
theorem n_62_2 : ∀ l, xpr 62 2 l = l := xpr_no (by decide +kernel)
theorem r_62_5 : xfetch 62 5 = some (.iload_n 2, 1) := by decide +kernel
theorem n_62_5 : ∀ l, xpr 62 5 l = l := xpr_no (by decide +kernel)
theorem r_62_6 : xfetch 62 6 = some (.ifCond .lt 19, 3) := by decide +kernel
theorem n_62_6 : ∀ l, xpr 62 6 l = l := xpr_no (by decide +kernel)
theorem r_62_9 : xfetch 62 9 = some (.iload_n 2, 1) := by decide +kernel
theorem n_62_9 : ∀ l, xpr 62 9 l = l := xpr_no (by decide +kernel)
theorem r_62_10 : xfetch 62 10 = some (.aload_n 0, 1) := by decide +kernel
theorem n_62_10 : ∀ l, xpr 62 10 l = l := xpr_no (by decide +kernel)
theorem r_62_11 : xfetch 62 11 = some (.getfield 10, 3) := by decide +kernel
theorem n_62_11 : ∀ l, xpr 62 11 l = l := xpr_no (by decide +kernel)
theorem r_62_14 : xfetch 62 14 = some (.getfield 83, 3) := by decide +kernel
theorem n_62_14 : ∀ l, xpr 62 14 l = l := xpr_no (by decide +kernel)
theorem r_62_17 : xfetch 62 17 = some (.iload_n 1, 1) := by decide +kernel
theorem n_62_17 : ∀ l, xpr 62 17 l = l := xpr_no (by decide +kernel)
theorem r_62_18 : xfetch 62 18 = some (.aaload, 1) := by decide +kernel
theorem n_62_18 : ∀ l, xpr 62 18 l = l := xpr_no (by decide +kernel)
theorem r_62_19 : xfetch 62 19 = some (.getfield 133, 3) := by decide +kernel
theorem n_62_19 : ∀ l, xpr 62 19 l = l := xpr_no (by decide +kernel)
theorem r_62_22 : xfetch 62 22 = some (.if_icmp .lt 13, 3) := by decide +kernel
theorem n_62_22 : ∀ l, xpr 62 22 l = l := xpr_no (by decide +kernel)
theorem r_62_25 : xfetch 62 25 = some (.new 157, 3) := by decide +kernel
theorem n_62_25 : ∀ l, xpr 62 25 l = l := xpr_no (by decide +kernel)
theorem r_62_35 : xfetch 62 35 = some (.iload_n 3, 1) := by decide +kernel
theorem n_62_35 : ∀ l, xpr 62 35 l = l := xpr_no (by decide +kernel)
theorem r_62_36 : xfetch 62 36 = some (.iconst 5, 1) := by decide +kernel
theorem n_62_36 : ∀ l, xpr 62 36 l = l := xpr_no (by decide +kernel)
theorem r_62_37 : xfetch 62 37 = some (.invokestatic 150, 3) := by decide +kernel
theorem n_62_37 : ∀ l, xpr 62 37 l = l := xpr_no (by decide +kernel)
theorem r_62_40 : xfetch 62 40 = some (.aload_n 0, 1) := by decide +kernel
theorem n_62_40 : ∀ l, xpr 62 40 l = l := xpr_no (by decide +kernel)
theorem r_62_41 : xfetch 62 41 = some (.iload_n 1, 1) := by decide +kernel
theorem n_62_41 : ∀ l, xpr 62 41 l = l := xpr_no (by decide +kernel)
theorem r_62_42 : xfetch 62 42 = some (.iload_n 2, 1) := by decide +kernel
theorem n_62_42 : ∀ l, xpr 62 42 l = l := xpr_no (by decide +kernel)
theorem r_62_43 : xfetch 62 43 = some (.iload_n 3, 1) := by decide +kernel
theorem n_62_43 : ∀ l, xpr 62 43 l = l := xpr_no (by decide +kernel)
theorem r_62_44 : xfetch 62 44 = some (.invokevirtual 162, 3) := by decide +kernel
theorem n_62_44 : ∀ l, xpr 62 44 l = l := xpr_no (by decide +kernel)
theorem r_62_47 : xfetch 62 47 = some (.ireturn, 1) := by decide +kernel
theorem n_62_47 : ∀ l, xpr 62 47 l = l := xpr_no (by decide +kernel)
theorem v_RL_fieldInfo_0 {S : Option (Nat × (Nat → Int32))} {s : zSt} {Q : Option Value ⊕ Nat → zSt → Prop} {x1 : Int} {x2 : Int} {x3 : Int} 
    (h : rng x1 ∧ ((0 ≤ x1 ∧ x1 < zI s 3 0 → rng x2 ∧ ((x2 < 0 → Q (rT 2) (zbump s)) ∧ (0 ≤ x2 → (0 ≤ x1 ∧ x1 < 6) ∧ ((x2 < (zI s (7 + 4 * x1) 1) → rng x3 ∧ ((0 ≤ x3 ∧ x3 ≤ 5 → wp S 32 0 [(0, rf 2), (1, iv x1), (2, iv x2), (3, iv x3)] [] s (fun o11 s11 => zkI (fun y11 => Q (rI y11) s11) (fun e11 => False) o11)) ∧ ((¬ (0 ≤ x3 ∧ x3 ≤ 5) → Q (rT 0) (zbump s))))) ∧ ((zI s (7 + 4 * x1) 1) ≤ x2 → Q (rT 2) (zbump s)))))) ∧ ((¬ (0 ≤ x1 ∧ x1 < zI s 3 0) → Q (rT 2) (zbump s))))) :
    wp S 62 0 [(0, rf 2), (1, iv x1), (2, iv x2), (3, iv x3)] [] s Q := by
  refine i_aload_n (a := 2) r_62_0 (n_62_0 _) rfl ?_
  refine i_iload_n (x := x1) r_62_1 (n_62_1 _) rfl ?_
  obtain ⟨g1, h⟩ := h
  refine wp_virt (b := 2) (rest := []) (Ls := [(0, rf 2), (1, iv x1)]) r_62_2 (n_62_2 _) rfl ⟨rfl, rfl, by decide, by decide⟩ rfl rfl lf_2 ⟨rfl, Nat.le_of_ble_eq_true rfl, Nat.le_of_ble_eq_true rfl⟩ rfl (K_RL_checkRecord g1) ?_
  rintro _ _ (⟨c2, rfl, rfl⟩ | ⟨c2, rfl, rfl⟩)
  · replace h := h.1 c2
    refine .inl ⟨none, rfl, ?_⟩
    show wp S 62 5 [(0, rf 2), (1, iv x1), (2, iv x2), (3, iv x3)] [] s Q
    refine i_iload_n (x := x2) r_62_5 (n_62_5 _) rfl ?_
    obtain ⟨g3, h⟩ := h
    refine i_if (t := 25) r_62_6 (n_62_6 _) rfl (T_lt g3 ⟨by omega, by omega⟩) (fun c4 => ?_) (fun c4 => ?_)
    · replace h := h.1 c4
      exact i_throw r_62_25 (n_62_25 _) rfl (by decide) h
    · replace h := h.2 c4
      refine i_iload_n (x := x2) r_62_9 (n_62_9 _) rfl ?_
      refine i_aload_n (a := 2) r_62_10 (n_62_10 _) rfl ?_
      refine i_getR (a := 2) (b := 3) r_62_11 (n_62_11 _) rfl rfl rfl (by omega) lf_2 (by omega) ?_
      refine i_getR (a := 3) (b := 4) r_62_14 (n_62_14 _) rfl rfl rfl (by omega) lf_3 (by omega) ?_
      refine i_iload_n (x := x1) r_62_17 (n_62_17 _) rfl ?_
      obtain ⟨g5, h⟩ := h
      refine i_aaload (c := 1) (a := 4) (j := x1) (b := 7 + 4 * x1) r_62_18 (n_62_18 _) lf_4 ⟨by omega, by omega⟩ (by omega) (by omega) rfl (by omega) ?_
      have t6 := e_1 (j := x1) lf_4 (by omega) (by omega)
      rw [show 4 + 3 + 4 * x1 = 7 + 4 * x1 by omega] at t6
      refine i_getI (a := 7 + 4 * x1) r_62_19 (n_62_19 _) rfl (by decide) t6 (fun q7 => ?_)
      refine i_icmp (t := 35) r_62_22 (n_62_22 _) rfl (T_lt g3 q7) (fun c8 => ?_) (fun c8 => ?_)
      · replace h := h.1 c8
        refine i_iload_n (x := x3) r_62_35 (n_62_35 _) rfl ?_
        refine i_iconst r_62_36 (n_62_36 _) ?_
        obtain ⟨g9, h⟩ := h
        refine wp_stat (rest := []) (Ls := [(0, iv x3), (1, iv 5)]) r_62_37 (n_62_37 _) rfl ⟨rfl, by decide, by decide, by decide⟩ rfl rfl ⟨rfl, Nat.le_of_ble_eq_true rfl, Nat.le_of_ble_eq_true rfl⟩ rfl (K_RL_checkWhat g9 ⟨by omega, by omega⟩) ?_
        rintro _ _ (⟨c10, rfl, rfl⟩ | ⟨c10, rfl, rfl⟩)
        · replace h := h.1 c10
          refine .inl ⟨none, rfl, ?_⟩
          show wp S 62 40 [(0, rf 2), (1, iv x1), (2, iv x2), (3, iv x3)] [] s Q
          refine i_aload_n (a := 2) r_62_40 (n_62_40 _) rfl ?_
          refine i_iload_n (x := x1) r_62_41 (n_62_41 _) rfl ?_
          refine i_iload_n (x := x2) r_62_42 (n_62_42 _) rfl ?_
          refine i_iload_n (x := x3) r_62_43 (n_62_43 _) rfl ?_
          refine wp_virt (b := 2) (rest := []) (Ls := [(0, rf 2), (1, iv x1), (2, iv x2), (3, iv x3)]) r_62_44 (n_62_44 _) rfl ⟨rfl, rfl, by decide, by decide⟩ rfl rfl lf_2 ⟨rfl, Nat.le_of_ble_eq_true rfl, Nat.le_of_ble_eq_true rfl⟩ rfl h ?_
          intro o11 s11 h
          rcases h with ⟨y11, q12, rfl, h⟩ | ⟨e11, rfl, h⟩
          · refine .inl ⟨some (iv y11), rfl, ?_⟩
            show wp S 62 47 [(0, rf 2), (1, iv x1), (2, iv x2), (3, iv x3)] [iv y11] s11 Q
            exact i_ireturn r_62_47 (n_62_47 _) rfl h
          · skip
            exact h.elim
        · replace h := h.2 c10
          exact .inr ⟨_, rfl, rfl, .inl ⟨rfl, h⟩⟩
      · replace h := h.2 c8
        exact i_throw r_62_25 (n_62_25 _) rfl (by decide) h
  · replace h := h.2 c2
    exact .inr ⟨_, rfl, .inl ⟨rfl, h⟩⟩
theorem r_64_0 : xfetch 64 0 = some (.aload_n 0, 1) := by decide +kernel
theorem n_64_0 : ∀ l, xpr 64 0 l = l := xpr_no (by decide +kernel)
theorem r_64_1 : xfetch 64 1 = some (.iload_n 1, 1) := by decide +kernel
theorem n_64_1 : ∀ l, xpr 64 1 l = l := xpr_no (by decide +kernel)
theorem r_64_2 : xfetch 64 2 = some (.iload_n 2, 1) := by decide +kernel
theorem n_64_2 : ∀ l, xpr 64 2 l = l := xpr_no (by decide +kernel)
theorem r_64_3 : xfetch 64 3 = some (.invokevirtual 166, 3) := by decide +kernel
theorem n_64_3 : ∀ l, xpr 64 3 l = l := xpr_no (by decide +kernel)
theorem r_64_6 : xfetch 64 6 = some (.iload_n 3, 1) := by decide +kernel
theorem n_64_6 : ∀ l, xpr 64 6 l = l := xpr_no (by decide +kernel)
theorem r_64_7 : xfetch 64 7 = some (.iconst 3, 1) := by decide +kernel
theorem n_64_7 : ∀ l, xpr 64 7 l = l := xpr_no (by decide +kernel)
theorem r_64_8 : xfetch 64 8 = some (.invokestatic 150, 3) := by decide +kernel
theorem n_64_8 : ∀ l, xpr 64 8 l = l := xpr_no (by decide +kernel)
theorem r_64_11 : xfetch 64 11 = some (.aload_n 0, 1) := by decide +kernel
theorem n_64_11 : ∀ l, xpr 64 11 l = l := xpr_no (by decide +kernel)
theorem r_64_12 : xfetch 64 12 = some (.getfield 18, 3) := by decide +kernel
theorem n_64_12 : ∀ l, xpr 64 12 l = l := xpr_no (by decide +kernel)
theorem r_64_15 : xfetch 64 15 = some (.iload_n 1, 1) := by decide +kernel
theorem n_64_15 : ∀ l, xpr 64 15 l = l := xpr_no (by decide +kernel)
theorem r_64_16 : xfetch 64 16 = some (.aaload, 1) := by decide +kernel
theorem n_64_16 : ∀ l, xpr 64 16 l = l := xpr_no (by decide +kernel)
theorem r_64_17 : xfetch 64 17 = some (.getfield 120, 3) := by decide +kernel
theorem n_64_17 : ∀ l, xpr 64 17 l = l := xpr_no (by decide +kernel)
theorem r_64_20 : xfetch 64 20 = some (.astore 4, 2) := by decide +kernel
theorem n_64_20 : ∀ l, xpr 64 20 l = l := xpr_no (by decide +kernel)
theorem r_64_22 : xfetch 64 22 = some (.iload_n 3, 1) := by decide +kernel
theorem n_64_22 : ∀ l, xpr 64 22 l = l := xpr_no (by decide +kernel)
theorem r_64_23 : xfetch 64 23 = some (.tableswitch 49 0 2 #[25, 33, 41], 25) := by decide +kernel
theorem n_64_23 : ∀ l, xpr 64 23 l = l := xpr_no (by decide +kernel)
theorem r_64_48 : xfetch 64 48 = some (.aload 4, 2) := by decide +kernel
theorem n_64_48 : ∀ l, xpr 64 48 l = l := xpr_no (by decide +kernel)
theorem r_64_50 : xfetch 64 50 = some (.getfield 169, 3) := by decide +kernel
theorem n_64_50 : ∀ l, xpr 64 50 l = l := xpr_no (by decide +kernel)
theorem r_64_53 : xfetch 64 53 = some (.iload_n 2, 1) := by decide +kernel
theorem n_64_53 : ∀ l, xpr 64 53 l = l := xpr_no (by decide +kernel)
theorem r_64_54 : xfetch 64 54 = some (.iaload, 1) := by decide +kernel
theorem n_64_54 : ∀ l, xpr 64 54 l = l := xpr_no (by decide +kernel)
theorem r_64_55 : xfetch 64 55 = some (.ireturn, 1) := by decide +kernel
theorem n_64_55 : ∀ l, xpr 64 55 l = l := xpr_no (by decide +kernel)
theorem r_64_56 : xfetch 64 56 = some (.aload 4, 2) := by decide +kernel
theorem n_64_56 : ∀ l, xpr 64 56 l = l := xpr_no (by decide +kernel)
theorem r_64_58 : xfetch 64 58 = some (.getfield 172, 3) := by decide +kernel
theorem n_64_58 : ∀ l, xpr 64 58 l = l := xpr_no (by decide +kernel)
theorem r_64_61 : xfetch 64 61 = some (.iload_n 2, 1) := by decide +kernel
theorem n_64_61 : ∀ l, xpr 64 61 l = l := xpr_no (by decide +kernel)
theorem r_64_62 : xfetch 64 62 = some (.iaload, 1) := by decide +kernel
theorem n_64_62 : ∀ l, xpr 64 62 l = l := xpr_no (by decide +kernel)
theorem r_64_63 : xfetch 64 63 = some (.ireturn, 1) := by decide +kernel
theorem n_64_63 : ∀ l, xpr 64 63 l = l := xpr_no (by decide +kernel)
theorem r_64_64 : xfetch 64 64 = some (.aload 4, 2) := by decide +kernel
theorem n_64_64 : ∀ l, xpr 64 64 l = l := xpr_no (by decide +kernel)
theorem r_64_66 : xfetch 64 66 = some (.getfield 175, 3) := by decide +kernel
theorem n_64_66 : ∀ l, xpr 64 66 l = l := xpr_no (by decide +kernel)
theorem r_64_69 : xfetch 64 69 = some (.iload_n 2, 1) := by decide +kernel
theorem n_64_69 : ∀ l, xpr 64 69 l = l := xpr_no (by decide +kernel)
theorem r_64_70 : xfetch 64 70 = some (.iaload, 1) := by decide +kernel
theorem n_64_70 : ∀ l, xpr 64 70 l = l := xpr_no (by decide +kernel)
theorem r_64_71 : xfetch 64 71 = some (.ireturn, 1) := by decide +kernel
theorem n_64_71 : ∀ l, xpr 64 71 l = l := xpr_no (by decide +kernel)
theorem r_64_72 : xfetch 64 72 = some (.aload 4, 2) := by decide +kernel
theorem n_64_72 : ∀ l, xpr 64 72 l = l := xpr_no (by decide +kernel)
theorem r_64_74 : xfetch 64 74 = some (.getfield 178, 3) := by decide +kernel
theorem n_64_74 : ∀ l, xpr 64 74 l = l := xpr_no (by decide +kernel)
theorem r_64_77 : xfetch 64 77 = some (.iload_n 2, 1) := by decide +kernel
theorem n_64_77 : ∀ l, xpr 64 77 l = l := xpr_no (by decide +kernel)
theorem r_64_78 : xfetch 64 78 = some (.iaload, 1) := by decide +kernel
theorem n_64_78 : ∀ l, xpr 64 78 l = l := xpr_no (by decide +kernel)
theorem r_64_79 : xfetch 64 79 = some (.ireturn, 1) := by decide +kernel
theorem n_64_79 : ∀ l, xpr 64 79 l = l := xpr_no (by decide +kernel)
theorem v_RL_leafInfo_0 {S : Option (Nat × (Nat → Int32))} {s : zSt} {Q : Option Value ⊕ Nat → zSt → Prop} {x1 : Int} {x2 : Int} {x3 : Int} 
    (h : rng x1 ∧ (rng x2 ∧ ((0 ≤ x1 → x1 < zI s 3 0 → x1 < 6) ∧ (((0 ≤ x1 ∧ x1 < zI s 3 0) ∧ 0 ≤ x2 ∧ x2 < zI s (67 + 11 * x1) 0 → rng x3 ∧ ((0 ≤ x3 ∧ x3 ≤ 3 → (0 ≤ x1 ∧ x1 < 6) ∧ ((x3 = 0 → (0 ≤ x2 ∧ x2 < 40) ∧ (Q (rI (zI s (68 + 11 * x1) x2)) s)) ∧ ((x3 = 1 → (0 ≤ x2 ∧ x2 < 40) ∧ (Q (rI (zI s (69 + 11 * x1) x2)) s)) ∧ ((x3 = 2 → (0 ≤ x2 ∧ x2 < 40) ∧ (Q (rI (zI s (70 + 11 * x1) x2)) s)) ∧ (((x3 < 0 ∨ 2 < x3) → (0 ≤ x2 ∧ x2 < 40) ∧ (Q (rI (zI s (71 + 11 * x1) x2)) s))))))) ∧ ((¬ (0 ≤ x3 ∧ x3 ≤ 3) → Q (rT 0) (zbump s))))) ∧ ((¬ ((0 ≤ x1 ∧ x1 < zI s 3 0) ∧ 0 ≤ x2 ∧ x2 < zI s (67 + 11 * x1) 0) → Q (rT 2) (zbump s))))))) :
    wp S 64 0 [(0, rf 2), (1, iv x1), (2, iv x2), (3, iv x3)] [] s Q := by
  refine i_aload_n (a := 2) r_64_0 (n_64_0 _) rfl ?_
  refine i_iload_n (x := x1) r_64_1 (n_64_1 _) rfl ?_
  refine i_iload_n (x := x2) r_64_2 (n_64_2 _) rfl ?_
  obtain ⟨g1, h⟩ := h
  obtain ⟨g2, h⟩ := h
  obtain ⟨g3, h⟩ := h
  refine wp_virt (b := 2) (rest := []) (Ls := [(0, rf 2), (1, iv x1), (2, iv x2)]) r_64_3 (n_64_3 _) rfl ⟨rfl, rfl, by decide, by decide⟩ rfl rfl lf_2 ⟨rfl, Nat.le_of_ble_eq_true rfl, Nat.le_of_ble_eq_true rfl⟩ rfl (K_RL_checkLeafOfRecord g1 g2 g3) ?_
  rintro _ _ (⟨c4, rfl, rfl⟩ | ⟨c4, rfl, rfl⟩)
  · replace h := h.1 c4
    refine .inl ⟨none, rfl, ?_⟩
    show wp S 64 6 [(0, rf 2), (1, iv x1), (2, iv x2), (3, iv x3)] [] s Q
    refine i_iload_n (x := x3) r_64_6 (n_64_6 _) rfl ?_
    refine i_iconst r_64_7 (n_64_7 _) ?_
    obtain ⟨g5, h⟩ := h
    refine wp_stat (rest := []) (Ls := [(0, iv x3), (1, iv 3)]) r_64_8 (n_64_8 _) rfl ⟨rfl, by decide, by decide, by decide⟩ rfl rfl ⟨rfl, Nat.le_of_ble_eq_true rfl, Nat.le_of_ble_eq_true rfl⟩ rfl (K_RL_checkWhat g5 ⟨by omega, by omega⟩) ?_
    rintro _ _ (⟨c6, rfl, rfl⟩ | ⟨c6, rfl, rfl⟩)
    · replace h := h.1 c6
      refine .inl ⟨none, rfl, ?_⟩
      show wp S 64 11 [(0, rf 2), (1, iv x1), (2, iv x2), (3, iv x3)] [] s Q
      refine i_aload_n (a := 2) r_64_11 (n_64_11 _) rfl ?_
      refine i_getR (a := 2) (b := 34) r_64_12 (n_64_12 _) rfl rfl rfl (by omega) lf_2 (by omega) ?_
      refine i_iload_n (x := x1) r_64_15 (n_64_15 _) rfl ?_
      obtain ⟨g7, h⟩ := h
      refine i_aaload (c := 4) (a := 34) (j := x1) (b := 62 + 11 * x1) r_64_16 (n_64_16 _) lf_34 ⟨by omega, by omega⟩ (by omega) (by omega) rfl (by omega) ?_
      have t8 := e_4 (j := x1) lf_34 (by omega) (by omega)
      rw [show 34 + 28 + 11 * x1 = 62 + 11 * x1 by omega] at t8
      refine i_getR (a := 62 + 11 * x1) (b := 67 + 11 * x1) r_64_17 (n_64_17 _) rfl rfl rfl (by omega) t8 (by omega) ?_
      have t9 := (t_4_4 t8)
      rw [show (62 + 11 * x1) + 5 = 67 + 11 * x1 by omega] at t9
      refine i_astore (l' := [(0, rf 2), (1, iv x1), (2, iv x2), (3, iv x3), (4, rf (67 + 11 * x1))]) r_64_20 (n_64_20 _) (by decide) rfl ?_
      refine i_iload_n (x := x3) r_64_22 (n_64_22 _) rfl ?_
      rcases (by omega : x3 = 0 ∨ x3 = 1 ∨ x3 = 2 ∨ (x3 < 0 ∨ 2 < x3)) with c10 | c10 | c10 | c10
      · replace h := h.1 c10
        refine i_sw_hit (kk := 0) (t := 48) r_64_23 (n_64_23 _) (by omega) g5 (by omega) rfl rfl ?_
        refine i_aload (a := 67 + 11 * x1) r_64_48 (n_64_48 _) rfl ?_
        refine i_getR (a := 67 + 11 * x1) (b := 68 + 11 * x1) r_64_50 (n_64_50 _) rfl rfl rfl (by omega) t9 (by omega) ?_
        have t11 := (t_2_1 t9)
        rw [show (67 + 11 * x1) + 1 = 68 + 11 * x1 by omega] at t11
        refine i_iload_n (x := x2) r_64_53 (n_64_53 _) rfl ?_
        obtain ⟨g12, h⟩ := h
        refine i_iaload (a := 68 + 11 * x1) (j := x2) r_64_54 (n_64_54 _) t11 ⟨by omega, by omega⟩ (by omega) (by omega) (fun q13 => ?_)
        exact i_ireturn r_64_55 (n_64_55 _) rfl h
      · replace h := h.2.1 c10
        refine i_sw_hit (kk := 1) (t := 56) r_64_23 (n_64_23 _) (by omega) g5 (by omega) rfl rfl ?_
        refine i_aload (a := 67 + 11 * x1) r_64_56 (n_64_56 _) rfl ?_
        refine i_getR (a := 67 + 11 * x1) (b := 69 + 11 * x1) r_64_58 (n_64_58 _) rfl rfl rfl (by omega) t9 (by omega) ?_
        have t14 := (t_2_2 t9)
        rw [show (67 + 11 * x1) + 2 = 69 + 11 * x1 by omega] at t14
        refine i_iload_n (x := x2) r_64_61 (n_64_61 _) rfl ?_
        obtain ⟨g15, h⟩ := h
        refine i_iaload (a := 69 + 11 * x1) (j := x2) r_64_62 (n_64_62 _) t14 ⟨by omega, by omega⟩ (by omega) (by omega) (fun q16 => ?_)
        exact i_ireturn r_64_63 (n_64_63 _) rfl h
      · replace h := h.2.2.1 c10
        refine i_sw_hit (kk := 2) (t := 64) r_64_23 (n_64_23 _) (by omega) g5 (by omega) rfl rfl ?_
        refine i_aload (a := 67 + 11 * x1) r_64_64 (n_64_64 _) rfl ?_
        refine i_getR (a := 67 + 11 * x1) (b := 70 + 11 * x1) r_64_66 (n_64_66 _) rfl rfl rfl (by omega) t9 (by omega) ?_
        have t17 := (t_2_3 t9)
        rw [show (67 + 11 * x1) + 3 = 70 + 11 * x1 by omega] at t17
        refine i_iload_n (x := x2) r_64_69 (n_64_69 _) rfl ?_
        obtain ⟨g18, h⟩ := h
        refine i_iaload (a := 70 + 11 * x1) (j := x2) r_64_70 (n_64_70 _) t17 ⟨by omega, by omega⟩ (by omega) (by omega) (fun q19 => ?_)
        exact i_ireturn r_64_71 (n_64_71 _) rfl h
      · replace h := h.2.2.2 c10
        refine i_sw_out (t := 72) r_64_23 (n_64_23 _) c10 g5 rfl ?_
        refine i_aload (a := 67 + 11 * x1) r_64_72 (n_64_72 _) rfl ?_
        refine i_getR (a := 67 + 11 * x1) (b := 71 + 11 * x1) r_64_74 (n_64_74 _) rfl rfl rfl (by omega) t9 (by omega) ?_
        have t20 := (t_2_4 t9)
        rw [show (67 + 11 * x1) + 4 = 71 + 11 * x1 by omega] at t20
        refine i_iload_n (x := x2) r_64_77 (n_64_77 _) rfl ?_
        obtain ⟨g21, h⟩ := h
        refine i_iaload (a := 71 + 11 * x1) (j := x2) r_64_78 (n_64_78 _) t20 ⟨by omega, by omega⟩ (by omega) (by omega) (fun q22 => ?_)
        exact i_ireturn r_64_79 (n_64_79 _) rfl h
    · replace h := h.2 c6
      exact .inr ⟨_, rfl, rfl, .inl ⟨rfl, h⟩⟩
  · replace h := h.2 c4
    exact .inr ⟨_, rfl, .inl ⟨rfl, h⟩⟩
theorem r_67_0 : xfetch 67 0 = some (.aload_n 0, 1) := by decide +kernel
theorem n_67_0 : ∀ l, xpr 67 0 l = l := xpr_no (by decide +kernel)
theorem r_67_1 : xfetch 67 1 = some (.iload_n 1, 1) := by decide +kernel
theorem n_67_1 : ∀ l, xpr 67 1 l = l := xpr_no (by decide +kernel)
theorem r_67_2 : xfetch 67 2 = some (.iload_n 2, 1) := by decide +kernel
theorem n_67_2 : ∀ l, xpr 67 2 l = l := xpr_no (by decide +kernel)
theorem r_67_3 : xfetch 67 3 = some (.invokevirtual 166, 3) := by decide +kernel
theorem n_67_3 : ∀ l, xpr 67 3 l = l := xpr_no (by decide +kernel)
theorem r_67_6 : xfetch 67 6 = some (.aload_n 0, 1) := by decide +kernel
theorem n_67_6 : ∀ l, xpr 67 6 l = l := xpr_no (by decide +kernel)
theorem r_67_7 : xfetch 67 7 = some (.getfield 18, 3) := by decide +kernel
theorem n_67_7 : ∀ l, xpr 67 7 l = l := xpr_no (by decide +kernel)
theorem r_67_10 : xfetch 67 10 = some (.iload_n 1, 1) := by decide +kernel
theorem n_67_10 : ∀ l, xpr 67 10 l = l := xpr_no (by decide +kernel)
theorem r_67_11 : xfetch 67 11 = some (.aaload, 1) := by decide +kernel
theorem n_67_11 : ∀ l, xpr 67 11 l = l := xpr_no (by decide +kernel)
theorem r_67_12 : xfetch 67 12 = some (.getfield 120, 3) := by decide +kernel
theorem n_67_12 : ∀ l, xpr 67 12 l = l := xpr_no (by decide +kernel)
theorem r_67_15 : xfetch 67 15 = some (.getfield 181, 3) := by decide +kernel
theorem n_67_15 : ∀ l, xpr 67 15 l = l := xpr_no (by decide +kernel)
theorem r_67_18 : xfetch 67 18 = some (.iload_n 2, 1) := by decide +kernel
theorem n_67_18 : ∀ l, xpr 67 18 l = l := xpr_no (by decide +kernel)
theorem r_67_19 : xfetch 67 19 = some (.laload, 1) := by decide +kernel
theorem n_67_19 : ∀ l, xpr 67 19 l = l := xpr_no (by decide +kernel)
theorem r_67_20 : xfetch 67 20 = some (.iload_n 3, 1) := by decide +kernel
theorem n_67_20 : ∀ l, xpr 67 20 l = l := xpr_no (by decide +kernel)
theorem r_67_21 : xfetch 67 21 = some (.invokestatic 184, 3) := by decide +kernel
theorem n_67_21 : ∀ l, xpr 67 21 l = l := xpr_no (by decide +kernel)
theorem r_67_24 : xfetch 67 24 = some (.ireturn, 1) := by decide +kernel
theorem n_67_24 : ∀ l, xpr 67 24 l = l := xpr_no (by decide +kernel)
theorem v_RL_pathByte_0 {S : Option (Nat × (Nat → Int32))} {s : zSt} {Q : Option Value ⊕ Nat → zSt → Prop} {x1 : Int} {x2 : Int} {x3 : Int} 
    (h : rng x1 ∧ (rng x2 ∧ ((0 ≤ x1 → x1 < zI s 3 0 → x1 < 6) ∧ (((0 ≤ x1 ∧ x1 < zI s 3 0) ∧ 0 ≤ x2 ∧ x2 < zI s (67 + 11 * x1) 0 → (0 ≤ x1 ∧ x1 < 6) ∧ ((0 ≤ x2 ∧ x2 < 40) ∧ (wp S 68 0 [(0, .long (zL s (72 + 11 * x1) x2)), (2, iv x3)] [] s (fun o10 s10 => zkI (fun y10 => Q (rI y10) s10) (fun e10 => False) o10)))) ∧ ((¬ ((0 ≤ x1 ∧ x1 < zI s 3 0) ∧ 0 ≤ x2 ∧ x2 < zI s (67 + 11 * x1) 0) → Q (rT 2) (zbump s))))))) :
    wp S 67 0 [(0, rf 2), (1, iv x1), (2, iv x2), (3, iv x3)] [] s Q := by
  refine i_aload_n (a := 2) r_67_0 (n_67_0 _) rfl ?_
  refine i_iload_n (x := x1) r_67_1 (n_67_1 _) rfl ?_
  refine i_iload_n (x := x2) r_67_2 (n_67_2 _) rfl ?_
  obtain ⟨g1, h⟩ := h
  obtain ⟨g2, h⟩ := h
  obtain ⟨g3, h⟩ := h
  refine wp_virt (b := 2) (rest := []) (Ls := [(0, rf 2), (1, iv x1), (2, iv x2)]) r_67_3 (n_67_3 _) rfl ⟨rfl, rfl, by decide, by decide⟩ rfl rfl lf_2 ⟨rfl, Nat.le_of_ble_eq_true rfl, Nat.le_of_ble_eq_true rfl⟩ rfl (K_RL_checkLeafOfRecord g1 g2 g3) ?_
  rintro _ _ (⟨c4, rfl, rfl⟩ | ⟨c4, rfl, rfl⟩)
  · replace h := h.1 c4
    refine .inl ⟨none, rfl, ?_⟩
    show wp S 67 6 [(0, rf 2), (1, iv x1), (2, iv x2), (3, iv x3)] [] s Q
    refine i_aload_n (a := 2) r_67_6 (n_67_6 _) rfl ?_
    refine i_getR (a := 2) (b := 34) r_67_7 (n_67_7 _) rfl rfl rfl (by omega) lf_2 (by omega) ?_
    refine i_iload_n (x := x1) r_67_10 (n_67_10 _) rfl ?_
    obtain ⟨g5, h⟩ := h
    refine i_aaload (c := 4) (a := 34) (j := x1) (b := 62 + 11 * x1) r_67_11 (n_67_11 _) lf_34 ⟨by omega, by omega⟩ (by omega) (by omega) rfl (by omega) ?_
    have t6 := e_4 (j := x1) lf_34 (by omega) (by omega)
    rw [show 34 + 28 + 11 * x1 = 62 + 11 * x1 by omega] at t6
    refine i_getR (a := 62 + 11 * x1) (b := 67 + 11 * x1) r_67_12 (n_67_12 _) rfl rfl rfl (by omega) t6 (by omega) ?_
    have t7 := (t_4_4 t6)
    rw [show (62 + 11 * x1) + 5 = 67 + 11 * x1 by omega] at t7
    refine i_getR (a := 67 + 11 * x1) (b := 72 + 11 * x1) r_67_15 (n_67_15 _) rfl rfl rfl (by omega) t7 (by omega) ?_
    have t8 := (t_2_5 t7)
    rw [show (67 + 11 * x1) + 5 = 72 + 11 * x1 by omega] at t8
    refine i_iload_n (x := x2) r_67_18 (n_67_18 _) rfl ?_
    obtain ⟨g9, h⟩ := h
    refine i_laload (a := 72 + 11 * x1) (j := x2) r_67_19 (n_67_19 _) t8 ⟨by omega, by omega⟩ (by omega) (by omega) ?_
    refine i_iload_n (x := x3) r_67_20 (n_67_20 _) rfl ?_
    refine wp_stat (rest := []) (Ls := [(0, .long (zL s (72 + 11 * x1) x2)), (2, iv x3)]) r_67_21 (n_67_21 _) rfl ⟨rfl, by decide, by decide, by decide⟩ rfl rfl ⟨rfl, Nat.le_of_ble_eq_true rfl, Nat.le_of_ble_eq_true rfl⟩ rfl h ?_
    intro o10 s10 h
    rcases h with ⟨y10, q11, rfl, h⟩ | ⟨e10, rfl, h⟩
    · refine .inl ⟨some (iv y10), rfl, ?_⟩
      show wp S 67 24 [(0, rf 2), (1, iv x1), (2, iv x2), (3, iv x3)] [iv y10] s10 Q
      exact i_ireturn r_67_24 (n_67_24 _) rfl h
    · skip
      exact h.elim
  · replace h := h.2 c4
    exact .inr ⟨_, rfl, .inl ⟨rfl, h⟩⟩
theorem r_68_0 : xfetch 68 0 = some (.iload_n 2, 1) := by decide +kernel
theorem n_68_0 : ∀ l, xpr 68 0 l = l := xpr_no (by decide +kernel)
theorem r_68_1 : xfetch 68 1 = some (.ifCond .ge 5, 3) := by decide +kernel
theorem n_68_1 : ∀ l, xpr 68 1 l = l := xpr_no (by decide +kernel)
theorem r_68_4 : xfetch 68 4 = some (.iconst (-1), 1) := by decide +kernel
theorem n_68_4 : ∀ l, xpr 68 4 l = l := xpr_no (by decide +kernel)
theorem r_68_5 : xfetch 68 5 = some (.ireturn, 1) := by decide +kernel
theorem n_68_5 : ∀ l, xpr 68 5 l = l := xpr_no (by decide +kernel)
theorem r_68_6 : xfetch 68 6 = some (.lload_n 0, 1) := by decide +kernel
theorem n_68_6 : ∀ l, xpr 68 6 l = l := xpr_no (by decide +kernel)
theorem r_68_7 : xfetch 68 7 = some (.lstore_n 3, 1) := by decide +kernel
theorem n_68_7 : ∀ l, xpr 68 7 l = l := xpr_no (by decide +kernel)
theorem r_68_8 : xfetch 68 8 = some (.iload_n 2, 1) := by decide +kernel
theorem n_68_8 : ∀ l, xpr 68 8 l = l := xpr_no (by decide +kernel)
theorem r_68_9 : xfetch 68 9 = some (.istore 5, 2) := by decide +kernel
theorem n_68_9 : ∀ l, xpr 68 9 l = l := xpr_no (by decide +kernel)
theorem r_68_11 : xfetch 68 11 = some (.iconst 0, 1) := by decide +kernel
theorem n_68_11 : ∀ l, xpr 68 11 l = l := xpr_no (by decide +kernel)
theorem r_68_12 : xfetch 68 12 = some (.istore 6, 2) := by decide +kernel
theorem n_68_12 : ∀ l, xpr 68 12 l = l := xpr_no (by decide +kernel)
theorem r_68_14 : xfetch 68 14 = some (.iload 6, 2) := by decide +kernel
theorem r_68_16 : xfetch 68 16 = some (.bipush 6, 2) := by decide +kernel
theorem n_68_16 : ∀ l, xpr 68 16 l = l := xpr_no (by decide +kernel)
theorem r_68_18 : xfetch 68 18 = some (.if_icmp .ge 77, 3) := by decide +kernel
theorem n_68_18 : ∀ l, xpr 68 18 l = l := xpr_no (by decide +kernel)
theorem r_68_21 : xfetch 68 21 = some (.lload_n 3, 1) := by decide +kernel
theorem n_68_21 : ∀ l, xpr 68 21 l = l := xpr_no (by decide +kernel)
theorem r_68_22 : xfetch 68 22 = some (.lconst 0, 1) := by decide +kernel
theorem n_68_22 : ∀ l, xpr 68 22 l = l := xpr_no (by decide +kernel)
theorem r_68_23 : xfetch 68 23 = some (.lcmp, 1) := by decide +kernel
theorem n_68_23 : ∀ l, xpr 68 23 l = l := xpr_no (by decide +kernel)
theorem r_68_24 : xfetch 68 24 = some (.ifCond .eq 71, 3) := by decide +kernel
theorem n_68_24 : ∀ l, xpr 68 24 l = l := xpr_no (by decide +kernel)
theorem r_68_27 : xfetch 68 27 = some (.lload_n 3, 1) := by decide +kernel
theorem n_68_27 : ∀ l, xpr 68 27 l = l := xpr_no (by decide +kernel)
theorem r_68_28 : xfetch 68 28 = some (.ldc2_w 464, 3) := by decide +kernel
theorem n_68_28 : ∀ l, xpr 68 28 l = l := xpr_no (by decide +kernel)
theorem r_68_31 : xfetch 68 31 = some (.land, 1) := by decide +kernel
theorem n_68_31 : ∀ l, xpr 68 31 l = l := xpr_no (by decide +kernel)
theorem r_68_32 : xfetch 68 32 = some (.l2i, 1) := by decide +kernel
theorem n_68_32 : ∀ l, xpr 68 32 l = l := xpr_no (by decide +kernel)
theorem r_68_33 : xfetch 68 33 = some (.istore 7, 2) := by decide +kernel
theorem n_68_33 : ∀ l, xpr 68 33 l = l := xpr_no (by decide +kernel)
theorem r_68_35 : xfetch 68 35 = some (.lload_n 3, 1) := by decide +kernel
theorem n_68_35 : ∀ l, xpr 68 35 l = l := xpr_no (by decide +kernel)
theorem r_68_36 : xfetch 68 36 = some (.bipush 8, 2) := by decide +kernel
theorem n_68_36 : ∀ l, xpr 68 36 l = l := xpr_no (by decide +kernel)
theorem r_68_38 : xfetch 68 38 = some (.lshr, 1) := by decide +kernel
theorem n_68_38 : ∀ l, xpr 68 38 l = l := xpr_no (by decide +kernel)
theorem r_68_39 : xfetch 68 39 = some (.lstore_n 3, 1) := by decide +kernel
theorem n_68_39 : ∀ l, xpr 68 39 l = l := xpr_no (by decide +kernel)
theorem r_68_40 : xfetch 68 40 = some (.iload 7, 2) := by decide +kernel
theorem n_68_40 : ∀ l, xpr 68 40 l = l := xpr_no (by decide +kernel)
theorem r_68_42 : xfetch 68 42 = some (.bipush 8, 2) := by decide +kernel
theorem n_68_42 : ∀ l, xpr 68 42 l = l := xpr_no (by decide +kernel)
theorem r_68_44 : xfetch 68 44 = some (.irem, 1) := by decide +kernel
theorem n_68_44 : ∀ l, xpr 68 44 l = l := xpr_no (by decide +kernel)
theorem r_68_45 : xfetch 68 45 = some (.ifCond .ne 7, 3) := by decide +kernel
theorem n_68_45 : ∀ l, xpr 68 45 l = l := xpr_no (by decide +kernel)
theorem r_68_48 : xfetch 68 48 = some (.iconst 1, 1) := by decide +kernel
theorem n_68_48 : ∀ l, xpr 68 48 l = l := xpr_no (by decide +kernel)
theorem r_68_49 : xfetch 68 49 = some (.goto 4, 3) := by decide +kernel
theorem n_68_49 : ∀ l, xpr 68 49 l = l := xpr_no (by decide +kernel)
theorem r_68_52 : xfetch 68 52 = some (.iconst 4, 1) := by decide +kernel
theorem n_68_52 : ∀ l, xpr 68 52 l = l := xpr_no (by decide +kernel)
theorem r_68_53 : xfetch 68 53 = some (.lload_n 3, 1) := by decide +kernel
theorem n_68_53 : ∀ l, xpr 68 53 l = l := xpr_no (by decide +kernel)
theorem r_68_54 : xfetch 68 54 = some (.lconst 0, 1) := by decide +kernel
theorem n_68_54 : ∀ l, xpr 68 54 l = l := xpr_no (by decide +kernel)
theorem r_68_55 : xfetch 68 55 = some (.lcmp, 1) := by decide +kernel
theorem n_68_55 : ∀ l, xpr 68 55 l = l := xpr_no (by decide +kernel)
theorem r_68_56 : xfetch 68 56 = some (.ifCond .ne 7, 3) := by decide +kernel
theorem n_68_56 : ∀ l, xpr 68 56 l = l := xpr_no (by decide +kernel)
theorem r_68_59 : xfetch 68 59 = some (.iconst 0, 1) := by decide +kernel
theorem n_68_59 : ∀ l, xpr 68 59 l = l := xpr_no (by decide +kernel)
theorem r_68_60 : xfetch 68 60 = some (.goto 4, 3) := by decide +kernel
theorem n_68_60 : ∀ l, xpr 68 60 l = l := xpr_no (by decide +kernel)
theorem r_68_63 : xfetch 68 63 = some (.iconst 1, 1) := by decide +kernel
theorem n_68_63 : ∀ l, xpr 68 63 l = l := xpr_no (by decide +kernel)
theorem r_68_64 : xfetch 68 64 = some (.iadd, 1) := by decide +kernel
theorem n_68_64 : ∀ l, xpr 68 64 l = l := xpr_no (by decide +kernel)
theorem r_68_65 : xfetch 68 65 = some (.istore 8, 2) := by decide +kernel
theorem n_68_65 : ∀ l, xpr 68 65 l = l := xpr_no (by decide +kernel)
theorem r_68_67 : xfetch 68 67 = some (.iload 5, 2) := by decide +kernel
theorem n_68_67 : ∀ l, xpr 68 67 l = l := xpr_no (by decide +kernel)
theorem r_68_69 : xfetch 68 69 = some (.iload 8, 2) := by decide +kernel
theorem n_68_69 : ∀ l, xpr 68 69 l = l := xpr_no (by decide +kernel)
theorem r_68_71 : xfetch 68 71 = some (.if_icmp .ge 11, 3) := by decide +kernel
theorem n_68_71 : ∀ l, xpr 68 71 l = l := xpr_no (by decide +kernel)
theorem r_68_74 : xfetch 68 74 = some (.iload 7, 2) := by decide +kernel
theorem n_68_74 : ∀ l, xpr 68 74 l = l := xpr_no (by decide +kernel)
theorem r_68_76 : xfetch 68 76 = some (.iload 5, 2) := by decide +kernel
theorem n_68_76 : ∀ l, xpr 68 76 l = l := xpr_no (by decide +kernel)
theorem r_68_78 : xfetch 68 78 = some (.invokestatic 466, 3) := by decide +kernel
theorem n_68_78 : ∀ l, xpr 68 78 l = l := xpr_no (by decide +kernel)
theorem r_68_81 : xfetch 68 81 = some (.ireturn, 1) := by decide +kernel
theorem n_68_81 : ∀ l, xpr 68 81 l = l := xpr_no (by decide +kernel)
theorem r_68_82 : xfetch 68 82 = some (.iload 5, 2) := by decide +kernel
theorem n_68_82 : ∀ l, xpr 68 82 l = l := xpr_no (by decide +kernel)
theorem r_68_84 : xfetch 68 84 = some (.iload 8, 2) := by decide +kernel
theorem n_68_84 : ∀ l, xpr 68 84 l = l := xpr_no (by decide +kernel)
theorem r_68_86 : xfetch 68 86 = some (.isub, 1) := by decide +kernel
theorem n_68_86 : ∀ l, xpr 68 86 l = l := xpr_no (by decide +kernel)
theorem r_68_87 : xfetch 68 87 = some (.istore 5, 2) := by decide +kernel
theorem n_68_87 : ∀ l, xpr 68 87 l = l := xpr_no (by decide +kernel)
theorem r_68_89 : xfetch 68 89 = some (.iinc 6 1, 3) := by decide +kernel
theorem n_68_89 : ∀ l, xpr 68 89 l = l := xpr_no (by decide +kernel)
theorem r_68_92 : xfetch 68 92 = some (.goto (-78), 3) := by decide +kernel
theorem n_68_92 : ∀ l, xpr 68 92 l = l := xpr_no (by decide +kernel)
theorem r_68_95 : xfetch 68 95 = some (.iconst (-1), 1) := by decide +kernel
theorem n_68_95 : ∀ l, xpr 68 95 l = l := xpr_no (by decide +kernel)
theorem r_68_96 : xfetch 68 96 = some (.ireturn, 1) := by decide +kernel
theorem n_68_96 : ∀ l, xpr 68 96 l = l := xpr_no (by decide +kernel)
theorem v_RL_signOfPath_0 {S : Option (Nat × (Nat → Int32))} {s : zSt} {Q : Option Value ⊕ Nat → zSt → Prop} {u0 : Int64} {x2 : Int} 
    (h : rng x2 ∧ ((0 ≤ x2 → wp S 68 14 [(3, .long u0), (5, iv x2), (6, iv 0)] [] s Q) ∧ (x2 < 0 → Q (rI (-1)) s))) :
    wp S 68 0 [(0, .long u0), (2, iv x2)] [] s Q := by
  refine i_iload_n (x := x2) r_68_0 (n_68_0 _) rfl ?_
  obtain ⟨g1, h⟩ := h
  refine i_if (t := 6) r_68_1 (n_68_1 _) rfl (T_ge g1 ⟨by omega, by omega⟩) (fun c2 => ?_) (fun c2 => ?_)
  · replace h := h.1 c2
    refine i_lload_n (u := u0) r_68_6 (n_68_6 _) rfl ?_
    refine i_lstore_n (l' := [(0, .long u0), (2, iv x2), (3, .long u0)]) r_68_7 (n_68_7 _) (by decide) rfl ?_
    refine i_iload_n (x := x2) r_68_8 (n_68_8 _) rfl ?_
    refine i_istore (l' := [(0, .long u0), (2, iv x2), (3, .long u0), (5, iv x2)]) r_68_9 (n_68_9 _) (by decide) rfl ?_
    refine i_iconst r_68_11 (n_68_11 _) ?_
    refine i_istore (l' := [(0, .long u0), (2, iv x2), (3, .long u0), (5, iv x2), (6, iv 0)]) r_68_12 (n_68_12 _) (by decide) rfl ?_
    exact wp_pr (l' := [(3, .long u0), (5, iv x2), (6, iv 0)]) rfl h
  · replace h := h.2 c2
    refine i_iconst r_68_4 (n_68_4 _) ?_
    exact i_ireturn r_68_5 (n_68_5 _) rfl h
theorem v_RL_signOfPath_14 {S : Option (Nat × (Nat → Int32))} {s : zSt} {Q : Option Value ⊕ Nat → zSt → Prop} {u3 : Int64} {x5 : Int} {x6 : Int} 
    (h : rng x6 ∧ ((6 ≤ x6 → Q (rI (-1)) s) ∧ (x6 < 6 → ((zcmp u3 0) = 0 → Q (rI (-1)) s) ∧ ((zcmp u3 0) ≠ 0 → 0 ≤ (zl2i (u3 &&& 255)) ∧ (rng ((zl2i (u3 &&& 255)) % 8) ∧ ((((zl2i (u3 &&& 255)) % 8) ≠ 0 → ((zcmp (zshrL u3 8) 0) ≠ 0 → rng x5 ∧ (rng (4 + 1) ∧ (((4 + 1) ≤ x5 → wp S 68 14 [(3, .long (zshrL u3 8)), (5, iv (x5 - (4 + 1))), (6, iv (x6 + 1))] [] s Q) ∧ (x5 < (4 + 1) → wp S 69 0 [(0, iv (zl2i (u3 &&& 255))), (1, iv x5)] [] s (fun o11 s11 => zkI (fun y11 => Q (rI y11) s11) (fun e11 => False) o11))))) ∧ ((zcmp (zshrL u3 8) 0) = 0 → rng x5 ∧ (rng (4 + 0) ∧ (((4 + 0) ≤ x5 → wp S 68 14 [(3, .long (zshrL u3 8)), (5, iv (x5 - (4 + 0))), (6, iv (x6 + 1))] [] s Q) ∧ (x5 < (4 + 0) → wp S 69 0 [(0, iv (zl2i (u3 &&& 255))), (1, iv x5)] [] s (fun o16 s16 => zkI (fun y16 => Q (rI y16) s16) (fun e16 => False) o16)))))) ∧ (((zl2i (u3 &&& 255)) % 8) = 0 → ((zcmp (zshrL u3 8) 0) ≠ 0 → rng x5 ∧ (rng (1 + 1) ∧ (((1 + 1) ≤ x5 → wp S 68 14 [(3, .long (zshrL u3 8)), (5, iv (x5 - (1 + 1))), (6, iv (x6 + 1))] [] s Q) ∧ (x5 < (1 + 1) → wp S 69 0 [(0, iv (zl2i (u3 &&& 255))), (1, iv x5)] [] s (fun o22 s22 => zkI (fun y22 => Q (rI y22) s22) (fun e22 => False) o22))))) ∧ ((zcmp (zshrL u3 8) 0) = 0 → rng x5 ∧ (rng (1 + 0) ∧ (((1 + 0) ≤ x5 → wp S 68 14 [(3, .long (zshrL u3 8)), (5, iv (x5 - (1 + 0))), (6, iv (x6 + 1))] [] s Q) ∧ (x5 < (1 + 0) → wp S 69 0 [(0, iv (zl2i (u3 &&& 255))), (1, iv x5)] [] s (fun o27 s27 => zkI (fun y27 => Q (rI y27) s27) (fun e27 => False) o27)))))))))))) :
    wp S 68 14 [(3, .long u3), (5, iv x5), (6, iv x6)] [] s Q := by
  refine i_iload (x := x6) r_68_14 rfl rfl ?_
  refine i_bipush r_68_16 (n_68_16 _) rfl ?_
  obtain ⟨g1, h⟩ := h
  refine i_icmp (t := 95) r_68_18 (n_68_18 _) rfl (T_ge g1 ⟨by omega, by omega⟩) (fun c2 => ?_) (fun c2 => ?_)
  · replace h := h.1 c2
    refine i_iconst r_68_95 (n_68_95 _) ?_
    exact i_ireturn r_68_96 (n_68_96 _) rfl h
  · replace h := h.2 c2
    refine i_lload_n (u := u3) r_68_21 (n_68_21 _) rfl ?_
    refine i_lconst r_68_22 (n_68_22 _) ?_
    refine i_lcmp r_68_23 (n_68_23 _) ?_
    refine i_if (t := 95) r_68_24 (n_68_24 _) rfl (T_eq (zcmp_rng _ _) ⟨by omega, by omega⟩) (fun c3 => ?_) (fun c3 => ?_)
    · replace h := h.1 c3
      refine i_iconst r_68_95 (n_68_95 _) ?_
      exact i_ireturn r_68_96 (n_68_96 _) rfl h
    · replace h := h.2 c3
      refine i_lload_n (u := u3) r_68_27 (n_68_27 _) rfl ?_
      refine i_ldc2 r_68_28 (n_68_28 _) rfl ?_
      refine i_land r_68_31 (n_68_31 _) ?_
      refine i_l2i r_68_32 (n_68_32 _) ?_
      refine i_istore (l' := [(3, .long u3), (5, iv x5), (6, iv x6), (7, iv (zl2i (u3 &&& 255)))]) r_68_33 (n_68_33 _) (by decide) rfl ?_
      refine i_lload_n (u := u3) r_68_35 (n_68_35 _) rfl ?_
      refine i_bipush r_68_36 (n_68_36 _) rfl ?_
      refine i_lshr r_68_38 (n_68_38 _) ?_
      refine i_lstore_n (l' := [(3, .long (zshrL u3 8)), (5, iv x5), (6, iv x6), (7, iv (zl2i (u3 &&& 255)))]) r_68_39 (n_68_39 _) (by decide) rfl ?_
      refine i_iload (x := zl2i (u3 &&& 255)) r_68_40 (n_68_40 _) rfl ?_
      refine i_bipush r_68_42 (n_68_42 _) rfl ?_
      obtain ⟨g4, h⟩ := h
      refine i_irem r_68_44 (n_68_44 _) (rng_to _) ⟨by omega, by omega⟩ (by omega) (by omega) ?_
      obtain ⟨g5, h⟩ := h
      refine i_if (t := 52) r_68_45 (n_68_45 _) rfl (T_ne g5 ⟨by omega, by omega⟩) (fun c6 => ?_) (fun c6 => ?_)
      · replace h := h.1 c6
        refine i_iconst r_68_52 (n_68_52 _) ?_
        refine i_lload_n (u := zshrL u3 8) r_68_53 (n_68_53 _) rfl ?_
        refine i_lconst r_68_54 (n_68_54 _) ?_
        refine i_lcmp r_68_55 (n_68_55 _) ?_
        refine i_if (t := 63) r_68_56 (n_68_56 _) rfl (T_ne (zcmp_rng _ _) ⟨by omega, by omega⟩) (fun c7 => ?_) (fun c7 => ?_)
        · replace h := h.1 c7
          refine i_iconst r_68_63 (n_68_63 _) ?_
          refine i_iadd r_68_64 (n_68_64 _) ?_
          refine i_istore (l' := [(3, .long (zshrL u3 8)), (5, iv x5), (6, iv x6), (7, iv (zl2i (u3 &&& 255))), (8, iv (4 + 1))]) r_68_65 (n_68_65 _) (by decide) rfl ?_
          refine i_iload (x := x5) r_68_67 (n_68_67 _) rfl ?_
          refine i_iload (x := 4 + 1) r_68_69 (n_68_69 _) rfl ?_
          obtain ⟨g8, h⟩ := h
          obtain ⟨g9, h⟩ := h
          refine i_icmp (t := 82) r_68_71 (n_68_71 _) rfl (T_ge g8 g9) (fun c10 => ?_) (fun c10 => ?_)
          · replace h := h.1 c10
            refine i_iload (x := x5) r_68_82 (n_68_82 _) rfl ?_
            refine i_iload (x := 4 + 1) r_68_84 (n_68_84 _) rfl ?_
            refine i_isub r_68_86 (n_68_86 _) ?_
            refine i_istore (l' := [(3, .long (zshrL u3 8)), (5, iv (x5 - (4 + 1))), (6, iv x6), (7, iv (zl2i (u3 &&& 255))), (8, iv (4 + 1))]) r_68_87 (n_68_87 _) (by decide) rfl ?_
            refine i_iinc (x := x6) (l' := [(3, .long (zshrL u3 8)), (5, iv (x5 - (4 + 1))), (6, iv (x6 + 1)), (7, iv (zl2i (u3 &&& 255))), (8, iv (4 + 1))]) r_68_89 (n_68_89 _) (by decide) rfl rfl ?_
            refine i_goto (t := 14) r_68_92 (n_68_92 _) rfl ?_
            exact wp_pr (l' := [(3, .long (zshrL u3 8)), (5, iv (x5 - (4 + 1))), (6, iv (x6 + 1))]) rfl h
          · replace h := h.2 c10
            refine i_iload (x := zl2i (u3 &&& 255)) r_68_74 (n_68_74 _) rfl ?_
            refine i_iload (x := x5) r_68_76 (n_68_76 _) rfl ?_
            refine wp_stat (rest := []) (Ls := [(0, iv (zl2i (u3 &&& 255))), (1, iv x5)]) r_68_78 (n_68_78 _) rfl ⟨rfl, by decide, by decide, by decide⟩ rfl rfl ⟨rfl, Nat.le_of_ble_eq_true rfl, Nat.le_of_ble_eq_true rfl⟩ rfl h ?_
            intro o11 s11 h
            rcases h with ⟨y11, q12, rfl, h⟩ | ⟨e11, rfl, h⟩
            · refine .inl ⟨some (iv y11), rfl, ?_⟩
              show wp S 68 81 [(3, .long (zshrL u3 8)), (5, iv x5), (6, iv x6), (7, iv (zl2i (u3 &&& 255))), (8, iv (4 + 1))] [iv y11] s11 Q
              exact i_ireturn r_68_81 (n_68_81 _) rfl h
            · skip
              exact h.elim
        · replace h := h.2 c7
          refine i_iconst r_68_59 (n_68_59 _) ?_
          refine i_goto (t := 64) r_68_60 (n_68_60 _) rfl ?_
          refine i_iadd r_68_64 (n_68_64 _) ?_
          refine i_istore (l' := [(3, .long (zshrL u3 8)), (5, iv x5), (6, iv x6), (7, iv (zl2i (u3 &&& 255))), (8, iv (4 + 0))]) r_68_65 (n_68_65 _) (by decide) rfl ?_
          refine i_iload (x := x5) r_68_67 (n_68_67 _) rfl ?_
          refine i_iload (x := 4 + 0) r_68_69 (n_68_69 _) rfl ?_
          obtain ⟨g13, h⟩ := h
          obtain ⟨g14, h⟩ := h
          refine i_icmp (t := 82) r_68_71 (n_68_71 _) rfl (T_ge g13 g14) (fun c15 => ?_) (fun c15 => ?_)
          · replace h := h.1 c15
            refine i_iload (x := x5) r_68_82 (n_68_82 _) rfl ?_
            refine i_iload (x := 4 + 0) r_68_84 (n_68_84 _) rfl ?_
            refine i_isub r_68_86 (n_68_86 _) ?_
            refine i_istore (l' := [(3, .long (zshrL u3 8)), (5, iv (x5 - (4 + 0))), (6, iv x6), (7, iv (zl2i (u3 &&& 255))), (8, iv (4 + 0))]) r_68_87 (n_68_87 _) (by decide) rfl ?_
            refine i_iinc (x := x6) (l' := [(3, .long (zshrL u3 8)), (5, iv (x5 - (4 + 0))), (6, iv (x6 + 1)), (7, iv (zl2i (u3 &&& 255))), (8, iv (4 + 0))]) r_68_89 (n_68_89 _) (by decide) rfl rfl ?_
            refine i_goto (t := 14) r_68_92 (n_68_92 _) rfl ?_
            exact wp_pr (l' := [(3, .long (zshrL u3 8)), (5, iv (x5 - (4 + 0))), (6, iv (x6 + 1))]) rfl h
          · replace h := h.2 c15
            refine i_iload (x := zl2i (u3 &&& 255)) r_68_74 (n_68_74 _) rfl ?_
            refine i_iload (x := x5) r_68_76 (n_68_76 _) rfl ?_
            refine wp_stat (rest := []) (Ls := [(0, iv (zl2i (u3 &&& 255))), (1, iv x5)]) r_68_78 (n_68_78 _) rfl ⟨rfl, by decide, by decide, by decide⟩ rfl rfl ⟨rfl, Nat.le_of_ble_eq_true rfl, Nat.le_of_ble_eq_true rfl⟩ rfl h ?_
            intro o16 s16 h
            rcases h with ⟨y16, q17, rfl, h⟩ | ⟨e16, rfl, h⟩
            · refine .inl ⟨some (iv y16), rfl, ?_⟩
              show wp S 68 81 [(3, .long (zshrL u3 8)), (5, iv x5), (6, iv x6), (7, iv (zl2i (u3 &&& 255))), (8, iv (4 + 0))] [iv y16] s16 Q
              exact i_ireturn r_68_81 (n_68_81 _) rfl h
            · skip
              exact h.elim
      · replace h := h.2 c6
        refine i_iconst r_68_48 (n_68_48 _) ?_
        refine i_goto (t := 53) r_68_49 (n_68_49 _) rfl ?_
        refine i_lload_n (u := zshrL u3 8) r_68_53 (n_68_53 _) rfl ?_
        refine i_lconst r_68_54 (n_68_54 _) ?_
        refine i_lcmp r_68_55 (n_68_55 _) ?_
        refine i_if (t := 63) r_68_56 (n_68_56 _) rfl (T_ne (zcmp_rng _ _) ⟨by omega, by omega⟩) (fun c18 => ?_) (fun c18 => ?_)
        · replace h := h.1 c18
          refine i_iconst r_68_63 (n_68_63 _) ?_
          refine i_iadd r_68_64 (n_68_64 _) ?_
          refine i_istore (l' := [(3, .long (zshrL u3 8)), (5, iv x5), (6, iv x6), (7, iv (zl2i (u3 &&& 255))), (8, iv (1 + 1))]) r_68_65 (n_68_65 _) (by decide) rfl ?_
          refine i_iload (x := x5) r_68_67 (n_68_67 _) rfl ?_
          refine i_iload (x := 1 + 1) r_68_69 (n_68_69 _) rfl ?_
          obtain ⟨g19, h⟩ := h
          obtain ⟨g20, h⟩ := h
          refine i_icmp (t := 82) r_68_71 (n_68_71 _) rfl (T_ge g19 g20) (fun c21 => ?_) (fun c21 => ?_)
          · replace h := h.1 c21
            refine i_iload (x := x5) r_68_82 (n_68_82 _) rfl ?_
            refine i_iload (x := 1 + 1) r_68_84 (n_68_84 _) rfl ?_
            refine i_isub r_68_86 (n_68_86 _) ?_
            refine i_istore (l' := [(3, .long (zshrL u3 8)), (5, iv (x5 - (1 + 1))), (6, iv x6), (7, iv (zl2i (u3 &&& 255))), (8, iv (1 + 1))]) r_68_87 (n_68_87 _) (by decide) rfl ?_
            refine i_iinc (x := x6) (l' := [(3, .long (zshrL u3 8)), (5, iv (x5 - (1 + 1))), (6, iv (x6 + 1)), (7, iv (zl2i (u3 &&& 255))), (8, iv (1 + 1))]) r_68_89 (n_68_89 _) (by decide) rfl rfl ?_
            refine i_goto (t := 14) r_68_92 (n_68_92 _) rfl ?_
            exact wp_pr (l' := [(3, .long (zshrL u3 8)), (5, iv (x5 - (1 + 1))), (6, iv (x6 + 1))]) rfl h
          · replace h := h.2 c21
            refine i_iload (x := zl2i (u3 &&& 255)) r_68_74 (n_68_74 _) rfl ?_
            refine i_iload (x := x5) r_68_76 (n_68_76 _) rfl ?_
            refine wp_stat (rest := []) (Ls := [(0, iv (zl2i (u3 &&& 255))), (1, iv x5)]) r_68_78 (n_68_78 _) rfl ⟨rfl, by decide, by decide, by decide⟩ rfl rfl ⟨rfl, Nat.le_of_ble_eq_true rfl, Nat.le_of_ble_eq_true rfl⟩ rfl h ?_
            intro o22 s22 h
            rcases h with ⟨y22, q23, rfl, h⟩ | ⟨e22, rfl, h⟩
            · refine .inl ⟨some (iv y22), rfl, ?_⟩
              show wp S 68 81 [(3, .long (zshrL u3 8)), (5, iv x5), (6, iv x6), (7, iv (zl2i (u3 &&& 255))), (8, iv (1 + 1))] [iv y22] s22 Q
              exact i_ireturn r_68_81 (n_68_81 _) rfl h
            · skip
              exact h.elim
        · replace h := h.2 c18
          refine i_iconst r_68_59 (n_68_59 _) ?_
          refine i_goto (t := 64) r_68_60 (n_68_60 _) rfl ?_
          refine i_iadd r_68_64 (n_68_64 _) ?_
          refine i_istore (l' := [(3, .long (zshrL u3 8)), (5, iv x5), (6, iv x6), (7, iv (zl2i (u3 &&& 255))), (8, iv (1 + 0))]) r_68_65 (n_68_65 _) (by decide) rfl ?_
          refine i_iload (x := x5) r_68_67 (n_68_67 _) rfl ?_
          refine i_iload (x := 1 + 0) r_68_69 (n_68_69 _) rfl ?_
          obtain ⟨g24, h⟩ := h
          obtain ⟨g25, h⟩ := h
          refine i_icmp (t := 82) r_68_71 (n_68_71 _) rfl (T_ge g24 g25) (fun c26 => ?_) (fun c26 => ?_)
          · replace h := h.1 c26
            refine i_iload (x := x5) r_68_82 (n_68_82 _) rfl ?_
            refine i_iload (x := 1 + 0) r_68_84 (n_68_84 _) rfl ?_
            refine i_isub r_68_86 (n_68_86 _) ?_
            refine i_istore (l' := [(3, .long (zshrL u3 8)), (5, iv (x5 - (1 + 0))), (6, iv x6), (7, iv (zl2i (u3 &&& 255))), (8, iv (1 + 0))]) r_68_87 (n_68_87 _) (by decide) rfl ?_
            refine i_iinc (x := x6) (l' := [(3, .long (zshrL u3 8)), (5, iv (x5 - (1 + 0))), (6, iv (x6 + 1)), (7, iv (zl2i (u3 &&& 255))), (8, iv (1 + 0))]) r_68_89 (n_68_89 _) (by decide) rfl rfl ?_
            refine i_goto (t := 14) r_68_92 (n_68_92 _) rfl ?_
            exact wp_pr (l' := [(3, .long (zshrL u3 8)), (5, iv (x5 - (1 + 0))), (6, iv (x6 + 1))]) rfl h
          · replace h := h.2 c26
            refine i_iload (x := zl2i (u3 &&& 255)) r_68_74 (n_68_74 _) rfl ?_
            refine i_iload (x := x5) r_68_76 (n_68_76 _) rfl ?_
            refine wp_stat (rest := []) (Ls := [(0, iv (zl2i (u3 &&& 255))), (1, iv x5)]) r_68_78 (n_68_78 _) rfl ⟨rfl, by decide, by decide, by decide⟩ rfl rfl ⟨rfl, Nat.le_of_ble_eq_true rfl, Nat.le_of_ble_eq_true rfl⟩ rfl h ?_
            intro o27 s27 h
            rcases h with ⟨y27, q28, rfl, h⟩ | ⟨e27, rfl, h⟩
            · refine .inl ⟨some (iv y27), rfl, ?_⟩
              show wp S 68 81 [(3, .long (zshrL u3 8)), (5, iv x5), (6, iv x6), (7, iv (zl2i (u3 &&& 255))), (8, iv (1 + 0))] [iv y27] s27 Q
              exact i_ireturn r_68_81 (n_68_81 _) rfl h
            · skip
              exact h.elim
theorem r_69_0 : xfetch 69 0 = some (.iload_n 1, 1) := by decide +kernel
theorem n_69_0 : ∀ l, xpr 69 0 l = l := xpr_no (by decide +kernel)
theorem r_69_1 : xfetch 69 1 = some (.ifCond .ne 11, 3) := by decide +kernel
theorem n_69_1 : ∀ l, xpr 69 1 l = l := xpr_no (by decide +kernel)
theorem r_69_4 : xfetch 69 4 = some (.bipush 96, 2) := by decide +kernel
theorem n_69_4 : ∀ l, xpr 69 4 l = l := xpr_no (by decide +kernel)
theorem r_69_6 : xfetch 69 6 = some (.iload_n 0, 1) := by decide +kernel
theorem n_69_6 : ∀ l, xpr 69 6 l = l := xpr_no (by decide +kernel)
theorem r_69_7 : xfetch 69 7 = some (.bipush 8, 2) := by decide +kernel
theorem n_69_7 : ∀ l, xpr 69 7 l = l := xpr_no (by decide +kernel)
theorem r_69_9 : xfetch 69 9 = some (.idiv, 1) := by decide +kernel
theorem n_69_9 : ∀ l, xpr 69 9 l = l := xpr_no (by decide +kernel)
theorem r_69_10 : xfetch 69 10 = some (.iadd, 1) := by decide +kernel
theorem n_69_10 : ∀ l, xpr 69 10 l = l := xpr_no (by decide +kernel)
theorem r_69_11 : xfetch 69 11 = some (.ireturn, 1) := by decide +kernel
theorem n_69_11 : ∀ l, xpr 69 11 l = l := xpr_no (by decide +kernel)
theorem r_69_12 : xfetch 69 12 = some (.iload_n 0, 1) := by decide +kernel
theorem n_69_12 : ∀ l, xpr 69 12 l = l := xpr_no (by decide +kernel)
theorem r_69_13 : xfetch 69 13 = some (.bipush 8, 2) := by decide +kernel
theorem n_69_13 : ∀ l, xpr 69 13 l = l := xpr_no (by decide +kernel)
theorem r_69_15 : xfetch 69 15 = some (.irem, 1) := by decide +kernel
theorem n_69_15 : ∀ l, xpr 69 15 l = l := xpr_no (by decide +kernel)
theorem r_69_16 : xfetch 69 16 = some (.ifCond .ne 6, 3) := by decide +kernel
theorem n_69_16 : ∀ l, xpr 69 16 l = l := xpr_no (by decide +kernel)
theorem r_69_19 : xfetch 69 19 = some (.bipush 46, 2) := by decide +kernel
theorem n_69_19 : ∀ l, xpr 69 19 l = l := xpr_no (by decide +kernel)
theorem r_69_21 : xfetch 69 21 = some (.ireturn, 1) := by decide +kernel
theorem n_69_21 : ∀ l, xpr 69 21 l = l := xpr_no (by decide +kernel)
theorem r_69_22 : xfetch 69 22 = some (.iload_n 1, 1) := by decide +kernel
theorem n_69_22 : ∀ l, xpr 69 22 l = l := xpr_no (by decide +kernel)
theorem r_69_23 : xfetch 69 23 = some (.tableswitch 39 1 3 #[25, 28, 36], 25) := by decide +kernel
theorem n_69_23 : ∀ l, xpr 69 23 l = l := xpr_no (by decide +kernel)
theorem r_69_48 : xfetch 69 48 = some (.bipush 91, 2) := by decide +kernel
theorem n_69_48 : ∀ l, xpr 69 48 l = l := xpr_no (by decide +kernel)
theorem r_69_50 : xfetch 69 50 = some (.ireturn, 1) := by decide +kernel
theorem n_69_50 : ∀ l, xpr 69 50 l = l := xpr_no (by decide +kernel)
theorem r_69_51 : xfetch 69 51 = some (.bipush 47, 2) := by decide +kernel
theorem n_69_51 : ∀ l, xpr 69 51 l = l := xpr_no (by decide +kernel)
theorem r_69_53 : xfetch 69 53 = some (.iload_n 0, 1) := by decide +kernel
theorem n_69_53 : ∀ l, xpr 69 53 l = l := xpr_no (by decide +kernel)
theorem r_69_54 : xfetch 69 54 = some (.bipush 8, 2) := by decide +kernel
theorem n_69_54 : ∀ l, xpr 69 54 l = l := xpr_no (by decide +kernel)
theorem r_69_56 : xfetch 69 56 = some (.irem, 1) := by decide +kernel
theorem n_69_56 : ∀ l, xpr 69 56 l = l := xpr_no (by decide +kernel)
theorem r_69_57 : xfetch 69 57 = some (.iadd, 1) := by decide +kernel
theorem n_69_57 : ∀ l, xpr 69 57 l = l := xpr_no (by decide +kernel)
theorem r_69_58 : xfetch 69 58 = some (.ireturn, 1) := by decide +kernel
theorem n_69_58 : ∀ l, xpr 69 58 l = l := xpr_no (by decide +kernel)
theorem r_69_59 : xfetch 69 59 = some (.bipush 93, 2) := by decide +kernel
theorem n_69_59 : ∀ l, xpr 69 59 l = l := xpr_no (by decide +kernel)
theorem r_69_61 : xfetch 69 61 = some (.ireturn, 1) := by decide +kernel
theorem n_69_61 : ∀ l, xpr 69 61 l = l := xpr_no (by decide +kernel)
theorem r_69_62 : xfetch 69 62 = some (.bipush 46, 2) := by decide +kernel
theorem n_69_62 : ∀ l, xpr 69 62 l = l := xpr_no (by decide +kernel)
theorem r_69_64 : xfetch 69 64 = some (.ireturn, 1) := by decide +kernel
theorem n_69_64 : ∀ l, xpr 69 64 l = l := xpr_no (by decide +kernel)
theorem v_RL_signOfLevel_0 {S : Option (Nat × (Nat → Int32))} {s : zSt} {Q : Option Value ⊕ Nat → zSt → Prop} {x0 : Int} {x1 : Int} 
    (h : rng x1 ∧ ((x1 ≠ 0 → rng x0 ∧ (0 ≤ x0 ∧ (rng (x0 % 8) ∧ (((x0 % 8) ≠ 0 → (x1 = 1 → Q (rI 91) s) ∧ ((x1 = 2 → Q (rI (47 + (x0 % 8))) s) ∧ ((x1 = 3 → Q (rI 93) s) ∧ (((x1 < 1 ∨ 3 < x1) → Q (rI 46) s))))) ∧ ((x0 % 8) = 0 → Q (rI 46) s))))) ∧ (x1 = 0 → rng x0 ∧ (0 ≤ x0 ∧ (Q (rI (96 + (x0 / 8))) s))))) :
    wp S 69 0 [(0, iv x0), (1, iv x1)] [] s Q := by
  refine i_iload_n (x := x1) r_69_0 (n_69_0 _) rfl ?_
  obtain ⟨g1, h⟩ := h
  refine i_if (t := 12) r_69_1 (n_69_1 _) rfl (T_ne g1 ⟨by omega, by omega⟩) (fun c2 => ?_) (fun c2 => ?_)
  · replace h := h.1 c2
    refine i_iload_n (x := x0) r_69_12 (n_69_12 _) rfl ?_
    refine i_bipush r_69_13 (n_69_13 _) rfl ?_
    obtain ⟨g3, h⟩ := h
    obtain ⟨g4, h⟩ := h
    refine i_irem r_69_15 (n_69_15 _) g3 ⟨by omega, by omega⟩ (by omega) (by omega) ?_
    obtain ⟨g5, h⟩ := h
    refine i_if (t := 22) r_69_16 (n_69_16 _) rfl (T_ne g5 ⟨by omega, by omega⟩) (fun c6 => ?_) (fun c6 => ?_)
    · replace h := h.1 c6
      refine i_iload_n (x := x1) r_69_22 (n_69_22 _) rfl ?_
      rcases (by omega : x1 = 1 ∨ x1 = 2 ∨ x1 = 3 ∨ (x1 < 1 ∨ 3 < x1)) with c7 | c7 | c7 | c7
      · replace h := h.1 c7
        refine i_sw_hit (kk := 0) (t := 48) r_69_23 (n_69_23 _) (by omega) g1 (by omega) rfl rfl ?_
        refine i_bipush r_69_48 (n_69_48 _) rfl ?_
        exact i_ireturn r_69_50 (n_69_50 _) rfl h
      · replace h := h.2.1 c7
        refine i_sw_hit (kk := 1) (t := 51) r_69_23 (n_69_23 _) (by omega) g1 (by omega) rfl rfl ?_
        refine i_bipush r_69_51 (n_69_51 _) rfl ?_
        refine i_iload_n (x := x0) r_69_53 (n_69_53 _) rfl ?_
        refine i_bipush r_69_54 (n_69_54 _) rfl ?_
        refine i_irem r_69_56 (n_69_56 _) g3 ⟨by omega, by omega⟩ (by omega) (by omega) ?_
        refine i_iadd r_69_57 (n_69_57 _) ?_
        exact i_ireturn r_69_58 (n_69_58 _) rfl h
      · replace h := h.2.2.1 c7
        refine i_sw_hit (kk := 2) (t := 59) r_69_23 (n_69_23 _) (by omega) g1 (by omega) rfl rfl ?_
        refine i_bipush r_69_59 (n_69_59 _) rfl ?_
        exact i_ireturn r_69_61 (n_69_61 _) rfl h
      · replace h := h.2.2.2 c7
        refine i_sw_out (t := 62) r_69_23 (n_69_23 _) c7 g1 rfl ?_
        refine i_bipush r_69_62 (n_69_62 _) rfl ?_
        exact i_ireturn r_69_64 (n_69_64 _) rfl h
    · replace h := h.2 c6
      refine i_bipush r_69_19 (n_69_19 _) rfl ?_
      exact i_ireturn r_69_21 (n_69_21 _) rfl h
  · replace h := h.2 c2
    refine i_bipush r_69_4 (n_69_4 _) rfl ?_
    refine i_iload_n (x := x0) r_69_6 (n_69_6 _) rfl ?_
    refine i_bipush r_69_7 (n_69_7 _) rfl ?_
    obtain ⟨g8, h⟩ := h
    obtain ⟨g9, h⟩ := h
    refine i_idiv r_69_9 (n_69_9 _) g8 ⟨by omega, by omega⟩ (by omega) (by omega) ?_
    refine i_iadd r_69_10 (n_69_10 _) ?_
    exact i_ireturn r_69_11 (n_69_11 _) rfl h
theorem r_71_0 : xfetch 71 0 = some (.aload_n 0, 1) := by decide +kernel
theorem n_71_0 : ∀ l, xpr 71 0 l = l := xpr_no (by decide +kernel)
theorem r_71_1 : xfetch 71 1 = some (.iload_n 1, 1) := by decide +kernel
theorem n_71_1 : ∀ l, xpr 71 1 l = l := xpr_no (by decide +kernel)
theorem r_71_2 : xfetch 71 2 = some (.invokevirtual 95, 3) := by decide +kernel
theorem n_71_2 : ∀ l, xpr 71 2 l = l := xpr_no (by decide +kernel)
theorem r_71_5 : xfetch 71 5 = some (.aload_n 0, 1) := by decide +kernel
theorem n_71_5 : ∀ l, xpr 71 5 l = l := xpr_no (by decide +kernel)
theorem r_71_6 : xfetch 71 6 = some (.getfield 18, 3) := by decide +kernel
theorem n_71_6 : ∀ l, xpr 71 6 l = l := xpr_no (by decide +kernel)
theorem r_71_9 : xfetch 71 9 = some (.iload_n 1, 1) := by decide +kernel
theorem n_71_9 : ∀ l, xpr 71 9 l = l := xpr_no (by decide +kernel)
theorem r_71_10 : xfetch 71 10 = some (.aaload, 1) := by decide +kernel
theorem n_71_10 : ∀ l, xpr 71 10 l = l := xpr_no (by decide +kernel)
theorem r_71_11 : xfetch 71 11 = some (.getfield 120, 3) := by decide +kernel
theorem n_71_11 : ∀ l, xpr 71 11 l = l := xpr_no (by decide +kernel)
theorem r_71_14 : xfetch 71 14 = some (.astore_n 2, 1) := by decide +kernel
theorem n_71_14 : ∀ l, xpr 71 14 l = l := xpr_no (by decide +kernel)
theorem r_71_15 : xfetch 71 15 = some (.iconst 0, 1) := by decide +kernel
theorem n_71_15 : ∀ l, xpr 71 15 l = l := xpr_no (by decide +kernel)
theorem r_71_16 : xfetch 71 16 = some (.istore_n 3, 1) := by decide +kernel
theorem n_71_16 : ∀ l, xpr 71 16 l = l := xpr_no (by decide +kernel)
theorem r_71_17 : xfetch 71 17 = some (.iload_n 3, 1) := by decide +kernel
theorem r_71_18 : xfetch 71 18 = some (.aload_n 2, 1) := by decide +kernel
theorem n_71_18 : ∀ l, xpr 71 18 l = l := xpr_no (by decide +kernel)
theorem r_71_19 : xfetch 71 19 = some (.getfield 124, 3) := by decide +kernel
theorem n_71_19 : ∀ l, xpr 71 19 l = l := xpr_no (by decide +kernel)
theorem r_71_22 : xfetch 71 22 = some (.if_icmp .ge 24, 3) := by decide +kernel
theorem n_71_22 : ∀ l, xpr 71 22 l = l := xpr_no (by decide +kernel)
theorem r_71_25 : xfetch 71 25 = some (.aload_n 0, 1) := by decide +kernel
theorem n_71_25 : ∀ l, xpr 71 25 l = l := xpr_no (by decide +kernel)
theorem r_71_26 : xfetch 71 26 = some (.aload_n 2, 1) := by decide +kernel
theorem n_71_26 : ∀ l, xpr 71 26 l = l := xpr_no (by decide +kernel)
theorem r_71_27 : xfetch 71 27 = some (.getfield 181, 3) := by decide +kernel
theorem n_71_27 : ∀ l, xpr 71 27 l = l := xpr_no (by decide +kernel)
theorem r_71_30 : xfetch 71 30 = some (.iload_n 3, 1) := by decide +kernel
theorem n_71_30 : ∀ l, xpr 71 30 l = l := xpr_no (by decide +kernel)
theorem r_71_31 : xfetch 71 31 = some (.laload, 1) := by decide +kernel
theorem n_71_31 : ∀ l, xpr 71 31 l = l := xpr_no (by decide +kernel)
theorem r_71_32 : xfetch 71 32 = some (.invokevirtual 188, 3) := by decide +kernel
theorem n_71_32 : ∀ l, xpr 71 32 l = l := xpr_no (by decide +kernel)
theorem r_71_35 : xfetch 71 35 = some (.ifCond .eq 5, 3) := by decide +kernel
theorem n_71_35 : ∀ l, xpr 71 35 l = l := xpr_no (by decide +kernel)
theorem r_71_38 : xfetch 71 38 = some (.iload_n 3, 1) := by decide +kernel
theorem n_71_38 : ∀ l, xpr 71 38 l = l := xpr_no (by decide +kernel)
theorem r_71_39 : xfetch 71 39 = some (.ireturn, 1) := by decide +kernel
theorem n_71_39 : ∀ l, xpr 71 39 l = l := xpr_no (by decide +kernel)
theorem r_71_40 : xfetch 71 40 = some (.iinc 3 1, 3) := by decide +kernel
theorem n_71_40 : ∀ l, xpr 71 40 l = l := xpr_no (by decide +kernel)
theorem r_71_43 : xfetch 71 43 = some (.goto (-26), 3) := by decide +kernel
theorem n_71_43 : ∀ l, xpr 71 43 l = l := xpr_no (by decide +kernel)
theorem r_71_46 : xfetch 71 46 = some (.iconst (-1), 1) := by decide +kernel
theorem n_71_46 : ∀ l, xpr 71 46 l = l := xpr_no (by decide +kernel)
theorem r_71_47 : xfetch 71 47 = some (.ireturn, 1) := by decide +kernel
theorem n_71_47 : ∀ l, xpr 71 47 l = l := xpr_no (by decide +kernel)
theorem v_RL_findLeaf_0 {S : Option (Nat × (Nat → Int32))} {s : zSt} {Q : Option Value ⊕ Nat → zSt → Prop} {x1 : Int} 
    (h : rng x1 ∧ ((0 ≤ x1 ∧ x1 < zI s 3 0 → (0 ≤ x1 ∧ x1 < 6) ∧ (wp S 71 17 [(0, rf 2), (2, rf (67 + 11 * x1)), (3, iv 0)] [] s Q)) ∧ ((¬ (0 ≤ x1 ∧ x1 < zI s 3 0) → Q (rT 2) (zbump s))))) :
    wp S 71 0 [(0, rf 2), (1, iv x1)] [] s Q := by
  refine i_aload_n (a := 2) r_71_0 (n_71_0 _) rfl ?_
  refine i_iload_n (x := x1) r_71_1 (n_71_1 _) rfl ?_
  obtain ⟨g1, h⟩ := h
  refine wp_virt (b := 2) (rest := []) (Ls := [(0, rf 2), (1, iv x1)]) r_71_2 (n_71_2 _) rfl ⟨rfl, rfl, by decide, by decide⟩ rfl rfl lf_2 ⟨rfl, Nat.le_of_ble_eq_true rfl, Nat.le_of_ble_eq_true rfl⟩ rfl (K_RL_checkRecord g1) ?_
  rintro _ _ (⟨c2, rfl, rfl⟩ | ⟨c2, rfl, rfl⟩)
  · replace h := h.1 c2
    refine .inl ⟨none, rfl, ?_⟩
    show wp S 71 5 [(0, rf 2), (1, iv x1)] [] s Q
    refine i_aload_n (a := 2) r_71_5 (n_71_5 _) rfl ?_
    refine i_getR (a := 2) (b := 34) r_71_6 (n_71_6 _) rfl rfl rfl (by omega) lf_2 (by omega) ?_
    refine i_iload_n (x := x1) r_71_9 (n_71_9 _) rfl ?_
    obtain ⟨g3, h⟩ := h
    refine i_aaload (c := 4) (a := 34) (j := x1) (b := 62 + 11 * x1) r_71_10 (n_71_10 _) lf_34 ⟨by omega, by omega⟩ (by omega) (by omega) rfl (by omega) ?_
    have t4 := e_4 (j := x1) lf_34 (by omega) (by omega)
    rw [show 34 + 28 + 11 * x1 = 62 + 11 * x1 by omega] at t4
    refine i_getR (a := 62 + 11 * x1) (b := 67 + 11 * x1) r_71_11 (n_71_11 _) rfl rfl rfl (by omega) t4 (by omega) ?_
    have t5 := (t_4_4 t4)
    rw [show (62 + 11 * x1) + 5 = 67 + 11 * x1 by omega] at t5
    refine i_astore_n (l' := [(0, rf 2), (1, iv x1), (2, rf (67 + 11 * x1))]) r_71_14 (n_71_14 _) (by decide) rfl ?_
    refine i_iconst r_71_15 (n_71_15 _) ?_
    refine i_istore_n (l' := [(0, rf 2), (1, iv x1), (2, rf (67 + 11 * x1)), (3, iv 0)]) r_71_16 (n_71_16 _) (by decide) rfl ?_
    exact wp_pr (l' := [(0, rf 2), (2, rf (67 + 11 * x1)), (3, iv 0)]) rfl h
  · replace h := h.2 c2
    exact .inr ⟨_, rfl, .inl ⟨rfl, h⟩⟩
theorem v_RL_findLeaf_17 {S : Option (Nat × (Nat → Int32))} {s : zSt} {Q : Option Value ⊕ Nat → zSt → Prop} {a2 : Int} {x3 : Int} (ha2 : isO a2 2)
    (h : rng x3 ∧ (((zI s a2 0) ≤ x3 → Q (rI (-1)) s) ∧ (x3 < (zI s a2 0) → (0 ≤ x3 ∧ x3 < 40) ∧ (wp S 72 0 [(0, rf 2), (1, .long (zL s (a2 + 5) x3))] [] s (fun o6 s6 => zkI (fun y6 => (y6 = 0 → wp S 71 17 [(0, rf 2), (2, rf a2), (3, iv (x3 + 1))] [] s6 Q) ∧ (y6 ≠ 0 → Q (rI x3) s6)) (fun e6 => False) o6))))) :
    wp S 71 17 [(0, rf 2), (2, rf a2), (3, iv x3)] [] s Q := by
  refine i_iload_n (x := x3) r_71_17 rfl rfl ?_
  refine i_aload_n (a := a2) r_71_18 (n_71_18 _) rfl ?_
  refine i_getI (a := a2) r_71_19 (n_71_19 _) rfl (by decide) ha2 (fun q1 => ?_)
  obtain ⟨g2, h⟩ := h
  refine i_icmp (t := 46) r_71_22 (n_71_22 _) rfl (T_ge g2 q1) (fun c3 => ?_) (fun c3 => ?_)
  · replace h := h.1 c3
    refine i_iconst r_71_46 (n_71_46 _) ?_
    exact i_ireturn r_71_47 (n_71_47 _) rfl h
  · replace h := h.2 c3
    refine i_aload_n (a := 2) r_71_25 (n_71_25 _) rfl ?_
    refine i_aload_n (a := a2) r_71_26 (n_71_26 _) rfl ?_
    refine i_getR (a := a2) (b := a2 + 5) r_71_27 (n_71_27 _) rfl rfl rfl (by omega) ha2 (by omega) ?_
    have t4 := (t_2_5 ha2)
    refine i_iload_n (x := x3) r_71_30 (n_71_30 _) rfl ?_
    obtain ⟨g5, h⟩ := h
    refine i_laload (a := a2 + 5) (j := x3) r_71_31 (n_71_31 _) t4 ⟨by omega, by omega⟩ (by omega) (by omega) ?_
    refine wp_virt (b := 2) (rest := []) (Ls := [(0, rf 2), (1, .long (zL s (a2 + 5) x3))]) r_71_32 (n_71_32 _) rfl ⟨rfl, rfl, by decide, by decide⟩ rfl rfl lf_2 ⟨rfl, Nat.le_of_ble_eq_true rfl, Nat.le_of_ble_eq_true rfl⟩ rfl h ?_
    intro o6 s6 h
    rcases h with ⟨y6, q7, rfl, h⟩ | ⟨e6, rfl, h⟩
    · refine .inl ⟨some (iv y6), rfl, ?_⟩
      show wp S 71 35 [(0, rf 2), (2, rf a2), (3, iv x3)] [iv y6] s6 Q
      refine i_if (t := 40) r_71_35 (n_71_35 _) rfl (T_eq q7 ⟨by omega, by omega⟩) (fun c8 => ?_) (fun c8 => ?_)
      · replace h := h.1 c8
        refine i_iinc (x := x3) (l' := [(0, rf 2), (2, rf a2), (3, iv (x3 + 1))]) r_71_40 (n_71_40 _) (by decide) rfl rfl ?_
        refine i_goto (t := 17) r_71_43 (n_71_43 _) rfl ?_
        exact wp_pr (l' := [(0, rf 2), (2, rf a2), (3, iv (x3 + 1))]) rfl h
      · replace h := h.2 c8
        refine i_iload_n (x := x3) r_71_38 (n_71_38 _) rfl ?_
        exact i_ireturn r_71_39 (n_71_39 _) rfl h
    · skip
      exact h.elim
theorem r_72_0 : xfetch 72 0 = some (.iconst 0, 1) := by decide +kernel
theorem n_72_0 : ∀ l, xpr 72 0 l = l := xpr_no (by decide +kernel)
theorem r_72_1 : xfetch 72 1 = some (.istore_n 3, 1) := by decide +kernel
theorem n_72_1 : ∀ l, xpr 72 1 l = l := xpr_no (by decide +kernel)
theorem r_72_2 : xfetch 72 2 = some (.iload_n 3, 1) := by decide +kernel
theorem r_72_3 : xfetch 72 3 = some (.aload_n 0, 1) := by decide +kernel
theorem n_72_3 : ∀ l, xpr 72 3 l = l := xpr_no (by decide +kernel)
theorem r_72_4 : xfetch 72 4 = some (.getfield 29, 3) := by decide +kernel
theorem n_72_4 : ∀ l, xpr 72 4 l = l := xpr_no (by decide +kernel)
theorem r_72_7 : xfetch 72 7 = some (.getfield 205, 3) := by decide +kernel
theorem n_72_7 : ∀ l, xpr 72 7 l = l := xpr_no (by decide +kernel)
theorem r_72_10 : xfetch 72 10 = some (.if_icmp .gt 27, 3) := by decide +kernel
theorem n_72_10 : ∀ l, xpr 72 10 l = l := xpr_no (by decide +kernel)
theorem r_72_13 : xfetch 72 13 = some (.lload_n 1, 1) := by decide +kernel
theorem n_72_13 : ∀ l, xpr 72 13 l = l := xpr_no (by decide +kernel)
theorem r_72_14 : xfetch 72 14 = some (.iload_n 3, 1) := by decide +kernel
theorem n_72_14 : ∀ l, xpr 72 14 l = l := xpr_no (by decide +kernel)
theorem r_72_15 : xfetch 72 15 = some (.invokestatic 184, 3) := by decide +kernel
theorem n_72_15 : ∀ l, xpr 72 15 l = l := xpr_no (by decide +kernel)
theorem r_72_18 : xfetch 72 18 = some (.aload_n 0, 1) := by decide +kernel
theorem n_72_18 : ∀ l, xpr 72 18 l = l := xpr_no (by decide +kernel)
theorem r_72_19 : xfetch 72 19 = some (.getfield 29, 3) := by decide +kernel
theorem n_72_19 : ∀ l, xpr 72 19 l = l := xpr_no (by decide +kernel)
theorem r_72_22 : xfetch 72 22 = some (.iload_n 3, 1) := by decide +kernel
theorem n_72_22 : ∀ l, xpr 72 22 l = l := xpr_no (by decide +kernel)
theorem r_72_23 : xfetch 72 23 = some (.invokevirtual 469, 3) := by decide +kernel
theorem n_72_23 : ∀ l, xpr 72 23 l = l := xpr_no (by decide +kernel)
theorem r_72_26 : xfetch 72 26 = some (.if_icmp .eq 5, 3) := by decide +kernel
theorem n_72_26 : ∀ l, xpr 72 26 l = l := xpr_no (by decide +kernel)
theorem r_72_29 : xfetch 72 29 = some (.iconst 0, 1) := by decide +kernel
theorem n_72_29 : ∀ l, xpr 72 29 l = l := xpr_no (by decide +kernel)
theorem r_72_30 : xfetch 72 30 = some (.ireturn, 1) := by decide +kernel
theorem n_72_30 : ∀ l, xpr 72 30 l = l := xpr_no (by decide +kernel)
theorem r_72_31 : xfetch 72 31 = some (.iinc 3 1, 3) := by decide +kernel
theorem n_72_31 : ∀ l, xpr 72 31 l = l := xpr_no (by decide +kernel)
theorem r_72_34 : xfetch 72 34 = some (.goto (-32), 3) := by decide +kernel
theorem n_72_34 : ∀ l, xpr 72 34 l = l := xpr_no (by decide +kernel)
theorem r_72_37 : xfetch 72 37 = some (.iconst 1, 1) := by decide +kernel
theorem n_72_37 : ∀ l, xpr 72 37 l = l := xpr_no (by decide +kernel)
theorem r_72_38 : xfetch 72 38 = some (.ireturn, 1) := by decide +kernel
theorem n_72_38 : ∀ l, xpr 72 38 l = l := xpr_no (by decide +kernel)
theorem v_RL_isText_0 {S : Option (Nat × (Nat → Int32))} {s : zSt} {Q : Option Value ⊕ Nat → zSt → Prop} {u1 : Int64} 
    (h : wp S 72 2 [(0, rf 2), (1, .long u1), (3, iv 0)] [] s Q) :
    wp S 72 0 [(0, rf 2), (1, .long u1)] [] s Q := by
  refine i_iconst r_72_0 (n_72_0 _) ?_
  refine i_istore_n (l' := [(0, rf 2), (1, .long u1), (3, iv 0)]) r_72_1 (n_72_1 _) (by decide) rfl ?_
  exact wp_pr (l' := [(0, rf 2), (1, .long u1), (3, iv 0)]) rfl h
theorem v_RL_isText_2 {S : Option (Nat × (Nat → Int32))} {s : zSt} {Q : Option Value ⊕ Nat → zSt → Prop} {u1 : Int64} {x3 : Int} 
    (h : rng x3 ∧ (((zI s 36 0) < x3 → Q (rI 1) s) ∧ (x3 ≤ (zI s 36 0) → wp S 68 0 [(0, .long u1), (2, iv x3)] [] s (fun o4 s4 => zkI (fun y4 => (0 ≤ x3 → x3 < zI s4 36 0 → x3 < 80) ∧ (rng (zsg x3 (zI s4 36 0) (zI s4 41 x3)) ∧ ((y4 = (zsg x3 (zI s4 36 0) (zI s4 41 x3)) → wp S 72 2 [(0, rf 2), (1, .long u1), (3, iv (x3 + 1))] [] s4 Q) ∧ (y4 ≠ (zsg x3 (zI s4 36 0) (zI s4 41 x3)) → Q (rI 0) s4)))) (fun e4 => False) o4)))) :
    wp S 72 2 [(0, rf 2), (1, .long u1), (3, iv x3)] [] s Q := by
  refine i_iload_n (x := x3) r_72_2 rfl rfl ?_
  refine i_aload_n (a := 2) r_72_3 (n_72_3 _) rfl ?_
  refine i_getR (a := 2) (b := 36) r_72_4 (n_72_4 _) rfl rfl rfl (by omega) lf_2 (by omega) ?_
  refine i_getI (a := 36) r_72_7 (n_72_7 _) rfl (by decide) lf_36 (fun q1 => ?_)
  obtain ⟨g2, h⟩ := h
  refine i_icmp (t := 37) r_72_10 (n_72_10 _) rfl (T_gt g2 q1) (fun c3 => ?_) (fun c3 => ?_)
  · replace h := h.1 c3
    refine i_iconst r_72_37 (n_72_37 _) ?_
    exact i_zreturn r_72_38 (n_72_38 _) rfl (by decide) h
  · replace h := h.2 c3
    refine i_lload_n (u := u1) r_72_13 (n_72_13 _) rfl ?_
    refine i_iload_n (x := x3) r_72_14 (n_72_14 _) rfl ?_
    refine wp_stat (rest := []) (Ls := [(0, .long u1), (2, iv x3)]) r_72_15 (n_72_15 _) rfl ⟨rfl, by decide, by decide, by decide⟩ rfl rfl ⟨rfl, Nat.le_of_ble_eq_true rfl, Nat.le_of_ble_eq_true rfl⟩ rfl h ?_
    intro o4 s4 h
    rcases h with ⟨y4, q5, rfl, h⟩ | ⟨e4, rfl, h⟩
    · refine .inl ⟨some (iv y4), rfl, ?_⟩
      show wp S 72 18 [(0, rf 2), (1, .long u1), (3, iv x3)] [iv y4] s4 Q
      refine i_aload_n (a := 2) r_72_18 (n_72_18 _) rfl ?_
      refine i_getR (a := 2) (b := 36) r_72_19 (n_72_19 _) rfl rfl rfl (by omega) lf_2 (by omega) ?_
      refine i_iload_n (x := x3) r_72_22 (n_72_22 _) rfl ?_
      obtain ⟨g6, h⟩ := h
      refine wp_virt (b := 36) (rest := [iv y4]) (Ls := [(0, rf 36), (1, iv x3)]) r_72_23 (n_72_23 _) rfl ⟨rfl, rfl, by decide, by decide⟩ rfl rfl lf_36 ⟨rfl, Nat.le_of_ble_eq_true rfl, Nat.le_of_ble_eq_true rfl⟩ rfl (K_Text_signAt g2 g6) ?_
      rintro _ _ ⟨rfl, rfl⟩
      refine .inl ⟨some (iv (zsg x3 (zI s4 36 0) (zI s4 41 x3))), rfl, ?_⟩
      show wp S 72 26 [(0, rf 2), (1, .long u1), (3, iv x3)] [iv (zsg x3 (zI s4 36 0) (zI s4 41 x3)), iv y4] s4 Q
      obtain ⟨g8, h⟩ := h
      refine i_icmp (t := 31) r_72_26 (n_72_26 _) rfl (T_eq q5 g8) (fun c9 => ?_) (fun c9 => ?_)
      · replace h := h.1 c9
        refine i_iinc (x := x3) (l' := [(0, rf 2), (1, .long u1), (3, iv (x3 + 1))]) r_72_31 (n_72_31 _) (by decide) rfl rfl ?_
        refine i_goto (t := 2) r_72_34 (n_72_34 _) rfl ?_
        exact wp_pr (l' := [(0, rf 2), (1, .long u1), (3, iv (x3 + 1))]) rfl h
      · replace h := h.2 c9
        refine i_iconst r_72_29 (n_72_29 _) ?_
        exact i_zreturn r_72_30 (n_72_30 _) rfl (by decide) h
    · skip
      exact h.elim

theorem r_178_0 : xfetch 178 0 = some (.aload_n 0, 1) := by decide +kernel
theorem n_178_0 : ∀ l, xpr 178 0 l = l := xpr_no (by decide +kernel)
theorem r_178_1 : xfetch 178 1 = some (.aload_n 0, 1) := by decide +kernel
theorem n_178_1 : ∀ l, xpr 178 1 l = l := xpr_no (by decide +kernel)
theorem r_178_2 : xfetch 178 2 = some (.getfield 81, 3) := by decide +kernel
theorem n_178_2 : ∀ l, xpr 178 2 l = l := xpr_no (by decide +kernel)
theorem r_178_5 : xfetch 178 5 = some (.ifCond .ne 7, 3) := by decide +kernel
theorem n_178_5 : ∀ l, xpr 178 5 l = l := xpr_no (by decide +kernel)
theorem r_178_8 : xfetch 178 8 = some (.iconst 1, 1) := by decide +kernel
theorem n_178_8 : ∀ l, xpr 178 8 l = l := xpr_no (by decide +kernel)
theorem r_178_9 : xfetch 178 9 = some (.goto 4, 3) := by decide +kernel
theorem n_178_9 : ∀ l, xpr 178 9 l = l := xpr_no (by decide +kernel)
theorem r_178_12 : xfetch 178 12 = some (.iconst 0, 1) := by decide +kernel
theorem n_178_12 : ∀ l, xpr 178 12 l = l := xpr_no (by decide +kernel)
theorem r_178_13 : xfetch 178 13 = some (.invokevirtual 84, 3) := by decide +kernel
theorem n_178_13 : ∀ l, xpr 178 13 l = l := xpr_no (by decide +kernel)
theorem r_178_16 : xfetch 178 16 = some (.ifCond .eq 5, 3) := by decide +kernel
theorem n_178_16 : ∀ l, xpr 178 16 l = l := xpr_no (by decide +kernel)
theorem r_178_19 : xfetch 178 19 = some (.iconst 0, 1) := by decide +kernel
theorem n_178_19 : ∀ l, xpr 178 19 l = l := xpr_no (by decide +kernel)
theorem r_178_20 : xfetch 178 20 = some (.ireturn, 1) := by decide +kernel
theorem n_178_20 : ∀ l, xpr 178 20 l = l := xpr_no (by decide +kernel)
theorem r_178_21 : xfetch 178 21 = some (.aload_n 0, 1) := by decide +kernel
theorem n_178_21 : ∀ l, xpr 178 21 l = l := xpr_no (by decide +kernel)
theorem r_178_22 : xfetch 178 22 = some (.dup, 1) := by decide +kernel
theorem n_178_22 : ∀ l, xpr 178 22 l = l := xpr_no (by decide +kernel)
theorem r_178_23 : xfetch 178 23 = some (.getfield 81, 3) := by decide +kernel
theorem n_178_23 : ∀ l, xpr 178 23 l = l := xpr_no (by decide +kernel)
theorem r_178_26 : xfetch 178 26 = some (.iconst 1, 1) := by decide +kernel
theorem n_178_26 : ∀ l, xpr 178 26 l = l := xpr_no (by decide +kernel)
theorem r_178_27 : xfetch 178 27 = some (.isub, 1) := by decide +kernel
theorem n_178_27 : ∀ l, xpr 178 27 l = l := xpr_no (by decide +kernel)
theorem r_178_28 : xfetch 178 28 = some (.putfield 81, 3) := by decide +kernel
theorem n_178_28 : ∀ l, xpr 178 28 l = l := xpr_no (by decide +kernel)
theorem r_178_31 : xfetch 178 31 = some (.iconst 0, 1) := by decide +kernel
theorem n_178_31 : ∀ l, xpr 178 31 l = l := xpr_no (by decide +kernel)
theorem r_178_32 : xfetch 178 32 = some (.istore_n 1, 1) := by decide +kernel
theorem n_178_32 : ∀ l, xpr 178 32 l = l := xpr_no (by decide +kernel)
theorem r_178_33 : xfetch 178 33 = some (.iload_n 1, 1) := by decide +kernel
theorem r_178_34 : xfetch 178 34 = some (.sipush 1199, 3) := by decide +kernel
theorem n_178_34 : ∀ l, xpr 178 34 l = l := xpr_no (by decide +kernel)
theorem r_178_37 : xfetch 178 37 = some (.if_icmp .ge 30, 3) := by decide +kernel
theorem n_178_37 : ∀ l, xpr 178 37 l = l := xpr_no (by decide +kernel)
theorem r_178_40 : xfetch 178 40 = some (.aload_n 0, 1) := by decide +kernel
theorem n_178_40 : ∀ l, xpr 178 40 l = l := xpr_no (by decide +kernel)
theorem r_178_41 : xfetch 178 41 = some (.getfield 7, 3) := by decide +kernel
theorem n_178_41 : ∀ l, xpr 178 41 l = l := xpr_no (by decide +kernel)
theorem r_178_44 : xfetch 178 44 = some (.iload_n 1, 1) := by decide +kernel
theorem n_178_44 : ∀ l, xpr 178 44 l = l := xpr_no (by decide +kernel)
theorem r_178_45 : xfetch 178 45 = some (.aload_n 0, 1) := by decide +kernel
theorem n_178_45 : ∀ l, xpr 178 45 l = l := xpr_no (by decide +kernel)
theorem r_178_46 : xfetch 178 46 = some (.getfield 13, 3) := by decide +kernel
theorem n_178_46 : ∀ l, xpr 178 46 l = l := xpr_no (by decide +kernel)
theorem r_178_49 : xfetch 178 49 = some (.sipush 1199, 3) := by decide +kernel
theorem n_178_49 : ∀ l, xpr 178 49 l = l := xpr_no (by decide +kernel)
theorem r_178_52 : xfetch 178 52 = some (.aload_n 0, 1) := by decide +kernel
theorem n_178_52 : ∀ l, xpr 178 52 l = l := xpr_no (by decide +kernel)
theorem r_178_53 : xfetch 178 53 = some (.getfield 81, 3) := by decide +kernel
theorem n_178_53 : ∀ l, xpr 178 53 l = l := xpr_no (by decide +kernel)
theorem r_178_56 : xfetch 178 56 = some (.imul, 1) := by decide +kernel
theorem n_178_56 : ∀ l, xpr 178 56 l = l := xpr_no (by decide +kernel)
theorem r_178_57 : xfetch 178 57 = some (.iload_n 1, 1) := by decide +kernel
theorem n_178_57 : ∀ l, xpr 178 57 l = l := xpr_no (by decide +kernel)
theorem r_178_58 : xfetch 178 58 = some (.iadd, 1) := by decide +kernel
theorem n_178_58 : ∀ l, xpr 178 58 l = l := xpr_no (by decide +kernel)
theorem r_178_59 : xfetch 178 59 = some (.iaload, 1) := by decide +kernel
theorem n_178_59 : ∀ l, xpr 178 59 l = l := xpr_no (by decide +kernel)
theorem r_178_60 : xfetch 178 60 = some (.iastore, 1) := by decide +kernel
theorem n_178_60 : ∀ l, xpr 178 60 l = l := xpr_no (by decide +kernel)
theorem r_178_61 : xfetch 178 61 = some (.iinc 1 1, 3) := by decide +kernel
theorem n_178_61 : ∀ l, xpr 178 61 l = l := xpr_no (by decide +kernel)
theorem r_178_64 : xfetch 178 64 = some (.goto (-31), 3) := by decide +kernel
theorem n_178_64 : ∀ l, xpr 178 64 l = l := xpr_no (by decide +kernel)
theorem r_178_67 : xfetch 178 67 = some (.aload_n 0, 1) := by decide +kernel
theorem n_178_67 : ∀ l, xpr 178 67 l = l := xpr_no (by decide +kernel)
theorem r_178_68 : xfetch 178 68 = some (.getfield 81, 3) := by decide +kernel
theorem n_178_68 : ∀ l, xpr 178 68 l = l := xpr_no (by decide +kernel)
theorem r_178_71 : xfetch 178 71 = some (.ireturn, 1) := by decide +kernel
theorem n_178_71 : ∀ l, xpr 178 71 l = l := xpr_no (by decide +kernel)
theorem v_Model_undo_0 {S : Option (Nat × (Nat → Int32))} {s : zSt} {Q : Option Value ⊕ Nat → zSt → Prop}  
    (h : ((zI s 252 2) ≠ 0 → rng ((zI s 252 2) - 1) ∧ (wp S 178 33 [(0, rf 252), (1, iv 0)] [] (zwI (zwI s 252 3 0) 252 2 ((zI s 252 2) - 1)) Q)) ∧ ((zI s 252 2) = 0 → Q (rI 0) (zwI s 252 3 1))) :
    wp S 178 0 [(0, rf 252)] [] s Q := by
  refine i_aload_n (a := 252) r_178_0 (n_178_0 _) rfl ?_
  refine i_aload_n (a := 252) r_178_1 (n_178_1 _) rfl ?_
  refine i_getI (a := 252) r_178_2 (n_178_2 _) rfl (by decide) lf_252 (fun q1 => ?_)
  refine i_if (t := 12) r_178_5 (n_178_5 _) rfl (T_ne q1 ⟨by omega, by omega⟩) (fun c2 => ?_) (fun c2 => ?_)
  · replace h := h.1 c2
    refine i_iconst r_178_12 (n_178_12 _) ?_
    refine wp_virt (b := 252) (rest := []) (Ls := [(0, rf 252), (1, iv 0)]) r_178_13 (n_178_13 _) rfl ⟨rfl, rfl, by decide, by decide⟩ rfl rfl lf_252 ⟨rfl, Nat.le_of_ble_eq_true rfl, Nat.le_of_ble_eq_true rfl⟩ rfl K_Model_refused0 ?_
    rintro _ _ ⟨rfl, rfl⟩
    refine .inl ⟨some (iv 0), rfl, ?_⟩
    show wp S 178 16 [(0, rf 252)] [iv 0] (zwI s 252 3 0) Q
    refine i_if (t := 21) r_178_16 (n_178_16 _) rfl (T_eq ⟨by omega, by omega⟩ ⟨by omega, by omega⟩) (fun _ => ?_) (fun z => absurd z (by omega))
    refine i_aload_n (a := 252) r_178_21 (n_178_21 _) rfl ?_
    refine i_dup r_178_22 (n_178_22 _) rfl ?_
    have e5 : zI (zwI s 252 3 0) 252 2 = zI s 252 2 := zI_nj (by omega)
    refine i_getIe (a := 252) (x := zI s 252 2) r_178_23 (n_178_23 _) rfl (by decide) lf_252 e5 (fun q4 => ?_)
    refine i_iconst r_178_26 (n_178_26 _) ?_
    refine i_isub r_178_27 (n_178_27 _) ?_
    obtain ⟨g6, h⟩ := h
    refine i_putI (a := 252) (x := (zI s 252 2) - 1) r_178_28 (n_178_28 _) rfl (.inl rfl) rfl lf_252 g6 ?_
    refine i_iconst r_178_31 (n_178_31 _) ?_
    refine i_istore_n (l' := [(0, rf 252), (1, iv 0)]) r_178_32 (n_178_32 _) (by decide) rfl ?_
    exact wp_pr (l' := [(0, rf 252), (1, iv 0)]) rfl h
  · replace h := h.2 c2
    refine i_iconst r_178_8 (n_178_8 _) ?_
    refine i_goto (t := 13) r_178_9 (n_178_9 _) rfl ?_
    refine wp_virt (b := 252) (rest := []) (Ls := [(0, rf 252), (1, iv 1)]) r_178_13 (n_178_13 _) rfl ⟨rfl, rfl, by decide, by decide⟩ rfl rfl lf_252 ⟨rfl, Nat.le_of_ble_eq_true rfl, Nat.le_of_ble_eq_true rfl⟩ rfl (K_Model_refused1 ⟨by omega, by omega⟩ (by omega)) ?_
    rintro _ _ ⟨rfl, rfl⟩
    refine .inl ⟨some (iv 1), rfl, ?_⟩
    show wp S 178 16 [(0, rf 252)] [iv 1] (zwI s 252 3 1) Q
    refine i_if (t := 21) r_178_16 (n_178_16 _) rfl (T_eq ⟨by omega, by omega⟩ ⟨by omega, by omega⟩) (fun z => absurd z (by omega)) (fun _ => ?_)
    refine i_iconst r_178_19 (n_178_19 _) ?_
    exact i_ireturn r_178_20 (n_178_20 _) rfl h
theorem v_Model_undo_33 {S : Option (Nat × (Nat → Int32))} {s : zSt} {Q : Option Value ⊕ Nat → zSt → Prop} {x1 : Int} 
    (h : rng x1 ∧ ((1199 ≤ x1 → Q (rI (zI s 252 2)) s) ∧ (x1 < 1199 → (0 ≤ ((1199 * (zI s 252 2)) + x1) ∧ ((1199 * (zI s 252 2)) + x1) < 4796) ∧ ((0 ≤ x1 ∧ x1 < 1199) ∧ (wp S 178 33 [(0, rf 252), (1, iv (x1 + 1))] [] (zwI s 253 x1 (zI s 254 ((1199 * (zI s 252 2)) + x1))) Q))))) :
    wp S 178 33 [(0, rf 252), (1, iv x1)] [] s Q := by
  refine i_iload_n (x := x1) r_178_33 rfl rfl ?_
  refine i_sipush r_178_34 (n_178_34 _) rfl ?_
  obtain ⟨g1, h⟩ := h
  refine i_icmp (t := 67) r_178_37 (n_178_37 _) rfl (T_ge g1 ⟨by omega, by omega⟩) (fun c2 => ?_) (fun c2 => ?_)
  · replace h := h.1 c2
    refine i_aload_n (a := 252) r_178_67 (n_178_67 _) rfl ?_
    refine i_getI (a := 252) r_178_68 (n_178_68 _) rfl (by decide) lf_252 (fun q3 => ?_)
    exact i_ireturn r_178_71 (n_178_71 _) rfl h
  · replace h := h.2 c2
    refine i_aload_n (a := 252) r_178_40 (n_178_40 _) rfl ?_
    refine i_getR (a := 252) (b := 253) r_178_41 (n_178_41 _) rfl rfl rfl (by omega) lf_252 (by omega) ?_
    refine i_iload_n (x := x1) r_178_44 (n_178_44 _) rfl ?_
    refine i_aload_n (a := 252) r_178_45 (n_178_45 _) rfl ?_
    refine i_getR (a := 252) (b := 254) r_178_46 (n_178_46 _) rfl rfl rfl (by omega) lf_252 (by omega) ?_
    refine i_sipush r_178_49 (n_178_49 _) rfl ?_
    refine i_aload_n (a := 252) r_178_52 (n_178_52 _) rfl ?_
    refine i_getI (a := 252) r_178_53 (n_178_53 _) rfl (by decide) lf_252 (fun q4 => ?_)
    refine i_imul r_178_56 (n_178_56 _) ?_
    refine i_iload_n (x := x1) r_178_57 (n_178_57 _) rfl ?_
    refine i_iadd r_178_58 (n_178_58 _) ?_
    obtain ⟨g5, h⟩ := h
    refine i_iaload (a := 254) (j := (1199 * (zI s 252 2)) + x1) r_178_59 (n_178_59 _) lf_254 ⟨by omega, by omega⟩ (by omega) (by omega) (fun q6 => ?_)
    obtain ⟨g7, h⟩ := h
    refine i_iastore (a := 253) (j := x1) (x := zI s 254 ((1199 * (zI s 252 2)) + x1)) r_178_60 (n_178_60 _) lf_253 ⟨by omega, by omega⟩ (by omega) (by omega) q6 ?_
    refine i_iinc (x := x1) (l' := [(0, rf 252), (1, iv (x1 + 1))]) r_178_61 (n_178_61 _) (by decide) rfl rfl ?_
    refine i_goto (t := 33) r_178_64 (n_178_64 _) rfl ?_
    exact wp_pr (l' := [(0, rf 252), (1, iv (x1 + 1))]) rfl h
theorem r_180_0 : xfetch 180 0 = some (.aload_n 0, 1) := by decide +kernel
theorem n_180_0 : ∀ l, xpr 180 0 l = l := xpr_no (by decide +kernel)
theorem r_180_1 : xfetch 180 1 = some (.iload_n 1, 1) := by decide +kernel
theorem n_180_1 : ∀ l, xpr 180 1 l = l := xpr_no (by decide +kernel)
theorem r_180_2 : xfetch 180 2 = some (.invokestatic 132, 3) := by decide +kernel
theorem n_180_2 : ∀ l, xpr 180 2 l = l := xpr_no (by decide +kernel)
theorem r_180_5 : xfetch 180 5 = some (.ifCond .ne 7, 3) := by decide +kernel
theorem n_180_5 : ∀ l, xpr 180 5 l = l := xpr_no (by decide +kernel)
theorem r_180_8 : xfetch 180 8 = some (.iconst 1, 1) := by decide +kernel
theorem n_180_8 : ∀ l, xpr 180 8 l = l := xpr_no (by decide +kernel)
theorem r_180_9 : xfetch 180 9 = some (.goto 19, 3) := by decide +kernel
theorem n_180_9 : ∀ l, xpr 180 9 l = l := xpr_no (by decide +kernel)
theorem r_180_12 : xfetch 180 12 = some (.aload_n 0, 1) := by decide +kernel
theorem n_180_12 : ∀ l, xpr 180 12 l = l := xpr_no (by decide +kernel)
theorem r_180_13 : xfetch 180 13 = some (.getfield 7, 3) := by decide +kernel
theorem n_180_13 : ∀ l, xpr 180 13 l = l := xpr_no (by decide +kernel)
theorem r_180_16 : xfetch 180 16 = some (.iconst 0, 1) := by decide +kernel
theorem n_180_16 : ∀ l, xpr 180 16 l = l := xpr_no (by decide +kernel)
theorem r_180_17 : xfetch 180 17 = some (.iaload, 1) := by decide +kernel
theorem n_180_17 : ∀ l, xpr 180 17 l = l := xpr_no (by decide +kernel)
theorem r_180_18 : xfetch 180 18 = some (.bipush 6, 2) := by decide +kernel
theorem n_180_18 : ∀ l, xpr 180 18 l = l := xpr_no (by decide +kernel)
theorem r_180_20 : xfetch 180 20 = some (.if_icmp .ne 7, 3) := by decide +kernel
theorem n_180_20 : ∀ l, xpr 180 20 l = l := xpr_no (by decide +kernel)
theorem r_180_23 : xfetch 180 23 = some (.iconst 2, 1) := by decide +kernel
theorem n_180_23 : ∀ l, xpr 180 23 l = l := xpr_no (by decide +kernel)
theorem r_180_24 : xfetch 180 24 = some (.goto 4, 3) := by decide +kernel
theorem n_180_24 : ∀ l, xpr 180 24 l = l := xpr_no (by decide +kernel)
theorem r_180_27 : xfetch 180 27 = some (.iconst 0, 1) := by decide +kernel
theorem n_180_27 : ∀ l, xpr 180 27 l = l := xpr_no (by decide +kernel)
theorem r_180_28 : xfetch 180 28 = some (.invokevirtual 84, 3) := by decide +kernel
theorem n_180_28 : ∀ l, xpr 180 28 l = l := xpr_no (by decide +kernel)
theorem r_180_31 : xfetch 180 31 = some (.ifCond .eq 5, 3) := by decide +kernel
theorem n_180_31 : ∀ l, xpr 180 31 l = l := xpr_no (by decide +kernel)
theorem r_180_34 : xfetch 180 34 = some (.iconst 0, 1) := by decide +kernel
theorem n_180_34 : ∀ l, xpr 180 34 l = l := xpr_no (by decide +kernel)
theorem r_180_35 : xfetch 180 35 = some (.ireturn, 1) := by decide +kernel
theorem n_180_35 : ∀ l, xpr 180 35 l = l := xpr_no (by decide +kernel)
theorem r_180_36 : xfetch 180 36 = some (.aload_n 0, 1) := by decide +kernel
theorem n_180_36 : ∀ l, xpr 180 36 l = l := xpr_no (by decide +kernel)
theorem r_180_37 : xfetch 180 37 = some (.invokevirtual 135, 3) := by decide +kernel
theorem n_180_37 : ∀ l, xpr 180 37 l = l := xpr_no (by decide +kernel)
theorem r_180_40 : xfetch 180 40 = some (.aload_n 0, 1) := by decide +kernel
theorem n_180_40 : ∀ l, xpr 180 40 l = l := xpr_no (by decide +kernel)
theorem r_180_41 : xfetch 180 41 = some (.iload_n 1, 1) := by decide +kernel
theorem n_180_41 : ∀ l, xpr 180 41 l = l := xpr_no (by decide +kernel)
theorem r_180_42 : xfetch 180 42 = some (.invokevirtual 138, 3) := by decide +kernel
theorem n_180_42 : ∀ l, xpr 180 42 l = l := xpr_no (by decide +kernel)
theorem r_180_45 : xfetch 180 45 = some (.aload_n 0, 1) := by decide +kernel
theorem n_180_45 : ∀ l, xpr 180 45 l = l := xpr_no (by decide +kernel)
theorem r_180_46 : xfetch 180 46 = some (.getfield 7, 3) := by decide +kernel
theorem n_180_46 : ∀ l, xpr 180 46 l = l := xpr_no (by decide +kernel)
theorem r_180_49 : xfetch 180 49 = some (.iconst 0, 1) := by decide +kernel
theorem n_180_49 : ∀ l, xpr 180 49 l = l := xpr_no (by decide +kernel)
theorem r_180_50 : xfetch 180 50 = some (.iaload, 1) := by decide +kernel
theorem n_180_50 : ∀ l, xpr 180 50 l = l := xpr_no (by decide +kernel)
theorem r_180_51 : xfetch 180 51 = some (.iconst 1, 1) := by decide +kernel
theorem n_180_51 : ∀ l, xpr 180 51 l = l := xpr_no (by decide +kernel)
theorem r_180_52 : xfetch 180 52 = some (.isub, 1) := by decide +kernel
theorem n_180_52 : ∀ l, xpr 180 52 l = l := xpr_no (by decide +kernel)
theorem r_180_53 : xfetch 180 53 = some (.ireturn, 1) := by decide +kernel
theorem n_180_53 : ∀ l, xpr 180 53 l = l := xpr_no (by decide +kernel)
theorem v_Model_newRecord_0 {S : Option (Nat × (Nat → Int32))} {s : zSt} {Q : Option Value ⊕ Nat → zSt → Prop} {x1 : Int} 
    (h : rng x1 ∧ ((x1 = 1 ∨ x1 = 2 ∨ x1 = 4 ∨ x1 = 8 → ((zI s 253 0) ≠ 6 → wp S 182 0 [(0, rf 252)] [] (zwI s 252 3 0) (fun o7 s7 => zkU (wp S 183 0 [(0, rf 252), (1, iv x1)] [] s7 (fun o9 s9 => zkU (Q (rI ((zI s9 253 0) - 1)) s9) (fun e9 => False) o9)) (fun e7 => False) o7)) ∧ ((zI s 253 0) = 6 → Q (rI 0) (zwI s 252 3 2))) ∧ (¬ (x1 = 1 ∨ x1 = 2 ∨ x1 = 4 ∨ x1 = 8) → Q (rI 0) (zwI s 252 3 1)))) :
    wp S 180 0 [(0, rf 252), (1, iv x1)] [] s Q := by
  refine i_aload_n (a := 252) r_180_0 (n_180_0 _) rfl ?_
  refine i_iload_n (x := x1) r_180_1 (n_180_1 _) rfl ?_
  obtain ⟨g1, h⟩ := h
  refine wp_stat (rest := [rf 252]) (Ls := [(0, iv x1)]) r_180_2 (n_180_2 _) rfl ⟨rfl, by decide, by decide, by decide⟩ rfl rfl ⟨rfl, Nat.le_of_ble_eq_true rfl, Nat.le_of_ble_eq_true rfl⟩ rfl (K_Model_isPack g1) ?_
  rintro _ _ ⟨rfl, rfl⟩
  refine .inl ⟨some (iv (bi (x1 = 1 ∨ x1 = 2 ∨ x1 = 4 ∨ x1 = 8))), rfl, ?_⟩
  show wp S 180 5 [(0, rf 252), (1, iv x1)] [iv (bi (x1 = 1 ∨ x1 = 2 ∨ x1 = 4 ∨ x1 = 8)), rf 252] s Q
  refine i_if (t := 12) r_180_5 (n_180_5 _) rfl (TB_ne) (fun c3 => ?_) (fun c3 => ?_)
  · replace h := h.1 c3
    refine i_aload_n (a := 252) r_180_12 (n_180_12 _) rfl ?_
    refine i_getR (a := 252) (b := 253) r_180_13 (n_180_13 _) rfl rfl rfl (by omega) lf_252 (by omega) ?_
    refine i_iconst r_180_16 (n_180_16 _) ?_
    refine i_iaload (a := 253) (j := 0) r_180_17 (n_180_17 _) lf_253 ⟨by omega, by omega⟩ (by omega) (by omega) (fun q4 => ?_)
    refine i_bipush r_180_18 (n_180_18 _) rfl ?_
    refine i_icmp (t := 27) r_180_20 (n_180_20 _) rfl (T_ne q4 ⟨by omega, by omega⟩) (fun c5 => ?_) (fun c5 => ?_)
    · replace h := h.1 c5
      refine i_iconst r_180_27 (n_180_27 _) ?_
      refine wp_virt (b := 252) (rest := []) (Ls := [(0, rf 252), (1, iv 0)]) r_180_28 (n_180_28 _) rfl ⟨rfl, rfl, by decide, by decide⟩ rfl rfl lf_252 ⟨rfl, Nat.le_of_ble_eq_true rfl, Nat.le_of_ble_eq_true rfl⟩ rfl K_Model_refused0 ?_
      rintro _ _ ⟨rfl, rfl⟩
      refine .inl ⟨some (iv 0), rfl, ?_⟩
      show wp S 180 31 [(0, rf 252), (1, iv x1)] [iv 0] (zwI s 252 3 0) Q
      refine i_if (t := 36) r_180_31 (n_180_31 _) rfl (T_eq ⟨by omega, by omega⟩ ⟨by omega, by omega⟩) (fun _ => ?_) (fun z => absurd z (by omega))
      refine i_aload_n (a := 252) r_180_36 (n_180_36 _) rfl ?_
      refine wp_virt (b := 252) (rest := []) (Ls := [(0, rf 252)]) r_180_37 (n_180_37 _) rfl ⟨rfl, rfl, by decide, by decide⟩ rfl rfl lf_252 ⟨rfl, Nat.le_of_ble_eq_true rfl, Nat.le_of_ble_eq_true rfl⟩ rfl h ?_
      intro o7 s7 h
      rcases h with ⟨rfl, h⟩ | ⟨e7, rfl, h⟩
      · refine .inl ⟨none, rfl, ?_⟩
        refine i_aload_n (a := 252) r_180_40 (n_180_40 _) rfl ?_
        refine i_iload_n (x := x1) r_180_41 (n_180_41 _) rfl ?_
        refine wp_virt (b := 252) (rest := []) (Ls := [(0, rf 252), (1, iv x1)]) r_180_42 (n_180_42 _) rfl ⟨rfl, rfl, by decide, by decide⟩ rfl rfl lf_252 ⟨rfl, Nat.le_of_ble_eq_true rfl, Nat.le_of_ble_eq_true rfl⟩ rfl h ?_
        intro o9 s9 h
        rcases h with ⟨rfl, h⟩ | ⟨e9, rfl, h⟩
        · refine .inl ⟨none, rfl, ?_⟩
          refine i_aload_n (a := 252) r_180_45 (n_180_45 _) rfl ?_
          refine i_getR (a := 252) (b := 253) r_180_46 (n_180_46 _) rfl rfl rfl (by omega) lf_252 (by omega) ?_
          refine i_iconst r_180_49 (n_180_49 _) ?_
          refine i_iaload (a := 253) (j := 0) r_180_50 (n_180_50 _) lf_253 ⟨by omega, by omega⟩ (by omega) (by omega) (fun q11 => ?_)
          refine i_iconst r_180_51 (n_180_51 _) ?_
          refine i_isub r_180_52 (n_180_52 _) ?_
          exact i_ireturn r_180_53 (n_180_53 _) rfl h
        · skip
          exact h.elim
      · skip
        exact h.elim
    · replace h := h.2 c5
      refine i_iconst r_180_23 (n_180_23 _) ?_
      refine i_goto (t := 28) r_180_24 (n_180_24 _) rfl ?_
      refine wp_virt (b := 252) (rest := []) (Ls := [(0, rf 252), (1, iv 2)]) r_180_28 (n_180_28 _) rfl ⟨rfl, rfl, by decide, by decide⟩ rfl rfl lf_252 ⟨rfl, Nat.le_of_ble_eq_true rfl, Nat.le_of_ble_eq_true rfl⟩ rfl (K_Model_refused1 ⟨by omega, by omega⟩ (by omega)) ?_
      rintro _ _ ⟨rfl, rfl⟩
      refine .inl ⟨some (iv 1), rfl, ?_⟩
      show wp S 180 31 [(0, rf 252), (1, iv x1)] [iv 1] (zwI s 252 3 2) Q
      refine i_if (t := 36) r_180_31 (n_180_31 _) rfl (T_eq ⟨by omega, by omega⟩ ⟨by omega, by omega⟩) (fun z => absurd z (by omega)) (fun _ => ?_)
      refine i_iconst r_180_34 (n_180_34 _) ?_
      exact i_ireturn r_180_35 (n_180_35 _) rfl h
  · replace h := h.2 c3
    refine i_iconst r_180_8 (n_180_8 _) ?_
    refine i_goto (t := 28) r_180_9 (n_180_9 _) rfl ?_
    refine wp_virt (b := 252) (rest := []) (Ls := [(0, rf 252), (1, iv 1)]) r_180_28 (n_180_28 _) rfl ⟨rfl, rfl, by decide, by decide⟩ rfl rfl lf_252 ⟨rfl, Nat.le_of_ble_eq_true rfl, Nat.le_of_ble_eq_true rfl⟩ rfl (K_Model_refused1 ⟨by omega, by omega⟩ (by omega)) ?_
    rintro _ _ ⟨rfl, rfl⟩
    refine .inl ⟨some (iv 1), rfl, ?_⟩
    show wp S 180 31 [(0, rf 252), (1, iv x1)] [iv 1] (zwI s 252 3 1) Q
    refine i_if (t := 36) r_180_31 (n_180_31 _) rfl (T_eq ⟨by omega, by omega⟩ ⟨by omega, by omega⟩) (fun z => absurd z (by omega)) (fun _ => ?_)
    refine i_iconst r_180_34 (n_180_34 _) ?_
    exact i_ireturn r_180_35 (n_180_35 _) rfl h
theorem r_182_0 : xfetch 182 0 = some (.aload_n 0, 1) := by decide +kernel
theorem n_182_0 : ∀ l, xpr 182 0 l = l := xpr_no (by decide +kernel)
theorem r_182_1 : xfetch 182 1 = some (.getfield 81, 3) := by decide +kernel
theorem n_182_1 : ∀ l, xpr 182 1 l = l := xpr_no (by decide +kernel)
theorem r_182_4 : xfetch 182 4 = some (.iconst 4, 1) := by decide +kernel
theorem n_182_4 : ∀ l, xpr 182 4 l = l := xpr_no (by decide +kernel)
theorem r_182_5 : xfetch 182 5 = some (.if_icmp .ne 44, 3) := by decide +kernel
theorem n_182_5 : ∀ l, xpr 182 5 l = l := xpr_no (by decide +kernel)
theorem r_182_8 : xfetch 182 8 = some (.iconst 0, 1) := by decide +kernel
theorem n_182_8 : ∀ l, xpr 182 8 l = l := xpr_no (by decide +kernel)
theorem r_182_9 : xfetch 182 9 = some (.istore_n 1, 1) := by decide +kernel
theorem n_182_9 : ∀ l, xpr 182 9 l = l := xpr_no (by decide +kernel)
theorem r_182_10 : xfetch 182 10 = some (.iload_n 1, 1) := by decide +kernel
theorem r_182_11 : xfetch 182 11 = some (.sipush 3597, 3) := by decide +kernel
theorem n_182_11 : ∀ l, xpr 182 11 l = l := xpr_no (by decide +kernel)
theorem r_182_14 : xfetch 182 14 = some (.if_icmp .ge 25, 3) := by decide +kernel
theorem n_182_14 : ∀ l, xpr 182 14 l = l := xpr_no (by decide +kernel)
theorem r_182_17 : xfetch 182 17 = some (.aload_n 0, 1) := by decide +kernel
theorem n_182_17 : ∀ l, xpr 182 17 l = l := xpr_no (by decide +kernel)
theorem r_182_18 : xfetch 182 18 = some (.getfield 13, 3) := by decide +kernel
theorem n_182_18 : ∀ l, xpr 182 18 l = l := xpr_no (by decide +kernel)
theorem r_182_21 : xfetch 182 21 = some (.iload_n 1, 1) := by decide +kernel
theorem n_182_21 : ∀ l, xpr 182 21 l = l := xpr_no (by decide +kernel)
theorem r_182_22 : xfetch 182 22 = some (.aload_n 0, 1) := by decide +kernel
theorem n_182_22 : ∀ l, xpr 182 22 l = l := xpr_no (by decide +kernel)
theorem r_182_23 : xfetch 182 23 = some (.getfield 13, 3) := by decide +kernel
theorem n_182_23 : ∀ l, xpr 182 23 l = l := xpr_no (by decide +kernel)
theorem r_182_26 : xfetch 182 26 = some (.iload_n 1, 1) := by decide +kernel
theorem n_182_26 : ∀ l, xpr 182 26 l = l := xpr_no (by decide +kernel)
theorem r_182_27 : xfetch 182 27 = some (.sipush 1199, 3) := by decide +kernel
theorem n_182_27 : ∀ l, xpr 182 27 l = l := xpr_no (by decide +kernel)
theorem r_182_30 : xfetch 182 30 = some (.iadd, 1) := by decide +kernel
theorem n_182_30 : ∀ l, xpr 182 30 l = l := xpr_no (by decide +kernel)
theorem r_182_31 : xfetch 182 31 = some (.iaload, 1) := by decide +kernel
theorem n_182_31 : ∀ l, xpr 182 31 l = l := xpr_no (by decide +kernel)
theorem r_182_32 : xfetch 182 32 = some (.iastore, 1) := by decide +kernel
theorem n_182_32 : ∀ l, xpr 182 32 l = l := xpr_no (by decide +kernel)
theorem r_182_33 : xfetch 182 33 = some (.iinc 1 1, 3) := by decide +kernel
theorem n_182_33 : ∀ l, xpr 182 33 l = l := xpr_no (by decide +kernel)
theorem r_182_36 : xfetch 182 36 = some (.goto (-26), 3) := by decide +kernel
theorem n_182_36 : ∀ l, xpr 182 36 l = l := xpr_no (by decide +kernel)
theorem r_182_39 : xfetch 182 39 = some (.aload_n 0, 1) := by decide +kernel
theorem n_182_39 : ∀ l, xpr 182 39 l = l := xpr_no (by decide +kernel)
theorem r_182_40 : xfetch 182 40 = some (.dup, 1) := by decide +kernel
theorem n_182_40 : ∀ l, xpr 182 40 l = l := xpr_no (by decide +kernel)
theorem r_182_41 : xfetch 182 41 = some (.getfield 81, 3) := by decide +kernel
theorem n_182_41 : ∀ l, xpr 182 41 l = l := xpr_no (by decide +kernel)
theorem r_182_44 : xfetch 182 44 = some (.iconst 1, 1) := by decide +kernel
theorem n_182_44 : ∀ l, xpr 182 44 l = l := xpr_no (by decide +kernel)
theorem r_182_45 : xfetch 182 45 = some (.isub, 1) := by decide +kernel
theorem n_182_45 : ∀ l, xpr 182 45 l = l := xpr_no (by decide +kernel)
theorem r_182_46 : xfetch 182 46 = some (.putfield 81, 3) := by decide +kernel
theorem n_182_46 : ∀ l, xpr 182 46 l = l := xpr_no (by decide +kernel)
theorem r_182_49 : xfetch 182 49 = some (.iconst 0, 1) := by decide +kernel
theorem n_182_49 : ∀ l, xpr 182 49 l = l := xpr_no (by decide +kernel)
theorem r_182_50 : xfetch 182 50 = some (.istore_n 1, 1) := by decide +kernel
theorem n_182_50 : ∀ l, xpr 182 50 l = l := xpr_no (by decide +kernel)
theorem r_182_51 : xfetch 182 51 = some (.iload_n 1, 1) := by decide +kernel
theorem r_182_52 : xfetch 182 52 = some (.sipush 1199, 3) := by decide +kernel
theorem n_182_52 : ∀ l, xpr 182 52 l = l := xpr_no (by decide +kernel)
theorem r_182_55 : xfetch 182 55 = some (.if_icmp .ge 30, 3) := by decide +kernel
theorem n_182_55 : ∀ l, xpr 182 55 l = l := xpr_no (by decide +kernel)
theorem r_182_58 : xfetch 182 58 = some (.aload_n 0, 1) := by decide +kernel
theorem n_182_58 : ∀ l, xpr 182 58 l = l := xpr_no (by decide +kernel)
theorem r_182_59 : xfetch 182 59 = some (.getfield 13, 3) := by decide +kernel
theorem n_182_59 : ∀ l, xpr 182 59 l = l := xpr_no (by decide +kernel)
theorem r_182_62 : xfetch 182 62 = some (.sipush 1199, 3) := by decide +kernel
theorem n_182_62 : ∀ l, xpr 182 62 l = l := xpr_no (by decide +kernel)
theorem r_182_65 : xfetch 182 65 = some (.aload_n 0, 1) := by decide +kernel
theorem n_182_65 : ∀ l, xpr 182 65 l = l := xpr_no (by decide +kernel)
theorem r_182_66 : xfetch 182 66 = some (.getfield 81, 3) := by decide +kernel
theorem n_182_66 : ∀ l, xpr 182 66 l = l := xpr_no (by decide +kernel)
theorem r_182_69 : xfetch 182 69 = some (.imul, 1) := by decide +kernel
theorem n_182_69 : ∀ l, xpr 182 69 l = l := xpr_no (by decide +kernel)
theorem r_182_70 : xfetch 182 70 = some (.iload_n 1, 1) := by decide +kernel
theorem n_182_70 : ∀ l, xpr 182 70 l = l := xpr_no (by decide +kernel)
theorem r_182_71 : xfetch 182 71 = some (.iadd, 1) := by decide +kernel
theorem n_182_71 : ∀ l, xpr 182 71 l = l := xpr_no (by decide +kernel)
theorem r_182_72 : xfetch 182 72 = some (.aload_n 0, 1) := by decide +kernel
theorem n_182_72 : ∀ l, xpr 182 72 l = l := xpr_no (by decide +kernel)
theorem r_182_73 : xfetch 182 73 = some (.getfield 7, 3) := by decide +kernel
theorem n_182_73 : ∀ l, xpr 182 73 l = l := xpr_no (by decide +kernel)
theorem r_182_76 : xfetch 182 76 = some (.iload_n 1, 1) := by decide +kernel
theorem n_182_76 : ∀ l, xpr 182 76 l = l := xpr_no (by decide +kernel)
theorem r_182_77 : xfetch 182 77 = some (.iaload, 1) := by decide +kernel
theorem n_182_77 : ∀ l, xpr 182 77 l = l := xpr_no (by decide +kernel)
theorem r_182_78 : xfetch 182 78 = some (.iastore, 1) := by decide +kernel
theorem n_182_78 : ∀ l, xpr 182 78 l = l := xpr_no (by decide +kernel)
theorem r_182_79 : xfetch 182 79 = some (.iinc 1 1, 3) := by decide +kernel
theorem n_182_79 : ∀ l, xpr 182 79 l = l := xpr_no (by decide +kernel)
theorem r_182_82 : xfetch 182 82 = some (.goto (-31), 3) := by decide +kernel
theorem n_182_82 : ∀ l, xpr 182 82 l = l := xpr_no (by decide +kernel)
theorem r_182_85 : xfetch 182 85 = some (.aload_n 0, 1) := by decide +kernel
theorem n_182_85 : ∀ l, xpr 182 85 l = l := xpr_no (by decide +kernel)
theorem r_182_86 : xfetch 182 86 = some (.dup, 1) := by decide +kernel
theorem n_182_86 : ∀ l, xpr 182 86 l = l := xpr_no (by decide +kernel)
theorem r_182_87 : xfetch 182 87 = some (.getfield 81, 3) := by decide +kernel
theorem n_182_87 : ∀ l, xpr 182 87 l = l := xpr_no (by decide +kernel)
theorem r_182_90 : xfetch 182 90 = some (.iconst 1, 1) := by decide +kernel
theorem n_182_90 : ∀ l, xpr 182 90 l = l := xpr_no (by decide +kernel)
theorem r_182_91 : xfetch 182 91 = some (.iadd, 1) := by decide +kernel
theorem n_182_91 : ∀ l, xpr 182 91 l = l := xpr_no (by decide +kernel)
theorem r_182_92 : xfetch 182 92 = some (.putfield 81, 3) := by decide +kernel
theorem n_182_92 : ∀ l, xpr 182 92 l = l := xpr_no (by decide +kernel)
theorem r_182_95 : xfetch 182 95 = some (.return_, 1) := by decide +kernel
theorem n_182_95 : ∀ l, xpr 182 95 l = l := xpr_no (by decide +kernel)
theorem v_Model_saves_0 {S : Option (Nat × (Nat → Int32))} {s : zSt} {Q : Option Value ⊕ Nat → zSt → Prop}  
    (h : ((zI s 252 2) ≠ 4 → wp S 182 51 [(0, rf 252), (1, iv 0)] [] s Q) ∧ ((zI s 252 2) = 4 → wp S 182 10 [(0, rf 252), (1, iv 0)] [] s Q)) :
    wp S 182 0 [(0, rf 252)] [] s Q := by
  refine i_aload_n (a := 252) r_182_0 (n_182_0 _) rfl ?_
  refine i_getI (a := 252) r_182_1 (n_182_1 _) rfl (by decide) lf_252 (fun q1 => ?_)
  refine i_iconst r_182_4 (n_182_4 _) ?_
  refine i_icmp (t := 49) r_182_5 (n_182_5 _) rfl (T_ne q1 ⟨by omega, by omega⟩) (fun c2 => ?_) (fun c2 => ?_)
  · replace h := h.1 c2
    refine i_iconst r_182_49 (n_182_49 _) ?_
    refine i_istore_n (l' := [(0, rf 252), (1, iv 0)]) r_182_50 (n_182_50 _) (by decide) rfl ?_
    exact wp_pr (l' := [(0, rf 252), (1, iv 0)]) rfl h
  · replace h := h.2 c2
    refine i_iconst r_182_8 (n_182_8 _) ?_
    refine i_istore_n (l' := [(0, rf 252), (1, iv 0)]) r_182_9 (n_182_9 _) (by decide) rfl ?_
    exact wp_pr (l' := [(0, rf 252), (1, iv 0)]) rfl h
theorem v_Model_saves_10 {S : Option (Nat × (Nat → Int32))} {s : zSt} {Q : Option Value ⊕ Nat → zSt → Prop} {x1 : Int} 
    (h : rng x1 ∧ ((3597 ≤ x1 → rng ((zI s 252 2) - 1) ∧ (wp S 182 51 [(0, rf 252), (1, iv 0)] [] (zwI s 252 2 ((zI s 252 2) - 1)) Q)) ∧ (x1 < 3597 → (0 ≤ (x1 + 1199) ∧ (x1 + 1199) < 4796) ∧ ((0 ≤ x1 ∧ x1 < 4796) ∧ (wp S 182 10 [(0, rf 252), (1, iv (x1 + 1))] [] (zwI s 254 x1 (zI s 254 (x1 + 1199))) Q))))) :
    wp S 182 10 [(0, rf 252), (1, iv x1)] [] s Q := by
  refine i_iload_n (x := x1) r_182_10 rfl rfl ?_
  refine i_sipush r_182_11 (n_182_11 _) rfl ?_
  obtain ⟨g1, h⟩ := h
  refine i_icmp (t := 39) r_182_14 (n_182_14 _) rfl (T_ge g1 ⟨by omega, by omega⟩) (fun c2 => ?_) (fun c2 => ?_)
  · replace h := h.1 c2
    refine i_aload_n (a := 252) r_182_39 (n_182_39 _) rfl ?_
    refine i_dup r_182_40 (n_182_40 _) rfl ?_
    refine i_getI (a := 252) r_182_41 (n_182_41 _) rfl (by decide) lf_252 (fun q3 => ?_)
    refine i_iconst r_182_44 (n_182_44 _) ?_
    refine i_isub r_182_45 (n_182_45 _) ?_
    obtain ⟨g4, h⟩ := h
    refine i_putI (a := 252) (x := (zI s 252 2) - 1) r_182_46 (n_182_46 _) rfl (.inl rfl) rfl lf_252 g4 ?_
    refine i_iconst r_182_49 (n_182_49 _) ?_
    refine i_istore_n (l' := [(0, rf 252), (1, iv 0)]) r_182_50 (n_182_50 _) (by decide) rfl ?_
    exact wp_pr (l' := [(0, rf 252), (1, iv 0)]) rfl h
  · replace h := h.2 c2
    refine i_aload_n (a := 252) r_182_17 (n_182_17 _) rfl ?_
    refine i_getR (a := 252) (b := 254) r_182_18 (n_182_18 _) rfl rfl rfl (by omega) lf_252 (by omega) ?_
    refine i_iload_n (x := x1) r_182_21 (n_182_21 _) rfl ?_
    refine i_aload_n (a := 252) r_182_22 (n_182_22 _) rfl ?_
    refine i_getR (a := 252) (b := 254) r_182_23 (n_182_23 _) rfl rfl rfl (by omega) lf_252 (by omega) ?_
    refine i_iload_n (x := x1) r_182_26 (n_182_26 _) rfl ?_
    refine i_sipush r_182_27 (n_182_27 _) rfl ?_
    refine i_iadd r_182_30 (n_182_30 _) ?_
    obtain ⟨g5, h⟩ := h
    refine i_iaload (a := 254) (j := x1 + 1199) r_182_31 (n_182_31 _) lf_254 ⟨by omega, by omega⟩ (by omega) (by omega) (fun q6 => ?_)
    obtain ⟨g7, h⟩ := h
    refine i_iastore (a := 254) (j := x1) (x := zI s 254 (x1 + 1199)) r_182_32 (n_182_32 _) lf_254 ⟨by omega, by omega⟩ (by omega) (by omega) q6 ?_
    refine i_iinc (x := x1) (l' := [(0, rf 252), (1, iv (x1 + 1))]) r_182_33 (n_182_33 _) (by decide) rfl rfl ?_
    refine i_goto (t := 10) r_182_36 (n_182_36 _) rfl ?_
    exact wp_pr (l' := [(0, rf 252), (1, iv (x1 + 1))]) rfl h
theorem v_Model_saves_51 {S : Option (Nat × (Nat → Int32))} {s : zSt} {Q : Option Value ⊕ Nat → zSt → Prop} {x1 : Int} 
    (h : rng x1 ∧ ((1199 ≤ x1 → rng ((zI s 252 2) + 1) ∧ (Q rU (zwI s 252 2 ((zI s 252 2) + 1)))) ∧ (x1 < 1199 → (0 ≤ x1 ∧ x1 < 1199) ∧ ((0 ≤ ((1199 * (zI s 252 2)) + x1) ∧ ((1199 * (zI s 252 2)) + x1) < 4796) ∧ (wp S 182 51 [(0, rf 252), (1, iv (x1 + 1))] [] (zwI s 254 ((1199 * (zI s 252 2)) + x1) (zI s 253 x1)) Q))))) :
    wp S 182 51 [(0, rf 252), (1, iv x1)] [] s Q := by
  refine i_iload_n (x := x1) r_182_51 rfl rfl ?_
  refine i_sipush r_182_52 (n_182_52 _) rfl ?_
  obtain ⟨g1, h⟩ := h
  refine i_icmp (t := 85) r_182_55 (n_182_55 _) rfl (T_ge g1 ⟨by omega, by omega⟩) (fun c2 => ?_) (fun c2 => ?_)
  · replace h := h.1 c2
    refine i_aload_n (a := 252) r_182_85 (n_182_85 _) rfl ?_
    refine i_dup r_182_86 (n_182_86 _) rfl ?_
    refine i_getI (a := 252) r_182_87 (n_182_87 _) rfl (by decide) lf_252 (fun q3 => ?_)
    refine i_iconst r_182_90 (n_182_90 _) ?_
    refine i_iadd r_182_91 (n_182_91 _) ?_
    obtain ⟨g4, h⟩ := h
    refine i_putI (a := 252) (x := (zI s 252 2) + 1) r_182_92 (n_182_92 _) rfl (.inl rfl) rfl lf_252 g4 ?_
    exact i_return r_182_95 (n_182_95 _) rfl h
  · replace h := h.2 c2
    refine i_aload_n (a := 252) r_182_58 (n_182_58 _) rfl ?_
    refine i_getR (a := 252) (b := 254) r_182_59 (n_182_59 _) rfl rfl rfl (by omega) lf_252 (by omega) ?_
    refine i_sipush r_182_62 (n_182_62 _) rfl ?_
    refine i_aload_n (a := 252) r_182_65 (n_182_65 _) rfl ?_
    refine i_getI (a := 252) r_182_66 (n_182_66 _) rfl (by decide) lf_252 (fun q5 => ?_)
    refine i_imul r_182_69 (n_182_69 _) ?_
    refine i_iload_n (x := x1) r_182_70 (n_182_70 _) rfl ?_
    refine i_iadd r_182_71 (n_182_71 _) ?_
    refine i_aload_n (a := 252) r_182_72 (n_182_72 _) rfl ?_
    refine i_getR (a := 252) (b := 253) r_182_73 (n_182_73 _) rfl rfl rfl (by omega) lf_252 (by omega) ?_
    refine i_iload_n (x := x1) r_182_76 (n_182_76 _) rfl ?_
    obtain ⟨g6, h⟩ := h
    refine i_iaload (a := 253) (j := x1) r_182_77 (n_182_77 _) lf_253 ⟨by omega, by omega⟩ (by omega) (by omega) (fun q7 => ?_)
    obtain ⟨g8, h⟩ := h
    refine i_iastore (a := 254) (j := (1199 * (zI s 252 2)) + x1) (x := zI s 253 x1) r_182_78 (n_182_78 _) lf_254 ⟨by omega, by omega⟩ (by omega) (by omega) q7 ?_
    refine i_iinc (x := x1) (l' := [(0, rf 252), (1, iv (x1 + 1))]) r_182_79 (n_182_79 _) (by decide) rfl rfl ?_
    refine i_goto (t := 51) r_182_82 (n_182_82 _) rfl ?_
    exact wp_pr (l' := [(0, rf 252), (1, iv (x1 + 1))]) rfl h
theorem r_183_0 : xfetch 183 0 = some (.aload_n 0, 1) := by decide +kernel
theorem n_183_0 : ∀ l, xpr 183 0 l = l := xpr_no (by decide +kernel)
theorem r_183_1 : xfetch 183 1 = some (.getfield 7, 3) := by decide +kernel
theorem n_183_1 : ∀ l, xpr 183 1 l = l := xpr_no (by decide +kernel)
theorem r_183_4 : xfetch 183 4 = some (.aload_n 0, 1) := by decide +kernel
theorem n_183_4 : ∀ l, xpr 183 4 l = l := xpr_no (by decide +kernel)
theorem r_183_5 : xfetch 183 5 = some (.getfield 7, 3) := by decide +kernel
theorem n_183_5 : ∀ l, xpr 183 5 l = l := xpr_no (by decide +kernel)
theorem r_183_8 : xfetch 183 8 = some (.iconst 0, 1) := by decide +kernel
theorem n_183_8 : ∀ l, xpr 183 8 l = l := xpr_no (by decide +kernel)
theorem r_183_9 : xfetch 183 9 = some (.iaload, 1) := by decide +kernel
theorem n_183_9 : ∀ l, xpr 183 9 l = l := xpr_no (by decide +kernel)
theorem r_183_10 : xfetch 183 10 = some (.invokestatic 92, 3) := by decide +kernel
theorem n_183_10 : ∀ l, xpr 183 10 l = l := xpr_no (by decide +kernel)
theorem r_183_13 : xfetch 183 13 = some (.iload_n 1, 1) := by decide +kernel
theorem n_183_13 : ∀ l, xpr 183 13 l = l := xpr_no (by decide +kernel)
theorem r_183_14 : xfetch 183 14 = some (.iastore, 1) := by decide +kernel
theorem n_183_14 : ∀ l, xpr 183 14 l = l := xpr_no (by decide +kernel)
theorem r_183_15 : xfetch 183 15 = some (.aload_n 0, 1) := by decide +kernel
theorem n_183_15 : ∀ l, xpr 183 15 l = l := xpr_no (by decide +kernel)
theorem r_183_16 : xfetch 183 16 = some (.getfield 7, 3) := by decide +kernel
theorem n_183_16 : ∀ l, xpr 183 16 l = l := xpr_no (by decide +kernel)
theorem r_183_19 : xfetch 183 19 = some (.aload_n 0, 1) := by decide +kernel
theorem n_183_19 : ∀ l, xpr 183 19 l = l := xpr_no (by decide +kernel)
theorem r_183_20 : xfetch 183 20 = some (.getfield 7, 3) := by decide +kernel
theorem n_183_20 : ∀ l, xpr 183 20 l = l := xpr_no (by decide +kernel)
theorem r_183_23 : xfetch 183 23 = some (.iconst 0, 1) := by decide +kernel
theorem n_183_23 : ∀ l, xpr 183 23 l = l := xpr_no (by decide +kernel)
theorem r_183_24 : xfetch 183 24 = some (.iaload, 1) := by decide +kernel
theorem n_183_24 : ∀ l, xpr 183 24 l = l := xpr_no (by decide +kernel)
theorem r_183_25 : xfetch 183 25 = some (.invokestatic 92, 3) := by decide +kernel
theorem n_183_25 : ∀ l, xpr 183 25 l = l := xpr_no (by decide +kernel)
theorem r_183_28 : xfetch 183 28 = some (.iconst 1, 1) := by decide +kernel
theorem n_183_28 : ∀ l, xpr 183 28 l = l := xpr_no (by decide +kernel)
theorem r_183_29 : xfetch 183 29 = some (.iadd, 1) := by decide +kernel
theorem n_183_29 : ∀ l, xpr 183 29 l = l := xpr_no (by decide +kernel)
theorem r_183_30 : xfetch 183 30 = some (.iconst 0, 1) := by decide +kernel
theorem n_183_30 : ∀ l, xpr 183 30 l = l := xpr_no (by decide +kernel)
theorem r_183_31 : xfetch 183 31 = some (.iastore, 1) := by decide +kernel
theorem n_183_31 : ∀ l, xpr 183 31 l = l := xpr_no (by decide +kernel)
theorem r_183_32 : xfetch 183 32 = some (.aload_n 0, 1) := by decide +kernel
theorem n_183_32 : ∀ l, xpr 183 32 l = l := xpr_no (by decide +kernel)
theorem r_183_33 : xfetch 183 33 = some (.getfield 7, 3) := by decide +kernel
theorem n_183_33 : ∀ l, xpr 183 33 l = l := xpr_no (by decide +kernel)
theorem r_183_36 : xfetch 183 36 = some (.iconst 0, 1) := by decide +kernel
theorem n_183_36 : ∀ l, xpr 183 36 l = l := xpr_no (by decide +kernel)
theorem r_183_37 : xfetch 183 37 = some (.dup2, 1) := by decide +kernel
theorem n_183_37 : ∀ l, xpr 183 37 l = l := xpr_no (by decide +kernel)
theorem r_183_38 : xfetch 183 38 = some (.iaload, 1) := by decide +kernel
theorem n_183_38 : ∀ l, xpr 183 38 l = l := xpr_no (by decide +kernel)
theorem r_183_39 : xfetch 183 39 = some (.iconst 1, 1) := by decide +kernel
theorem n_183_39 : ∀ l, xpr 183 39 l = l := xpr_no (by decide +kernel)
theorem r_183_40 : xfetch 183 40 = some (.iadd, 1) := by decide +kernel
theorem n_183_40 : ∀ l, xpr 183 40 l = l := xpr_no (by decide +kernel)
theorem r_183_41 : xfetch 183 41 = some (.iastore, 1) := by decide +kernel
theorem n_183_41 : ∀ l, xpr 183 41 l = l := xpr_no (by decide +kernel)
theorem r_183_42 : xfetch 183 42 = some (.return_, 1) := by decide +kernel
theorem n_183_42 : ∀ l, xpr 183 42 l = l := xpr_no (by decide +kernel)
theorem v_Model_creates_0 {S : Option (Nat × (Nat → Int32))} {s : zSt} {Q : Option Value ⊕ Nat → zSt → Prop} {x1 : Int} 
    (h : (0 ≤ (1 + (26 * (zI s 253 0))) ∧ (1 + (26 * (zI s 253 0))) < 1199) ∧ (rng x1 ∧ ((0 ≤ ((1 + (26 * (zI (zwI s 253 (1 + (26 * (zI s 253 0))) x1) 253 0))) + 1) ∧ ((1 + (26 * (zI (zwI s 253 (1 + (26 * (zI s 253 0))) x1) 253 0))) + 1) < 1199) ∧ (rng ((zI (zwI (zwI s 253 (1 + (26 * (zI s 253 0))) x1) 253 ((1 + (26 * (zI (zwI s 253 (1 + (26 * (zI s 253 0))) x1) 253 0))) + 1) 0) 253 0) + 1) ∧ (Q rU (zwI (zwI (zwI s 253 (1 + (26 * (zI s 253 0))) x1) 253 ((1 + (26 * (zI (zwI s 253 (1 + (26 * (zI s 253 0))) x1) 253 0))) + 1) 0) 253 0 ((zI (zwI (zwI s 253 (1 + (26 * (zI s 253 0))) x1) 253 ((1 + (26 * (zI (zwI s 253 (1 + (26 * (zI s 253 0))) x1) 253 0))) + 1) 0) 253 0) + 1))))))) :
    wp S 183 0 [(0, rf 252), (1, iv x1)] [] s Q := by
  refine i_aload_n (a := 252) r_183_0 (n_183_0 _) rfl ?_
  refine i_getR (a := 252) (b := 253) r_183_1 (n_183_1 _) rfl rfl rfl (by omega) lf_252 (by omega) ?_
  refine i_aload_n (a := 252) r_183_4 (n_183_4 _) rfl ?_
  refine i_getR (a := 252) (b := 253) r_183_5 (n_183_5 _) rfl rfl rfl (by omega) lf_252 (by omega) ?_
  refine i_iconst r_183_8 (n_183_8 _) ?_
  refine i_iaload (a := 253) (j := 0) r_183_9 (n_183_9 _) lf_253 ⟨by omega, by omega⟩ (by omega) (by omega) (fun q1 => ?_)
  refine wp_stat (rest := [rf 253]) (Ls := [(0, iv (zI s 253 0))]) r_183_10 (n_183_10 _) rfl ⟨rfl, by decide, by decide, by decide⟩ rfl rfl ⟨rfl, Nat.le_of_ble_eq_true rfl, Nat.le_of_ble_eq_true rfl⟩ rfl K_Model_record ?_
  rintro _ _ ⟨rfl, rfl⟩
  refine .inl ⟨some (iv (1 + (26 * (zI s 253 0)))), rfl, ?_⟩
  show wp S 183 13 [(0, rf 252), (1, iv x1)] [iv (1 + (26 * (zI s 253 0))), rf 253] s Q
  refine i_iload_n (x := x1) r_183_13 (n_183_13 _) rfl ?_
  obtain ⟨g3, h⟩ := h
  obtain ⟨g4, h⟩ := h
  refine i_iastore (a := 253) (j := 1 + (26 * (zI s 253 0))) (x := x1) r_183_14 (n_183_14 _) lf_253 ⟨by omega, by omega⟩ (by omega) (by omega) g4 ?_
  refine i_aload_n (a := 252) r_183_15 (n_183_15 _) rfl ?_
  refine i_getR (a := 252) (b := 253) r_183_16 (n_183_16 _) rfl rfl rfl (by omega) lf_252 (by omega) ?_
  refine i_aload_n (a := 252) r_183_19 (n_183_19 _) rfl ?_
  refine i_getR (a := 252) (b := 253) r_183_20 (n_183_20 _) rfl rfl rfl (by omega) lf_252 (by omega) ?_
  refine i_iconst r_183_23 (n_183_23 _) ?_
  refine i_iaload (a := 253) (j := 0) r_183_24 (n_183_24 _) lf_253 ⟨by omega, by omega⟩ (by omega) (by omega) (fun q5 => ?_)
  refine wp_stat (rest := [rf 253]) (Ls := [(0, iv (zI (zwI s 253 (1 + (26 * (zI s 253 0))) x1) 253 0))]) r_183_25 (n_183_25 _) rfl ⟨rfl, by decide, by decide, by decide⟩ rfl rfl ⟨rfl, Nat.le_of_ble_eq_true rfl, Nat.le_of_ble_eq_true rfl⟩ rfl K_Model_record ?_
  rintro _ _ ⟨rfl, rfl⟩
  refine .inl ⟨some (iv (1 + (26 * (zI (zwI s 253 (1 + (26 * (zI s 253 0))) x1) 253 0)))), rfl, ?_⟩
  show wp S 183 28 [(0, rf 252), (1, iv x1)] [iv (1 + (26 * (zI (zwI s 253 (1 + (26 * (zI s 253 0))) x1) 253 0))), rf 253] (zwI s 253 (1 + (26 * (zI s 253 0))) x1) Q
  refine i_iconst r_183_28 (n_183_28 _) ?_
  refine i_iadd r_183_29 (n_183_29 _) ?_
  refine i_iconst r_183_30 (n_183_30 _) ?_
  obtain ⟨g7, h⟩ := h
  refine i_iastore (a := 253) (j := (1 + (26 * (zI (zwI s 253 (1 + (26 * (zI s 253 0))) x1) 253 0))) + 1) (x := 0) r_183_31 (n_183_31 _) lf_253 ⟨by omega, by omega⟩ (by omega) (by omega) ⟨by omega, by omega⟩ ?_
  refine i_aload_n (a := 252) r_183_32 (n_183_32 _) rfl ?_
  refine i_getR (a := 252) (b := 253) r_183_33 (n_183_33 _) rfl rfl rfl (by omega) lf_252 (by omega) ?_
  refine i_iconst r_183_36 (n_183_36 _) ?_
  refine i_dup2 r_183_37 (n_183_37 _) rfl rfl ?_
  refine i_iaload (a := 253) (j := 0) r_183_38 (n_183_38 _) lf_253 ⟨by omega, by omega⟩ (by omega) (by omega) (fun q8 => ?_)
  refine i_iconst r_183_39 (n_183_39 _) ?_
  refine i_iadd r_183_40 (n_183_40 _) ?_
  obtain ⟨g9, h⟩ := h
  refine i_iastore (a := 253) (j := 0) (x := (zI (zwI (zwI s 253 (1 + (26 * (zI s 253 0))) x1) 253 ((1 + (26 * (zI (zwI s 253 (1 + (26 * (zI s 253 0))) x1) 253 0))) + 1) 0) 253 0) + 1) r_183_41 (n_183_41 _) lf_253 ⟨by omega, by omega⟩ (by omega) (by omega) g9 ?_
  exact i_return r_183_42 (n_183_42 _) rfl h
theorem r_185_0 : xfetch 185 0 = some (.aload_n 0, 1) := by decide +kernel
theorem n_185_0 : ∀ l, xpr 185 0 l = l := xpr_no (by decide +kernel)
theorem r_185_1 : xfetch 185 1 = some (.iload_n 1, 1) := by decide +kernel
theorem n_185_1 : ∀ l, xpr 185 1 l = l := xpr_no (by decide +kernel)
theorem r_185_2 : xfetch 185 2 = some (.invokevirtual 142, 3) := by decide +kernel
theorem n_185_2 : ∀ l, xpr 185 2 l = l := xpr_no (by decide +kernel)
theorem r_185_5 : xfetch 185 5 = some (.istore 5, 2) := by decide +kernel
theorem n_185_5 : ∀ l, xpr 185 5 l = l := xpr_no (by decide +kernel)
theorem r_185_7 : xfetch 185 7 = some (.iload 5, 2) := by decide +kernel
theorem n_185_7 : ∀ l, xpr 185 7 l = l := xpr_no (by decide +kernel)
theorem r_185_9 : xfetch 185 9 = some (.ifCond .eq 57, 3) := by decide +kernel
theorem n_185_9 : ∀ l, xpr 185 9 l = l := xpr_no (by decide +kernel)
theorem r_185_12 : xfetch 185 12 = some (.iload_n 2, 1) := by decide +kernel
theorem n_185_12 : ∀ l, xpr 185 12 l = l := xpr_no (by decide +kernel)
theorem r_185_13 : xfetch 185 13 = some (.bipush 97, 2) := by decide +kernel
theorem n_185_13 : ∀ l, xpr 185 13 l = l := xpr_no (by decide +kernel)
theorem r_185_15 : xfetch 185 15 = some (.bipush 122, 2) := by decide +kernel
theorem n_185_15 : ∀ l, xpr 185 15 l = l := xpr_no (by decide +kernel)
theorem r_185_17 : xfetch 185 17 = some (.invokestatic 88, 3) := by decide +kernel
theorem n_185_17 : ∀ l, xpr 185 17 l = l := xpr_no (by decide +kernel)
theorem r_185_20 : xfetch 185 20 = some (.ifCond .eq 46, 3) := by decide +kernel
theorem n_185_20 : ∀ l, xpr 185 20 l = l := xpr_no (by decide +kernel)
theorem r_185_23 : xfetch 185 23 = some (.aload_n 0, 1) := by decide +kernel
theorem n_185_23 : ∀ l, xpr 185 23 l = l := xpr_no (by decide +kernel)
theorem r_185_24 : xfetch 185 24 = some (.iload_n 1, 1) := by decide +kernel
theorem n_185_24 : ∀ l, xpr 185 24 l = l := xpr_no (by decide +kernel)
theorem r_185_25 : xfetch 185 25 = some (.iload_n 2, 1) := by decide +kernel
theorem n_185_25 : ∀ l, xpr 185 25 l = l := xpr_no (by decide +kernel)
theorem r_185_26 : xfetch 185 26 = some (.invokevirtual 145, 3) := by decide +kernel
theorem n_185_26 : ∀ l, xpr 185 26 l = l := xpr_no (by decide +kernel)
theorem r_185_29 : xfetch 185 29 = some (.ifCond .ne 37, 3) := by decide +kernel
theorem n_185_29 : ∀ l, xpr 185 29 l = l := xpr_no (by decide +kernel)
theorem r_185_32 : xfetch 185 32 = some (.aload_n 0, 1) := by decide +kernel
theorem n_185_32 : ∀ l, xpr 185 32 l = l := xpr_no (by decide +kernel)
theorem r_185_33 : xfetch 185 33 = some (.iload_n 1, 1) := by decide +kernel
theorem n_185_33 : ∀ l, xpr 185 33 l = l := xpr_no (by decide +kernel)
theorem r_185_34 : xfetch 185 34 = some (.iload_n 3, 1) := by decide +kernel
theorem n_185_34 : ∀ l, xpr 185 34 l = l := xpr_no (by decide +kernel)
theorem r_185_35 : xfetch 185 35 = some (.invokevirtual 149, 3) := by decide +kernel
theorem n_185_35 : ∀ l, xpr 185 35 l = l := xpr_no (by decide +kernel)
theorem r_185_38 : xfetch 185 38 = some (.ifCond .eq 28, 3) := by decide +kernel
theorem n_185_38 : ∀ l, xpr 185 38 l = l := xpr_no (by decide +kernel)
theorem r_185_41 : xfetch 185 41 = some (.iload 4, 2) := by decide +kernel
theorem n_185_41 : ∀ l, xpr 185 41 l = l := xpr_no (by decide +kernel)
theorem r_185_43 : xfetch 185 43 = some (.iconst 1, 1) := by decide +kernel
theorem n_185_43 : ∀ l, xpr 185 43 l = l := xpr_no (by decide +kernel)
theorem r_185_44 : xfetch 185 44 = some (.iload_n 3, 1) := by decide +kernel
theorem n_185_44 : ∀ l, xpr 185 44 l = l := xpr_no (by decide +kernel)
theorem r_185_45 : xfetch 185 45 = some (.invokestatic 109, 3) := by decide +kernel
theorem n_185_45 : ∀ l, xpr 185 45 l = l := xpr_no (by decide +kernel)
theorem r_185_48 : xfetch 185 48 = some (.ifCond .eq 7, 3) := by decide +kernel
theorem n_185_48 : ∀ l, xpr 185 48 l = l := xpr_no (by decide +kernel)
theorem r_185_51 : xfetch 185 51 = some (.iconst 1, 1) := by decide +kernel
theorem n_185_51 : ∀ l, xpr 185 51 l = l := xpr_no (by decide +kernel)
theorem r_185_52 : xfetch 185 52 = some (.goto 4, 3) := by decide +kernel
theorem n_185_52 : ∀ l, xpr 185 52 l = l := xpr_no (by decide +kernel)
theorem r_185_55 : xfetch 185 55 = some (.iconst 4, 1) := by decide +kernel
theorem n_185_55 : ∀ l, xpr 185 55 l = l := xpr_no (by decide +kernel)
theorem r_185_56 : xfetch 185 56 = some (.invokestatic 88, 3) := by decide +kernel
theorem n_185_56 : ∀ l, xpr 185 56 l = l := xpr_no (by decide +kernel)
theorem r_185_59 : xfetch 185 59 = some (.ifCond .eq 7, 3) := by decide +kernel
theorem n_185_59 : ∀ l, xpr 185 59 l = l := xpr_no (by decide +kernel)
theorem r_185_62 : xfetch 185 62 = some (.iconst 1, 1) := by decide +kernel
theorem n_185_62 : ∀ l, xpr 185 62 l = l := xpr_no (by decide +kernel)
theorem r_185_63 : xfetch 185 63 = some (.goto 4, 3) := by decide +kernel
theorem n_185_63 : ∀ l, xpr 185 63 l = l := xpr_no (by decide +kernel)
theorem r_185_66 : xfetch 185 66 = some (.iconst 0, 1) := by decide +kernel
theorem n_185_66 : ∀ l, xpr 185 66 l = l := xpr_no (by decide +kernel)
theorem r_185_67 : xfetch 185 67 = some (.istore 6, 2) := by decide +kernel
theorem n_185_67 : ∀ l, xpr 185 67 l = l := xpr_no (by decide +kernel)
theorem r_185_69 : xfetch 185 69 = some (.iload 6, 2) := by decide +kernel
theorem n_185_69 : ∀ l, xpr 185 69 l = l := xpr_no (by decide +kernel)
theorem r_185_71 : xfetch 185 71 = some (.ifCond .eq 7, 3) := by decide +kernel
theorem n_185_71 : ∀ l, xpr 185 71 l = l := xpr_no (by decide +kernel)
theorem r_185_74 : xfetch 185 74 = some (.aload_n 0, 1) := by decide +kernel
theorem n_185_74 : ∀ l, xpr 185 74 l = l := xpr_no (by decide +kernel)
theorem r_185_75 : xfetch 185 75 = some (.invokevirtual 152, 3) := by decide +kernel
theorem n_185_75 : ∀ l, xpr 185 75 l = l := xpr_no (by decide +kernel)
theorem r_185_78 : xfetch 185 78 = some (.iload 6, 2) := by decide +kernel
theorem r_185_80 : xfetch 185 80 = some (.ifCond .eq 59, 3) := by decide +kernel
theorem n_185_80 : ∀ l, xpr 185 80 l = l := xpr_no (by decide +kernel)
theorem r_185_83 : xfetch 185 83 = some (.aload_n 0, 1) := by decide +kernel
theorem n_185_83 : ∀ l, xpr 185 83 l = l := xpr_no (by decide +kernel)
theorem r_185_84 : xfetch 185 84 = some (.iload_n 1, 1) := by decide +kernel
theorem n_185_84 : ∀ l, xpr 185 84 l = l := xpr_no (by decide +kernel)
theorem r_185_85 : xfetch 185 85 = some (.invokevirtual 99, 3) := by decide +kernel
theorem n_185_85 : ∀ l, xpr 185 85 l = l := xpr_no (by decide +kernel)
theorem r_185_88 : xfetch 185 88 = some (.bipush 8, 2) := by decide +kernel
theorem n_185_88 : ∀ l, xpr 185 88 l = l := xpr_no (by decide +kernel)
theorem r_185_90 : xfetch 185 90 = some (.if_icmp .ge 49, 3) := by decide +kernel
theorem n_185_90 : ∀ l, xpr 185 90 l = l := xpr_no (by decide +kernel)
theorem r_185_93 : xfetch 185 93 = some (.aload_n 0, 1) := by decide +kernel
theorem n_185_93 : ∀ l, xpr 185 93 l = l := xpr_no (by decide +kernel)
theorem r_185_94 : xfetch 185 94 = some (.iload_n 1, 1) := by decide +kernel
theorem n_185_94 : ∀ l, xpr 185 94 l = l := xpr_no (by decide +kernel)
theorem r_185_95 : xfetch 185 95 = some (.invokevirtual 155, 3) := by decide +kernel
theorem n_185_95 : ∀ l, xpr 185 95 l = l := xpr_no (by decide +kernel)
theorem r_185_98 : xfetch 185 98 = some (.ifCond .ne 41, 3) := by decide +kernel
theorem n_185_98 : ∀ l, xpr 185 98 l = l := xpr_no (by decide +kernel)
theorem r_185_101 : xfetch 185 101 = some (.aload_n 0, 1) := by decide +kernel
theorem n_185_101 : ∀ l, xpr 185 101 l = l := xpr_no (by decide +kernel)
theorem r_185_102 : xfetch 185 102 = some (.getfield 19, 3) := by decide +kernel
theorem n_185_102 : ∀ l, xpr 185 102 l = l := xpr_no (by decide +kernel)
theorem r_185_105 : xfetch 185 105 = some (.iload_n 1, 1) := by decide +kernel
theorem n_185_105 : ∀ l, xpr 185 105 l = l := xpr_no (by decide +kernel)
theorem r_185_106 : xfetch 185 106 = some (.iaload, 1) := by decide +kernel
theorem n_185_106 : ∀ l, xpr 185 106 l = l := xpr_no (by decide +kernel)
theorem r_185_107 : xfetch 185 107 = some (.iload 4, 2) := by decide +kernel
theorem n_185_107 : ∀ l, xpr 185 107 l = l := xpr_no (by decide +kernel)
theorem r_185_109 : xfetch 185 109 = some (.iload_n 3, 1) := by decide +kernel
theorem n_185_109 : ∀ l, xpr 185 109 l = l := xpr_no (by decide +kernel)
theorem r_185_110 : xfetch 185 110 = some (.bipush 100, 2) := by decide +kernel
theorem n_185_110 : ∀ l, xpr 185 110 l = l := xpr_no (by decide +kernel)
theorem r_185_112 : xfetch 185 112 = some (.if_icmp .lt 15, 3) := by decide +kernel
theorem n_185_112 : ∀ l, xpr 185 112 l = l := xpr_no (by decide +kernel)
theorem r_185_115 : xfetch 185 115 = some (.aload_n 0, 1) := by decide +kernel
theorem n_185_115 : ∀ l, xpr 185 115 l = l := xpr_no (by decide +kernel)
theorem r_185_116 : xfetch 185 116 = some (.getfield 19, 3) := by decide +kernel
theorem n_185_116 : ∀ l, xpr 185 116 l = l := xpr_no (by decide +kernel)
theorem r_185_119 : xfetch 185 119 = some (.iload_n 3, 1) := by decide +kernel
theorem n_185_119 : ∀ l, xpr 185 119 l = l := xpr_no (by decide +kernel)
theorem r_185_120 : xfetch 185 120 = some (.bipush 100, 2) := by decide +kernel
theorem n_185_120 : ∀ l, xpr 185 120 l = l := xpr_no (by decide +kernel)
theorem r_185_122 : xfetch 185 122 = some (.isub, 1) := by decide +kernel
theorem n_185_122 : ∀ l, xpr 185 122 l = l := xpr_no (by decide +kernel)
theorem r_185_123 : xfetch 185 123 = some (.iaload, 1) := by decide +kernel
theorem n_185_123 : ∀ l, xpr 185 123 l = l := xpr_no (by decide +kernel)
theorem r_185_124 : xfetch 185 124 = some (.goto 4, 3) := by decide +kernel
theorem n_185_124 : ∀ l, xpr 185 124 l = l := xpr_no (by decide +kernel)
theorem r_185_127 : xfetch 185 127 = some (.iconst 1, 1) := by decide +kernel
theorem n_185_127 : ∀ l, xpr 185 127 l = l := xpr_no (by decide +kernel)
theorem r_185_128 : xfetch 185 128 = some (.imul, 1) := by decide +kernel
theorem n_185_128 : ∀ l, xpr 185 128 l = l := xpr_no (by decide +kernel)
theorem r_185_129 : xfetch 185 129 = some (.iadd, 1) := by decide +kernel
theorem n_185_129 : ∀ l, xpr 185 129 l = l := xpr_no (by decide +kernel)
theorem r_185_130 : xfetch 185 130 = some (.bipush 40, 2) := by decide +kernel
theorem n_185_130 : ∀ l, xpr 185 130 l = l := xpr_no (by decide +kernel)
theorem r_185_132 : xfetch 185 132 = some (.if_icmp .gt 7, 3) := by decide +kernel
theorem n_185_132 : ∀ l, xpr 185 132 l = l := xpr_no (by decide +kernel)
theorem r_185_135 : xfetch 185 135 = some (.iconst 1, 1) := by decide +kernel
theorem n_185_135 : ∀ l, xpr 185 135 l = l := xpr_no (by decide +kernel)
theorem r_185_136 : xfetch 185 136 = some (.goto 4, 3) := by decide +kernel
theorem n_185_136 : ∀ l, xpr 185 136 l = l := xpr_no (by decide +kernel)
theorem r_185_139 : xfetch 185 139 = some (.iconst 0, 1) := by decide +kernel
theorem n_185_139 : ∀ l, xpr 185 139 l = l := xpr_no (by decide +kernel)
theorem r_185_140 : xfetch 185 140 = some (.istore 7, 2) := by decide +kernel
theorem r_185_142 : xfetch 185 142 = some (.aload_n 0, 1) := by decide +kernel
theorem n_185_142 : ∀ l, xpr 185 142 l = l := xpr_no (by decide +kernel)
theorem r_185_143 : xfetch 185 143 = some (.iload 5, 2) := by decide +kernel
theorem n_185_143 : ∀ l, xpr 185 143 l = l := xpr_no (by decide +kernel)
theorem r_185_145 : xfetch 185 145 = some (.ifCond .ne 7, 3) := by decide +kernel
theorem n_185_145 : ∀ l, xpr 185 145 l = l := xpr_no (by decide +kernel)
theorem r_185_148 : xfetch 185 148 = some (.iconst 1, 1) := by decide +kernel
theorem n_185_148 : ∀ l, xpr 185 148 l = l := xpr_no (by decide +kernel)
theorem r_185_149 : xfetch 185 149 = some (.goto 22, 3) := by decide +kernel
theorem n_185_149 : ∀ l, xpr 185 149 l = l := xpr_no (by decide +kernel)
theorem r_185_152 : xfetch 185 152 = some (.iload 6, 2) := by decide +kernel
theorem n_185_152 : ∀ l, xpr 185 152 l = l := xpr_no (by decide +kernel)
theorem r_185_154 : xfetch 185 154 = some (.ifCond .ne 7, 3) := by decide +kernel
theorem n_185_154 : ∀ l, xpr 185 154 l = l := xpr_no (by decide +kernel)
theorem r_185_157 : xfetch 185 157 = some (.iconst 2, 1) := by decide +kernel
theorem n_185_157 : ∀ l, xpr 185 157 l = l := xpr_no (by decide +kernel)
theorem r_185_158 : xfetch 185 158 = some (.goto 13, 3) := by decide +kernel
theorem n_185_158 : ∀ l, xpr 185 158 l = l := xpr_no (by decide +kernel)
theorem r_185_161 : xfetch 185 161 = some (.iload 7, 2) := by decide +kernel
theorem n_185_161 : ∀ l, xpr 185 161 l = l := xpr_no (by decide +kernel)
theorem r_185_163 : xfetch 185 163 = some (.ifCond .ne 7, 3) := by decide +kernel
theorem n_185_163 : ∀ l, xpr 185 163 l = l := xpr_no (by decide +kernel)
theorem r_185_166 : xfetch 185 166 = some (.iconst 3, 1) := by decide +kernel
theorem n_185_166 : ∀ l, xpr 185 166 l = l := xpr_no (by decide +kernel)
theorem r_185_167 : xfetch 185 167 = some (.goto 4, 3) := by decide +kernel
theorem n_185_167 : ∀ l, xpr 185 167 l = l := xpr_no (by decide +kernel)
theorem r_185_170 : xfetch 185 170 = some (.iconst 0, 1) := by decide +kernel
theorem n_185_170 : ∀ l, xpr 185 170 l = l := xpr_no (by decide +kernel)
theorem r_185_171 : xfetch 185 171 = some (.invokevirtual 84, 3) := by decide +kernel
theorem n_185_171 : ∀ l, xpr 185 171 l = l := xpr_no (by decide +kernel)
theorem r_185_174 : xfetch 185 174 = some (.ifCond .eq 5, 3) := by decide +kernel
theorem n_185_174 : ∀ l, xpr 185 174 l = l := xpr_no (by decide +kernel)
theorem r_185_177 : xfetch 185 177 = some (.iconst 0, 1) := by decide +kernel
theorem n_185_177 : ∀ l, xpr 185 177 l = l := xpr_no (by decide +kernel)
theorem r_185_178 : xfetch 185 178 = some (.ireturn, 1) := by decide +kernel
theorem n_185_178 : ∀ l, xpr 185 178 l = l := xpr_no (by decide +kernel)
theorem r_185_179 : xfetch 185 179 = some (.aload_n 0, 1) := by decide +kernel
theorem n_185_179 : ∀ l, xpr 185 179 l = l := xpr_no (by decide +kernel)
theorem r_185_180 : xfetch 185 180 = some (.invokevirtual 135, 3) := by decide +kernel
theorem n_185_180 : ∀ l, xpr 185 180 l = l := xpr_no (by decide +kernel)
theorem r_185_183 : xfetch 185 183 = some (.aload_n 0, 1) := by decide +kernel
theorem n_185_183 : ∀ l, xpr 185 183 l = l := xpr_no (by decide +kernel)
theorem r_185_184 : xfetch 185 184 = some (.iload_n 1, 1) := by decide +kernel
theorem n_185_184 : ∀ l, xpr 185 184 l = l := xpr_no (by decide +kernel)
theorem r_185_185 : xfetch 185 185 = some (.iload_n 2, 1) := by decide +kernel
theorem n_185_185 : ∀ l, xpr 185 185 l = l := xpr_no (by decide +kernel)
theorem r_185_186 : xfetch 185 186 = some (.iload_n 3, 1) := by decide +kernel
theorem n_185_186 : ∀ l, xpr 185 186 l = l := xpr_no (by decide +kernel)
theorem r_185_187 : xfetch 185 187 = some (.iload 4, 2) := by decide +kernel
theorem n_185_187 : ∀ l, xpr 185 187 l = l := xpr_no (by decide +kernel)
theorem r_185_189 : xfetch 185 189 = some (.invokevirtual 158, 3) := by decide +kernel
theorem n_185_189 : ∀ l, xpr 185 189 l = l := xpr_no (by decide +kernel)
theorem r_185_192 : xfetch 185 192 = some (.aload_n 0, 1) := by decide +kernel
theorem n_185_192 : ∀ l, xpr 185 192 l = l := xpr_no (by decide +kernel)
theorem r_185_193 : xfetch 185 193 = some (.iload_n 1, 1) := by decide +kernel
theorem n_185_193 : ∀ l, xpr 185 193 l = l := xpr_no (by decide +kernel)
theorem r_185_194 : xfetch 185 194 = some (.invokevirtual 99, 3) := by decide +kernel
theorem n_185_194 : ∀ l, xpr 185 194 l = l := xpr_no (by decide +kernel)
theorem r_185_197 : xfetch 185 197 = some (.ireturn, 1) := by decide +kernel
theorem n_185_197 : ∀ l, xpr 185 197 l = l := xpr_no (by decide +kernel)
theorem v_Model_addField_0 {S : Option (Nat × (Nat → Int32))} {s : zSt} {Q : Option Value ⊕ Nat → zSt → Prop} {x1 : Int} {x2 : Int} {x3 : Int} {x4 : Int} 
    (h : rng x1 ∧ (rng ((zI s 253 0) - 1) ∧ ((¬ (0 ≤ x1 ∧ x1 ≤ ((zI s 253 0) - 1)) → wp S 185 78 [(0, rf 252), (1, iv x1), (2, iv x2), (3, iv x3), (4, iv x4), (5, iv (bi (0 ≤ x1 ∧ x1 ≤ ((zI s 253 0) - 1)))), (6, iv 0)] [] s Q) ∧ (0 ≤ x1 ∧ x1 ≤ ((zI s 253 0) - 1) → rng x2 ∧ ((¬ (97 ≤ x2 ∧ x2 ≤ 122) → wp S 185 78 [(0, rf 252), (1, iv x1), (2, iv x2), (3, iv x3), (4, iv x4), (5, iv (bi (0 ≤ x1 ∧ x1 ≤ ((zI s 253 0) - 1)))), (6, iv 0)] [] s Q) ∧ (97 ≤ x2 ∧ x2 ≤ 122 → wp S 188 0 [(0, rf 252), (1, iv x1), (2, iv x2)] [] s (fun o8 s8 => zkI (fun y8 => (y8 ≠ 0 → wp S 185 78 [(0, rf 252), (1, iv x1), (2, iv x2), (3, iv x3), (4, iv x4), (5, iv (bi (0 ≤ x1 ∧ x1 ≤ ((zI s 253 0) - 1)))), (6, iv 0)] [] s8 Q) ∧ (y8 = 0 → rng x3 ∧ (rng (99 + x1) ∧ ((100 ≤ x3 → x3 ≤ 99 + x1 → x3 < 106) ∧ ((¬ ((0 ≤ x3 ∧ x3 ≤ 7) ∨ (21 ≤ x3 ∧ x3 ≤ 36) ∨ (100 ≤ x3 ∧ x3 ≤ 99 + x1 ∧ 0 < zI s8 253 (1 + 26 * (x3 - 100) + 1))) → wp S 185 78 [(0, rf 252), (1, iv x1), (2, iv x2), (3, iv x3), (4, iv x4), (5, iv (bi (0 ≤ x1 ∧ x1 ≤ ((zI s 253 0) - 1)))), (6, iv 0)] [] s8 Q) ∧ ((0 ≤ x3 ∧ x3 ≤ 7) ∨ (21 ≤ x3 ∧ x3 ≤ 36) ∨ (100 ≤ x3 ∧ x3 ≤ 99 + x1 ∧ 0 < zI s8 253 (1 + 26 * (x3 - 100) + 1)) → (¬ (21 ≤ x3 ∧ x3 ≤ 36) → rng x4 ∧ ((¬ (1 ≤ x4 ∧ x4 ≤ 4) → wp S 185 78 [(0, rf 252), (1, iv x1), (2, iv x2), (3, iv x3), (4, iv x4), (5, iv (bi (0 ≤ x1 ∧ x1 ≤ ((zI s 253 0) - 1)))), (6, iv 0)] [] s8 Q) ∧ (1 ≤ x4 ∧ x4 ≤ 4 → wp S 193 0 [(0, rf 252)] [] s8 (fun o21 s21 => zkU (wp S 185 78 [(0, rf 252), (1, iv x1), (2, iv x2), (3, iv x3), (4, iv x4), (5, iv (bi (0 ≤ x1 ∧ x1 ≤ ((zI s 253 0) - 1)))), (6, iv 1)] [] s21 Q) (fun e21 => False) o21)))) ∧ (21 ≤ x3 ∧ x3 ≤ 36 → rng x4 ∧ ((¬ (1 ≤ x4 ∧ x4 ≤ 1) → wp S 185 78 [(0, rf 252), (1, iv x1), (2, iv x2), (3, iv x3), (4, iv x4), (5, iv (bi (0 ≤ x1 ∧ x1 ≤ ((zI s 253 0) - 1)))), (6, iv 0)] [] s8 Q) ∧ (1 ≤ x4 ∧ x4 ≤ 1 → wp S 193 0 [(0, rf 252)] [] s8 (fun o26 s26 => zkU (wp S 185 78 [(0, rf 252), (1, iv x1), (2, iv x2), (3, iv x3), (4, iv x4), (5, iv (bi (0 ≤ x1 ∧ x1 ≤ ((zI s 253 0) - 1)))), (6, iv 1)] [] s26 Q) (fun e26 => False) o26)))))))))) (fun e8 => False) o8))))))) :
    wp S 185 0 [(0, rf 252), (1, iv x1), (2, iv x2), (3, iv x3), (4, iv x4)] [] s Q := by
  refine i_aload_n (a := 252) r_185_0 (n_185_0 _) rfl ?_
  refine i_iload_n (x := x1) r_185_1 (n_185_1 _) rfl ?_
  obtain ⟨g1, h⟩ := h
  obtain ⟨g2, h⟩ := h
  refine wp_virt (b := 252) (rest := []) (Ls := [(0, rf 252), (1, iv x1)]) r_185_2 (n_185_2 _) rfl ⟨rfl, rfl, by decide, by decide⟩ rfl rfl lf_252 ⟨rfl, Nat.le_of_ble_eq_true rfl, Nat.le_of_ble_eq_true rfl⟩ rfl (K_Model_isRecord g1 g2) ?_
  rintro _ _ ⟨rfl, rfl⟩
  refine .inl ⟨some (iv (bi (0 ≤ x1 ∧ x1 ≤ ((zI s 253 0) - 1)))), rfl, ?_⟩
  show wp S 185 5 [(0, rf 252), (1, iv x1), (2, iv x2), (3, iv x3), (4, iv x4)] [iv (bi (0 ≤ x1 ∧ x1 ≤ ((zI s 253 0) - 1)))] s Q
  refine i_istore (l' := [(0, rf 252), (1, iv x1), (2, iv x2), (3, iv x3), (4, iv x4), (5, iv (bi (0 ≤ x1 ∧ x1 ≤ ((zI s 253 0) - 1))))]) r_185_5 (n_185_5 _) (by decide) rfl ?_
  refine i_iload (x := bi (0 ≤ x1 ∧ x1 ≤ ((zI s 253 0) - 1))) r_185_7 (n_185_7 _) rfl ?_
  refine i_if (t := 66) r_185_9 (n_185_9 _) rfl (TB_eq) (fun c4 => ?_) (fun c4 => ?_)
  · replace h := h.1 c4
    refine i_iconst r_185_66 (n_185_66 _) ?_
    refine i_istore (l' := [(0, rf 252), (1, iv x1), (2, iv x2), (3, iv x3), (4, iv x4), (5, iv (bi (0 ≤ x1 ∧ x1 ≤ ((zI s 253 0) - 1)))), (6, iv 0)]) r_185_67 (n_185_67 _) (by decide) rfl ?_
    refine i_iload (x := 0) r_185_69 (n_185_69 _) rfl ?_
    refine i_if (t := 78) r_185_71 (n_185_71 _) rfl (T_eq ⟨by omega, by omega⟩ ⟨by omega, by omega⟩) (fun _ => ?_) (fun z => absurd z (by omega))
    exact wp_pr (l' := [(0, rf 252), (1, iv x1), (2, iv x2), (3, iv x3), (4, iv x4), (5, iv (bi (0 ≤ x1 ∧ x1 ≤ ((zI s 253 0) - 1)))), (6, iv 0)]) rfl h
  · replace h := h.2 c4
    refine i_iload_n (x := x2) r_185_12 (n_185_12 _) rfl ?_
    refine i_bipush r_185_13 (n_185_13 _) rfl ?_
    refine i_bipush r_185_15 (n_185_15 _) rfl ?_
    obtain ⟨g5, h⟩ := h
    refine wp_stat (rest := []) (Ls := [(0, iv x2), (1, iv 97), (2, iv 122)]) r_185_17 (n_185_17 _) rfl ⟨rfl, by decide, by decide, by decide⟩ rfl rfl ⟨rfl, Nat.le_of_ble_eq_true rfl, Nat.le_of_ble_eq_true rfl⟩ rfl (K_Model_within g5 ⟨by omega, by omega⟩ ⟨by omega, by omega⟩) ?_
    rintro _ _ ⟨rfl, rfl⟩
    refine .inl ⟨some (iv (bi (97 ≤ x2 ∧ x2 ≤ 122))), rfl, ?_⟩
    show wp S 185 20 [(0, rf 252), (1, iv x1), (2, iv x2), (3, iv x3), (4, iv x4), (5, iv (bi (0 ≤ x1 ∧ x1 ≤ ((zI s 253 0) - 1))))] [iv (bi (97 ≤ x2 ∧ x2 ≤ 122))] s Q
    refine i_if (t := 66) r_185_20 (n_185_20 _) rfl (TB_eq) (fun c7 => ?_) (fun c7 => ?_)
    · replace h := h.1 c7
      refine i_iconst r_185_66 (n_185_66 _) ?_
      refine i_istore (l' := [(0, rf 252), (1, iv x1), (2, iv x2), (3, iv x3), (4, iv x4), (5, iv (bi (0 ≤ x1 ∧ x1 ≤ ((zI s 253 0) - 1)))), (6, iv 0)]) r_185_67 (n_185_67 _) (by decide) rfl ?_
      refine i_iload (x := 0) r_185_69 (n_185_69 _) rfl ?_
      refine i_if (t := 78) r_185_71 (n_185_71 _) rfl (T_eq ⟨by omega, by omega⟩ ⟨by omega, by omega⟩) (fun _ => ?_) (fun z => absurd z (by omega))
      exact wp_pr (l' := [(0, rf 252), (1, iv x1), (2, iv x2), (3, iv x3), (4, iv x4), (5, iv (bi (0 ≤ x1 ∧ x1 ≤ ((zI s 253 0) - 1)))), (6, iv 0)]) rfl h
    · replace h := h.2 c7
      refine i_aload_n (a := 252) r_185_23 (n_185_23 _) rfl ?_
      refine i_iload_n (x := x1) r_185_24 (n_185_24 _) rfl ?_
      refine i_iload_n (x := x2) r_185_25 (n_185_25 _) rfl ?_
      refine wp_virt (b := 252) (rest := []) (Ls := [(0, rf 252), (1, iv x1), (2, iv x2)]) r_185_26 (n_185_26 _) rfl ⟨rfl, rfl, by decide, by decide⟩ rfl rfl lf_252 ⟨rfl, Nat.le_of_ble_eq_true rfl, Nat.le_of_ble_eq_true rfl⟩ rfl h ?_
      intro o8 s8 h
      rcases h with ⟨y8, q9, rfl, h⟩ | ⟨e8, rfl, h⟩
      · refine .inl ⟨some (iv y8), rfl, ?_⟩
        show wp S 185 29 [(0, rf 252), (1, iv x1), (2, iv x2), (3, iv x3), (4, iv x4), (5, iv (bi (0 ≤ x1 ∧ x1 ≤ ((zI s 253 0) - 1))))] [iv y8] s8 Q
        refine i_if (t := 66) r_185_29 (n_185_29 _) rfl (T_ne q9 ⟨by omega, by omega⟩) (fun c10 => ?_) (fun c10 => ?_)
        · replace h := h.1 c10
          refine i_iconst r_185_66 (n_185_66 _) ?_
          refine i_istore (l' := [(0, rf 252), (1, iv x1), (2, iv x2), (3, iv x3), (4, iv x4), (5, iv (bi (0 ≤ x1 ∧ x1 ≤ ((zI s 253 0) - 1)))), (6, iv 0)]) r_185_67 (n_185_67 _) (by decide) rfl ?_
          refine i_iload (x := 0) r_185_69 (n_185_69 _) rfl ?_
          refine i_if (t := 78) r_185_71 (n_185_71 _) rfl (T_eq ⟨by omega, by omega⟩ ⟨by omega, by omega⟩) (fun _ => ?_) (fun z => absurd z (by omega))
          exact wp_pr (l' := [(0, rf 252), (1, iv x1), (2, iv x2), (3, iv x3), (4, iv x4), (5, iv (bi (0 ≤ x1 ∧ x1 ≤ ((zI s 253 0) - 1)))), (6, iv 0)]) rfl h
        · replace h := h.2 c10
          refine i_aload_n (a := 252) r_185_32 (n_185_32 _) rfl ?_
          refine i_iload_n (x := x1) r_185_33 (n_185_33 _) rfl ?_
          refine i_iload_n (x := x3) r_185_34 (n_185_34 _) rfl ?_
          obtain ⟨g11, h⟩ := h
          obtain ⟨g12, h⟩ := h
          obtain ⟨g13, h⟩ := h
          refine wp_virt (b := 252) (rest := []) (Ls := [(0, rf 252), (1, iv x1), (2, iv x3)]) r_185_35 (n_185_35 _) rfl ⟨rfl, rfl, by decide, by decide⟩ rfl rfl lf_252 ⟨rfl, Nat.le_of_ble_eq_true rfl, Nat.le_of_ble_eq_true rfl⟩ rfl (K_Model_isTypeOf g11 g12 g13) ?_
          rintro _ _ ⟨rfl, rfl⟩
          refine .inl ⟨some (iv (bi ((0 ≤ x3 ∧ x3 ≤ 7) ∨ (21 ≤ x3 ∧ x3 ≤ 36) ∨ (100 ≤ x3 ∧ x3 ≤ 99 + x1 ∧ 0 < zI s8 253 (1 + 26 * (x3 - 100) + 1))))), rfl, ?_⟩
          show wp S 185 38 [(0, rf 252), (1, iv x1), (2, iv x2), (3, iv x3), (4, iv x4), (5, iv (bi (0 ≤ x1 ∧ x1 ≤ ((zI s 253 0) - 1))))] [iv (bi ((0 ≤ x3 ∧ x3 ≤ 7) ∨ (21 ≤ x3 ∧ x3 ≤ 36) ∨ (100 ≤ x3 ∧ x3 ≤ 99 + x1 ∧ 0 < zI s8 253 (1 + 26 * (x3 - 100) + 1))))] s8 Q
          refine i_if (t := 66) r_185_38 (n_185_38 _) rfl (TB_eq) (fun c15 => ?_) (fun c15 => ?_)
          · replace h := h.1 c15
            refine i_iconst r_185_66 (n_185_66 _) ?_
            refine i_istore (l' := [(0, rf 252), (1, iv x1), (2, iv x2), (3, iv x3), (4, iv x4), (5, iv (bi (0 ≤ x1 ∧ x1 ≤ ((zI s 253 0) - 1)))), (6, iv 0)]) r_185_67 (n_185_67 _) (by decide) rfl ?_
            refine i_iload (x := 0) r_185_69 (n_185_69 _) rfl ?_
            refine i_if (t := 78) r_185_71 (n_185_71 _) rfl (T_eq ⟨by omega, by omega⟩ ⟨by omega, by omega⟩) (fun _ => ?_) (fun z => absurd z (by omega))
            exact wp_pr (l' := [(0, rf 252), (1, iv x1), (2, iv x2), (3, iv x3), (4, iv x4), (5, iv (bi (0 ≤ x1 ∧ x1 ≤ ((zI s 253 0) - 1)))), (6, iv 0)]) rfl h
          · replace h := h.2 c15
            refine i_iload (x := x4) r_185_41 (n_185_41 _) rfl ?_
            refine i_iconst r_185_43 (n_185_43 _) ?_
            refine i_iload_n (x := x3) r_185_44 (n_185_44 _) rfl ?_
            refine wp_stat (rest := [iv 1, iv x4]) (Ls := [(0, iv x3)]) r_185_45 (n_185_45 _) rfl ⟨rfl, by decide, by decide, by decide⟩ rfl rfl ⟨rfl, Nat.le_of_ble_eq_true rfl, Nat.le_of_ble_eq_true rfl⟩ rfl (K_Model_isBits g11) ?_
            rintro _ _ ⟨rfl, rfl⟩
            refine .inl ⟨some (iv (bi (21 ≤ x3 ∧ x3 ≤ 36))), rfl, ?_⟩
            show wp S 185 48 [(0, rf 252), (1, iv x1), (2, iv x2), (3, iv x3), (4, iv x4), (5, iv (bi (0 ≤ x1 ∧ x1 ≤ ((zI s 253 0) - 1))))] [iv (bi (21 ≤ x3 ∧ x3 ≤ 36)), iv 1, iv x4] s8 Q
            refine i_if (t := 55) r_185_48 (n_185_48 _) rfl (TB_eq) (fun c17 => ?_) (fun c17 => ?_)
            · replace h := h.1 c17
              refine i_iconst r_185_55 (n_185_55 _) ?_
              obtain ⟨g18, h⟩ := h
              refine wp_stat (rest := []) (Ls := [(0, iv x4), (1, iv 1), (2, iv 4)]) r_185_56 (n_185_56 _) rfl ⟨rfl, by decide, by decide, by decide⟩ rfl rfl ⟨rfl, Nat.le_of_ble_eq_true rfl, Nat.le_of_ble_eq_true rfl⟩ rfl (K_Model_within g18 ⟨by omega, by omega⟩ ⟨by omega, by omega⟩) ?_
              rintro _ _ ⟨rfl, rfl⟩
              refine .inl ⟨some (iv (bi (1 ≤ x4 ∧ x4 ≤ 4))), rfl, ?_⟩
              show wp S 185 59 [(0, rf 252), (1, iv x1), (2, iv x2), (3, iv x3), (4, iv x4), (5, iv (bi (0 ≤ x1 ∧ x1 ≤ ((zI s 253 0) - 1))))] [iv (bi (1 ≤ x4 ∧ x4 ≤ 4))] s8 Q
              refine i_if (t := 66) r_185_59 (n_185_59 _) rfl (TB_eq) (fun c20 => ?_) (fun c20 => ?_)
              · replace h := h.1 c20
                refine i_iconst r_185_66 (n_185_66 _) ?_
                refine i_istore (l' := [(0, rf 252), (1, iv x1), (2, iv x2), (3, iv x3), (4, iv x4), (5, iv (bi (0 ≤ x1 ∧ x1 ≤ ((zI s 253 0) - 1)))), (6, iv 0)]) r_185_67 (n_185_67 _) (by decide) rfl ?_
                refine i_iload (x := 0) r_185_69 (n_185_69 _) rfl ?_
                refine i_if (t := 78) r_185_71 (n_185_71 _) rfl (T_eq ⟨by omega, by omega⟩ ⟨by omega, by omega⟩) (fun _ => ?_) (fun z => absurd z (by omega))
                exact wp_pr (l' := [(0, rf 252), (1, iv x1), (2, iv x2), (3, iv x3), (4, iv x4), (5, iv (bi (0 ≤ x1 ∧ x1 ≤ ((zI s 253 0) - 1)))), (6, iv 0)]) rfl h
              · replace h := h.2 c20
                refine i_iconst r_185_62 (n_185_62 _) ?_
                refine i_goto (t := 67) r_185_63 (n_185_63 _) rfl ?_
                refine i_istore (l' := [(0, rf 252), (1, iv x1), (2, iv x2), (3, iv x3), (4, iv x4), (5, iv (bi (0 ≤ x1 ∧ x1 ≤ ((zI s 253 0) - 1)))), (6, iv 1)]) r_185_67 (n_185_67 _) (by decide) rfl ?_
                refine i_iload (x := 1) r_185_69 (n_185_69 _) rfl ?_
                refine i_if (t := 78) r_185_71 (n_185_71 _) rfl (T_eq ⟨by omega, by omega⟩ ⟨by omega, by omega⟩) (fun z => absurd z (by omega)) (fun _ => ?_)
                refine i_aload_n (a := 252) r_185_74 (n_185_74 _) rfl ?_
                refine wp_virt (b := 252) (rest := []) (Ls := [(0, rf 252)]) r_185_75 (n_185_75 _) rfl ⟨rfl, rfl, by decide, by decide⟩ rfl rfl lf_252 ⟨rfl, Nat.le_of_ble_eq_true rfl, Nat.le_of_ble_eq_true rfl⟩ rfl h ?_
                intro o21 s21 h
                rcases h with ⟨rfl, h⟩ | ⟨e21, rfl, h⟩
                · refine .inl ⟨none, rfl, ?_⟩
                  exact wp_pr (l' := [(0, rf 252), (1, iv x1), (2, iv x2), (3, iv x3), (4, iv x4), (5, iv (bi (0 ≤ x1 ∧ x1 ≤ ((zI s 253 0) - 1)))), (6, iv 1)]) rfl h
                · skip
                  exact h.elim
            · replace h := h.2 c17
              refine i_iconst r_185_51 (n_185_51 _) ?_
              refine i_goto (t := 56) r_185_52 (n_185_52 _) rfl ?_
              obtain ⟨g23, h⟩ := h
              refine wp_stat (rest := []) (Ls := [(0, iv x4), (1, iv 1), (2, iv 1)]) r_185_56 (n_185_56 _) rfl ⟨rfl, by decide, by decide, by decide⟩ rfl rfl ⟨rfl, Nat.le_of_ble_eq_true rfl, Nat.le_of_ble_eq_true rfl⟩ rfl (K_Model_within g23 ⟨by omega, by omega⟩ ⟨by omega, by omega⟩) ?_
              rintro _ _ ⟨rfl, rfl⟩
              refine .inl ⟨some (iv (bi (1 ≤ x4 ∧ x4 ≤ 1))), rfl, ?_⟩
              show wp S 185 59 [(0, rf 252), (1, iv x1), (2, iv x2), (3, iv x3), (4, iv x4), (5, iv (bi (0 ≤ x1 ∧ x1 ≤ ((zI s 253 0) - 1))))] [iv (bi (1 ≤ x4 ∧ x4 ≤ 1))] s8 Q
              refine i_if (t := 66) r_185_59 (n_185_59 _) rfl (TB_eq) (fun c25 => ?_) (fun c25 => ?_)
              · replace h := h.1 c25
                refine i_iconst r_185_66 (n_185_66 _) ?_
                refine i_istore (l' := [(0, rf 252), (1, iv x1), (2, iv x2), (3, iv x3), (4, iv x4), (5, iv (bi (0 ≤ x1 ∧ x1 ≤ ((zI s 253 0) - 1)))), (6, iv 0)]) r_185_67 (n_185_67 _) (by decide) rfl ?_
                refine i_iload (x := 0) r_185_69 (n_185_69 _) rfl ?_
                refine i_if (t := 78) r_185_71 (n_185_71 _) rfl (T_eq ⟨by omega, by omega⟩ ⟨by omega, by omega⟩) (fun _ => ?_) (fun z => absurd z (by omega))
                exact wp_pr (l' := [(0, rf 252), (1, iv x1), (2, iv x2), (3, iv x3), (4, iv x4), (5, iv (bi (0 ≤ x1 ∧ x1 ≤ ((zI s 253 0) - 1)))), (6, iv 0)]) rfl h
              · replace h := h.2 c25
                refine i_iconst r_185_62 (n_185_62 _) ?_
                refine i_goto (t := 67) r_185_63 (n_185_63 _) rfl ?_
                refine i_istore (l' := [(0, rf 252), (1, iv x1), (2, iv x2), (3, iv x3), (4, iv x4), (5, iv (bi (0 ≤ x1 ∧ x1 ≤ ((zI s 253 0) - 1)))), (6, iv 1)]) r_185_67 (n_185_67 _) (by decide) rfl ?_
                refine i_iload (x := 1) r_185_69 (n_185_69 _) rfl ?_
                refine i_if (t := 78) r_185_71 (n_185_71 _) rfl (T_eq ⟨by omega, by omega⟩ ⟨by omega, by omega⟩) (fun z => absurd z (by omega)) (fun _ => ?_)
                refine i_aload_n (a := 252) r_185_74 (n_185_74 _) rfl ?_
                refine wp_virt (b := 252) (rest := []) (Ls := [(0, rf 252)]) r_185_75 (n_185_75 _) rfl ⟨rfl, rfl, by decide, by decide⟩ rfl rfl lf_252 ⟨rfl, Nat.le_of_ble_eq_true rfl, Nat.le_of_ble_eq_true rfl⟩ rfl h ?_
                intro o26 s26 h
                rcases h with ⟨rfl, h⟩ | ⟨e26, rfl, h⟩
                · refine .inl ⟨none, rfl, ?_⟩
                  exact wp_pr (l' := [(0, rf 252), (1, iv x1), (2, iv x2), (3, iv x3), (4, iv x4), (5, iv (bi (0 ≤ x1 ∧ x1 ≤ ((zI s 253 0) - 1)))), (6, iv 1)]) rfl h
                · skip
                  exact h.elim
      · skip
        exact h.elim
theorem v_Model_addField_78 {S : Option (Nat × (Nat → Int32))} {s : zSt} {Q : Option Value ⊕ Nat → zSt → Prop} {x1 : Int} {x2 : Int} {x3 : Int} {x4 : Int} {x5 : Int} {x6 : Int} 
    (h : rng x6 ∧ ((x6 = 0 → wp S 185 140 [(0, rf 252), (1, iv x1), (2, iv x2), (3, iv x3), (4, iv x4), (5, iv x5), (6, iv x6)] [iv 0] s Q) ∧ (x6 ≠ 0 → (0 ≤ ((1 + (26 * x1)) + 1) ∧ ((1 + (26 * x1)) + 1) < 1199) ∧ ((8 ≤ (zI s 253 ((1 + (26 * x1)) + 1)) → wp S 185 140 [(0, rf 252), (1, iv x1), (2, iv x2), (3, iv x3), (4, iv x4), (5, iv x5), (6, iv x6)] [iv 0] s Q) ∧ ((zI s 253 ((1 + (26 * x1)) + 1)) < 8 → wp S 202 0 [(0, rf 252), (1, iv x1)] [] s (fun o7 s7 => zkI (fun y7 => (y7 ≠ 0 → wp S 185 140 [(0, rf 252), (1, iv x1), (2, iv x2), (3, iv x3), (4, iv x4), (5, iv x5), (6, iv x6)] [iv 0] s7 Q) ∧ (y7 = 0 → (0 ≤ x1 ∧ x1 < 6) ∧ (rng x3 ∧ ((x3 < 100 → rng ((zI s7 256 x1) + (x4 * 1)) ∧ ((40 < ((zI s7 256 x1) + (x4 * 1)) → wp S 185 140 [(0, rf 252), (1, iv x1), (2, iv x2), (3, iv x3), (4, iv x4), (5, iv x5), (6, iv x6)] [iv 0] s7 Q) ∧ (((zI s7 256 x1) + (x4 * 1)) ≤ 40 → wp S 185 140 [(0, rf 252), (1, iv x1), (2, iv x2), (3, iv x3), (4, iv x4), (5, iv x5), (6, iv x6)] [iv 1] s7 Q))) ∧ (100 ≤ x3 → (0 ≤ (x3 - 100) ∧ (x3 - 100) < 6) ∧ (rng ((zI s7 256 x1) + (x4 * (zI s7 256 (x3 - 100)))) ∧ ((40 < ((zI s7 256 x1) + (x4 * (zI s7 256 (x3 - 100)))) → wp S 185 140 [(0, rf 252), (1, iv x1), (2, iv x2), (3, iv x3), (4, iv x4), (5, iv x5), (6, iv x6)] [iv 0] s7 Q) ∧ (((zI s7 256 x1) + (x4 * (zI s7 256 (x3 - 100)))) ≤ 40 → wp S 185 140 [(0, rf 252), (1, iv x1), (2, iv x2), (3, iv x3), (4, iv x4), (5, iv x5), (6, iv x6)] [iv 1] s7 Q)))))))) (fun e7 => False) o7)))))) :
    wp S 185 78 [(0, rf 252), (1, iv x1), (2, iv x2), (3, iv x3), (4, iv x4), (5, iv x5), (6, iv x6)] [] s Q := by
  refine i_iload (x := x6) r_185_78 rfl rfl ?_
  obtain ⟨g1, h⟩ := h
  refine i_if (t := 139) r_185_80 (n_185_80 _) rfl (T_eq g1 ⟨by omega, by omega⟩) (fun c2 => ?_) (fun c2 => ?_)
  · replace h := h.1 c2
    refine i_iconst r_185_139 (n_185_139 _) ?_
    exact wp_pr (l' := [(0, rf 252), (1, iv x1), (2, iv x2), (3, iv x3), (4, iv x4), (5, iv x5), (6, iv x6)]) rfl h
  · replace h := h.2 c2
    refine i_aload_n (a := 252) r_185_83 (n_185_83 _) rfl ?_
    refine i_iload_n (x := x1) r_185_84 (n_185_84 _) rfl ?_
    obtain ⟨g3, h⟩ := h
    refine wp_virt (b := 252) (rest := []) (Ls := [(0, rf 252), (1, iv x1)]) r_185_85 (n_185_85 _) rfl ⟨rfl, rfl, by decide, by decide⟩ rfl rfl lf_252 ⟨rfl, Nat.le_of_ble_eq_true rfl, Nat.le_of_ble_eq_true rfl⟩ rfl (K_Model_fieldsOf g3) ?_
    rintro _ _ ⟨rfl, rfl⟩
    refine .inl ⟨some (iv (zI s 253 ((1 + (26 * x1)) + 1))), rfl, ?_⟩
    show wp S 185 88 [(0, rf 252), (1, iv x1), (2, iv x2), (3, iv x3), (4, iv x4), (5, iv x5), (6, iv x6)] [iv (zI s 253 ((1 + (26 * x1)) + 1))] s Q
    refine wp_rd (a := 253) (j := ((1 + (26 * x1)) + 1)) (fun q5 => ?_)
    refine i_bipush r_185_88 (n_185_88 _) rfl ?_
    refine i_icmp (t := 139) r_185_90 (n_185_90 _) rfl (T_ge q5 ⟨by omega, by omega⟩) (fun c6 => ?_) (fun c6 => ?_)
    · replace h := h.1 c6
      refine i_iconst r_185_139 (n_185_139 _) ?_
      exact wp_pr (l' := [(0, rf 252), (1, iv x1), (2, iv x2), (3, iv x3), (4, iv x4), (5, iv x5), (6, iv x6)]) rfl h
    · replace h := h.2 c6
      refine i_aload_n (a := 252) r_185_93 (n_185_93 _) rfl ?_
      refine i_iload_n (x := x1) r_185_94 (n_185_94 _) rfl ?_
      refine wp_virt (b := 252) (rest := []) (Ls := [(0, rf 252), (1, iv x1)]) r_185_95 (n_185_95 _) rfl ⟨rfl, rfl, by decide, by decide⟩ rfl rfl lf_252 ⟨rfl, Nat.le_of_ble_eq_true rfl, Nat.le_of_ble_eq_true rfl⟩ rfl h ?_
      intro o7 s7 h
      rcases h with ⟨y7, q8, rfl, h⟩ | ⟨e7, rfl, h⟩
      · refine .inl ⟨some (iv y7), rfl, ?_⟩
        show wp S 185 98 [(0, rf 252), (1, iv x1), (2, iv x2), (3, iv x3), (4, iv x4), (5, iv x5), (6, iv x6)] [iv y7] s7 Q
        refine i_if (t := 139) r_185_98 (n_185_98 _) rfl (T_ne q8 ⟨by omega, by omega⟩) (fun c9 => ?_) (fun c9 => ?_)
        · replace h := h.1 c9
          refine i_iconst r_185_139 (n_185_139 _) ?_
          exact wp_pr (l' := [(0, rf 252), (1, iv x1), (2, iv x2), (3, iv x3), (4, iv x4), (5, iv x5), (6, iv x6)]) rfl h
        · replace h := h.2 c9
          refine i_aload_n (a := 252) r_185_101 (n_185_101 _) rfl ?_
          refine i_getR (a := 252) (b := 256) r_185_102 (n_185_102 _) rfl rfl rfl (by omega) lf_252 (by omega) ?_
          refine i_iload_n (x := x1) r_185_105 (n_185_105 _) rfl ?_
          obtain ⟨g10, h⟩ := h
          refine i_iaload (a := 256) (j := x1) r_185_106 (n_185_106 _) lf_256 ⟨by omega, by omega⟩ (by omega) (by omega) (fun q11 => ?_)
          refine i_iload (x := x4) r_185_107 (n_185_107 _) rfl ?_
          refine i_iload_n (x := x3) r_185_109 (n_185_109 _) rfl ?_
          refine i_bipush r_185_110 (n_185_110 _) rfl ?_
          obtain ⟨g12, h⟩ := h
          refine i_icmp (t := 127) r_185_112 (n_185_112 _) rfl (T_lt g12 ⟨by omega, by omega⟩) (fun c13 => ?_) (fun c13 => ?_)
          · replace h := h.1 c13
            refine i_iconst r_185_127 (n_185_127 _) ?_
            refine i_imul r_185_128 (n_185_128 _) ?_
            refine i_iadd r_185_129 (n_185_129 _) ?_
            refine i_bipush r_185_130 (n_185_130 _) rfl ?_
            obtain ⟨g14, h⟩ := h
            refine i_icmp (t := 139) r_185_132 (n_185_132 _) rfl (T_gt g14 ⟨by omega, by omega⟩) (fun c15 => ?_) (fun c15 => ?_)
            · replace h := h.1 c15
              refine i_iconst r_185_139 (n_185_139 _) ?_
              exact wp_pr (l' := [(0, rf 252), (1, iv x1), (2, iv x2), (3, iv x3), (4, iv x4), (5, iv x5), (6, iv x6)]) rfl h
            · replace h := h.2 c15
              refine i_iconst r_185_135 (n_185_135 _) ?_
              refine i_goto (t := 140) r_185_136 (n_185_136 _) rfl ?_
              exact wp_pr (l' := [(0, rf 252), (1, iv x1), (2, iv x2), (3, iv x3), (4, iv x4), (5, iv x5), (6, iv x6)]) rfl h
          · replace h := h.2 c13
            refine i_aload_n (a := 252) r_185_115 (n_185_115 _) rfl ?_
            refine i_getR (a := 252) (b := 256) r_185_116 (n_185_116 _) rfl rfl rfl (by omega) lf_252 (by omega) ?_
            refine i_iload_n (x := x3) r_185_119 (n_185_119 _) rfl ?_
            refine i_bipush r_185_120 (n_185_120 _) rfl ?_
            refine i_isub r_185_122 (n_185_122 _) ?_
            obtain ⟨g16, h⟩ := h
            refine i_iaload (a := 256) (j := x3 - 100) r_185_123 (n_185_123 _) lf_256 ⟨by omega, by omega⟩ (by omega) (by omega) (fun q17 => ?_)
            refine i_goto (t := 128) r_185_124 (n_185_124 _) rfl ?_
            refine i_imul r_185_128 (n_185_128 _) ?_
            refine i_iadd r_185_129 (n_185_129 _) ?_
            refine i_bipush r_185_130 (n_185_130 _) rfl ?_
            obtain ⟨g18, h⟩ := h
            refine i_icmp (t := 139) r_185_132 (n_185_132 _) rfl (T_gt g18 ⟨by omega, by omega⟩) (fun c19 => ?_) (fun c19 => ?_)
            · replace h := h.1 c19
              refine i_iconst r_185_139 (n_185_139 _) ?_
              exact wp_pr (l' := [(0, rf 252), (1, iv x1), (2, iv x2), (3, iv x3), (4, iv x4), (5, iv x5), (6, iv x6)]) rfl h
            · replace h := h.2 c19
              refine i_iconst r_185_135 (n_185_135 _) ?_
              refine i_goto (t := 140) r_185_136 (n_185_136 _) rfl ?_
              exact wp_pr (l' := [(0, rf 252), (1, iv x1), (2, iv x2), (3, iv x3), (4, iv x4), (5, iv x5), (6, iv x6)]) rfl h
      · skip
        exact h.elim
theorem v_Model_addField_140 {S : Option (Nat × (Nat → Int32))} {s : zSt} {Q : Option Value ⊕ Nat → zSt → Prop} {x1 : Int} {x2 : Int} {x3 : Int} {x4 : Int} {x5 : Int} {x6 : Int} {x90 : Int} 
    (h : rng x5 ∧ ((x5 ≠ 0 → rng x6 ∧ ((x6 ≠ 0 → rng x90 ∧ ((x90 ≠ 0 → wp S 182 0 [(0, rf 252)] [] (zwI s 252 3 0) (fun o8 s8 => zkU (wp S 203 0 [(0, rf 252), (1, iv x1), (2, iv x2), (3, iv x3), (4, iv x4)] [] s8 (fun o10 s10 => zkU ((0 ≤ ((1 + (26 * x1)) + 1) ∧ ((1 + (26 * x1)) + 1) < 1199) ∧ (Q (rI (zI s10 253 ((1 + (26 * x1)) + 1))) s10)) (fun e10 => False) o10)) (fun e8 => False) o8)) ∧ (x90 = 0 → Q (rI 0) (zwI s 252 3 3)))) ∧ (x6 = 0 → Q (rI 0) (zwI s 252 3 2)))) ∧ (x5 = 0 → Q (rI 0) (zwI s 252 3 1)))) :
    wp S 185 140 [(0, rf 252), (1, iv x1), (2, iv x2), (3, iv x3), (4, iv x4), (5, iv x5), (6, iv x6)] [iv x90] s Q := by
  refine i_istore (l' := [(0, rf 252), (1, iv x1), (2, iv x2), (3, iv x3), (4, iv x4), (5, iv x5), (6, iv x6), (7, iv x90)]) r_185_140 rfl (by decide) rfl ?_
  refine i_aload_n (a := 252) r_185_142 (n_185_142 _) rfl ?_
  refine i_iload (x := x5) r_185_143 (n_185_143 _) rfl ?_
  obtain ⟨g1, h⟩ := h
  refine i_if (t := 152) r_185_145 (n_185_145 _) rfl (T_ne g1 ⟨by omega, by omega⟩) (fun c2 => ?_) (fun c2 => ?_)
  · replace h := h.1 c2
    refine i_iload (x := x6) r_185_152 (n_185_152 _) rfl ?_
    obtain ⟨g3, h⟩ := h
    refine i_if (t := 161) r_185_154 (n_185_154 _) rfl (T_ne g3 ⟨by omega, by omega⟩) (fun c4 => ?_) (fun c4 => ?_)
    · replace h := h.1 c4
      refine i_iload (x := x90) r_185_161 (n_185_161 _) rfl ?_
      obtain ⟨g5, h⟩ := h
      refine i_if (t := 170) r_185_163 (n_185_163 _) rfl (T_ne g5 ⟨by omega, by omega⟩) (fun c6 => ?_) (fun c6 => ?_)
      · replace h := h.1 c6
        refine i_iconst r_185_170 (n_185_170 _) ?_
        refine wp_virt (b := 252) (rest := []) (Ls := [(0, rf 252), (1, iv 0)]) r_185_171 (n_185_171 _) rfl ⟨rfl, rfl, by decide, by decide⟩ rfl rfl lf_252 ⟨rfl, Nat.le_of_ble_eq_true rfl, Nat.le_of_ble_eq_true rfl⟩ rfl K_Model_refused0 ?_
        rintro _ _ ⟨rfl, rfl⟩
        refine .inl ⟨some (iv 0), rfl, ?_⟩
        show wp S 185 174 [(0, rf 252), (1, iv x1), (2, iv x2), (3, iv x3), (4, iv x4), (5, iv x5), (6, iv x6), (7, iv x90)] [iv 0] (zwI s 252 3 0) Q
        refine i_if (t := 179) r_185_174 (n_185_174 _) rfl (T_eq ⟨by omega, by omega⟩ ⟨by omega, by omega⟩) (fun _ => ?_) (fun z => absurd z (by omega))
        refine i_aload_n (a := 252) r_185_179 (n_185_179 _) rfl ?_
        refine wp_virt (b := 252) (rest := []) (Ls := [(0, rf 252)]) r_185_180 (n_185_180 _) rfl ⟨rfl, rfl, by decide, by decide⟩ rfl rfl lf_252 ⟨rfl, Nat.le_of_ble_eq_true rfl, Nat.le_of_ble_eq_true rfl⟩ rfl h ?_
        intro o8 s8 h
        rcases h with ⟨rfl, h⟩ | ⟨e8, rfl, h⟩
        · refine .inl ⟨none, rfl, ?_⟩
          refine i_aload_n (a := 252) r_185_183 (n_185_183 _) rfl ?_
          refine i_iload_n (x := x1) r_185_184 (n_185_184 _) rfl ?_
          refine i_iload_n (x := x2) r_185_185 (n_185_185 _) rfl ?_
          refine i_iload_n (x := x3) r_185_186 (n_185_186 _) rfl ?_
          refine i_iload (x := x4) r_185_187 (n_185_187 _) rfl ?_
          refine wp_virt (b := 252) (rest := []) (Ls := [(0, rf 252), (1, iv x1), (2, iv x2), (3, iv x3), (4, iv x4)]) r_185_189 (n_185_189 _) rfl ⟨rfl, rfl, by decide, by decide⟩ rfl rfl lf_252 ⟨rfl, Nat.le_of_ble_eq_true rfl, Nat.le_of_ble_eq_true rfl⟩ rfl h ?_
          intro o10 s10 h
          rcases h with ⟨rfl, h⟩ | ⟨e10, rfl, h⟩
          · refine .inl ⟨none, rfl, ?_⟩
            refine i_aload_n (a := 252) r_185_192 (n_185_192 _) rfl ?_
            refine i_iload_n (x := x1) r_185_193 (n_185_193 _) rfl ?_
            obtain ⟨g12, h⟩ := h
            refine wp_virt (b := 252) (rest := []) (Ls := [(0, rf 252), (1, iv x1)]) r_185_194 (n_185_194 _) rfl ⟨rfl, rfl, by decide, by decide⟩ rfl rfl lf_252 ⟨rfl, Nat.le_of_ble_eq_true rfl, Nat.le_of_ble_eq_true rfl⟩ rfl (K_Model_fieldsOf g12) ?_
            rintro _ _ ⟨rfl, rfl⟩
            refine .inl ⟨some (iv (zI s10 253 ((1 + (26 * x1)) + 1))), rfl, ?_⟩
            show wp S 185 197 [(0, rf 252), (1, iv x1), (2, iv x2), (3, iv x3), (4, iv x4), (5, iv x5), (6, iv x6), (7, iv x90)] [iv (zI s10 253 ((1 + (26 * x1)) + 1))] s10 Q
            refine wp_rd (a := 253) (j := ((1 + (26 * x1)) + 1)) (fun q14 => ?_)
            exact i_ireturn r_185_197 (n_185_197 _) rfl h
          · skip
            exact h.elim
        · skip
          exact h.elim
      · replace h := h.2 c6
        refine i_iconst r_185_166 (n_185_166 _) ?_
        refine i_goto (t := 171) r_185_167 (n_185_167 _) rfl ?_
        refine wp_virt (b := 252) (rest := []) (Ls := [(0, rf 252), (1, iv 3)]) r_185_171 (n_185_171 _) rfl ⟨rfl, rfl, by decide, by decide⟩ rfl rfl lf_252 ⟨rfl, Nat.le_of_ble_eq_true rfl, Nat.le_of_ble_eq_true rfl⟩ rfl (K_Model_refused1 ⟨by omega, by omega⟩ (by omega)) ?_
        rintro _ _ ⟨rfl, rfl⟩
        refine .inl ⟨some (iv 1), rfl, ?_⟩
        show wp S 185 174 [(0, rf 252), (1, iv x1), (2, iv x2), (3, iv x3), (4, iv x4), (5, iv x5), (6, iv x6), (7, iv x90)] [iv 1] (zwI s 252 3 3) Q
        refine i_if (t := 179) r_185_174 (n_185_174 _) rfl (T_eq ⟨by omega, by omega⟩ ⟨by omega, by omega⟩) (fun z => absurd z (by omega)) (fun _ => ?_)
        refine i_iconst r_185_177 (n_185_177 _) ?_
        exact i_ireturn r_185_178 (n_185_178 _) rfl h
    · replace h := h.2 c4
      refine i_iconst r_185_157 (n_185_157 _) ?_
      refine i_goto (t := 171) r_185_158 (n_185_158 _) rfl ?_
      refine wp_virt (b := 252) (rest := []) (Ls := [(0, rf 252), (1, iv 2)]) r_185_171 (n_185_171 _) rfl ⟨rfl, rfl, by decide, by decide⟩ rfl rfl lf_252 ⟨rfl, Nat.le_of_ble_eq_true rfl, Nat.le_of_ble_eq_true rfl⟩ rfl (K_Model_refused1 ⟨by omega, by omega⟩ (by omega)) ?_
      rintro _ _ ⟨rfl, rfl⟩
      refine .inl ⟨some (iv 1), rfl, ?_⟩
      show wp S 185 174 [(0, rf 252), (1, iv x1), (2, iv x2), (3, iv x3), (4, iv x4), (5, iv x5), (6, iv x6), (7, iv x90)] [iv 1] (zwI s 252 3 2) Q
      refine i_if (t := 179) r_185_174 (n_185_174 _) rfl (T_eq ⟨by omega, by omega⟩ ⟨by omega, by omega⟩) (fun z => absurd z (by omega)) (fun _ => ?_)
      refine i_iconst r_185_177 (n_185_177 _) ?_
      exact i_ireturn r_185_178 (n_185_178 _) rfl h
  · replace h := h.2 c2
    refine i_iconst r_185_148 (n_185_148 _) ?_
    refine i_goto (t := 171) r_185_149 (n_185_149 _) rfl ?_
    refine wp_virt (b := 252) (rest := []) (Ls := [(0, rf 252), (1, iv 1)]) r_185_171 (n_185_171 _) rfl ⟨rfl, rfl, by decide, by decide⟩ rfl rfl lf_252 ⟨rfl, Nat.le_of_ble_eq_true rfl, Nat.le_of_ble_eq_true rfl⟩ rfl (K_Model_refused1 ⟨by omega, by omega⟩ (by omega)) ?_
    rintro _ _ ⟨rfl, rfl⟩
    refine .inl ⟨some (iv 1), rfl, ?_⟩
    show wp S 185 174 [(0, rf 252), (1, iv x1), (2, iv x2), (3, iv x3), (4, iv x4), (5, iv x5), (6, iv x6), (7, iv x90)] [iv 1] (zwI s 252 3 1) Q
    refine i_if (t := 179) r_185_174 (n_185_174 _) rfl (T_eq ⟨by omega, by omega⟩ ⟨by omega, by omega⟩) (fun z => absurd z (by omega)) (fun _ => ?_)
    refine i_iconst r_185_177 (n_185_177 _) ?_
    exact i_ireturn r_185_178 (n_185_178 _) rfl h
theorem r_188_0 : xfetch 188 0 = some (.iconst 0, 1) := by decide +kernel
theorem n_188_0 : ∀ l, xpr 188 0 l = l := xpr_no (by decide +kernel)
theorem r_188_1 : xfetch 188 1 = some (.istore_n 3, 1) := by decide +kernel
theorem n_188_1 : ∀ l, xpr 188 1 l = l := xpr_no (by decide +kernel)
theorem r_188_2 : xfetch 188 2 = some (.iconst 0, 1) := by decide +kernel
theorem n_188_2 : ∀ l, xpr 188 2 l = l := xpr_no (by decide +kernel)
theorem r_188_3 : xfetch 188 3 = some (.istore 4, 2) := by decide +kernel
theorem n_188_3 : ∀ l, xpr 188 3 l = l := xpr_no (by decide +kernel)
theorem r_188_5 : xfetch 188 5 = some (.iload 4, 2) := by decide +kernel
theorem r_188_7 : xfetch 188 7 = some (.aload_n 0, 1) := by decide +kernel
theorem n_188_7 : ∀ l, xpr 188 7 l = l := xpr_no (by decide +kernel)
theorem r_188_8 : xfetch 188 8 = some (.iload_n 1, 1) := by decide +kernel
theorem n_188_8 : ∀ l, xpr 188 8 l = l := xpr_no (by decide +kernel)
theorem r_188_9 : xfetch 188 9 = some (.invokevirtual 99, 3) := by decide +kernel
theorem n_188_9 : ∀ l, xpr 188 9 l = l := xpr_no (by decide +kernel)
theorem r_188_12 : xfetch 188 12 = some (.if_icmp .ge 34, 3) := by decide +kernel
theorem n_188_12 : ∀ l, xpr 188 12 l = l := xpr_no (by decide +kernel)
theorem r_188_15 : xfetch 188 15 = some (.iload_n 3, 1) := by decide +kernel
theorem n_188_15 : ∀ l, xpr 188 15 l = l := xpr_no (by decide +kernel)
theorem r_188_16 : xfetch 188 16 = some (.ifCond .ne 18, 3) := by decide +kernel
theorem n_188_16 : ∀ l, xpr 188 16 l = l := xpr_no (by decide +kernel)
theorem r_188_19 : xfetch 188 19 = some (.aload_n 0, 1) := by decide +kernel
theorem n_188_19 : ∀ l, xpr 188 19 l = l := xpr_no (by decide +kernel)
theorem r_188_20 : xfetch 188 20 = some (.getfield 7, 3) := by decide +kernel
theorem n_188_20 : ∀ l, xpr 188 20 l = l := xpr_no (by decide +kernel)
theorem r_188_23 : xfetch 188 23 = some (.iload_n 1, 1) := by decide +kernel
theorem n_188_23 : ∀ l, xpr 188 23 l = l := xpr_no (by decide +kernel)
theorem r_188_24 : xfetch 188 24 = some (.iload 4, 2) := by decide +kernel
theorem n_188_24 : ∀ l, xpr 188 24 l = l := xpr_no (by decide +kernel)
theorem r_188_26 : xfetch 188 26 = some (.invokestatic 102, 3) := by decide +kernel
theorem n_188_26 : ∀ l, xpr 188 26 l = l := xpr_no (by decide +kernel)
theorem r_188_29 : xfetch 188 29 = some (.iaload, 1) := by decide +kernel
theorem n_188_29 : ∀ l, xpr 188 29 l = l := xpr_no (by decide +kernel)
theorem r_188_30 : xfetch 188 30 = some (.iload_n 2, 1) := by decide +kernel
theorem n_188_30 : ∀ l, xpr 188 30 l = l := xpr_no (by decide +kernel)
theorem r_188_31 : xfetch 188 31 = some (.if_icmp .ne 7, 3) := by decide +kernel
theorem n_188_31 : ∀ l, xpr 188 31 l = l := xpr_no (by decide +kernel)
theorem r_188_34 : xfetch 188 34 = some (.iconst 1, 1) := by decide +kernel
theorem n_188_34 : ∀ l, xpr 188 34 l = l := xpr_no (by decide +kernel)
theorem r_188_35 : xfetch 188 35 = some (.goto 4, 3) := by decide +kernel
theorem n_188_35 : ∀ l, xpr 188 35 l = l := xpr_no (by decide +kernel)
theorem r_188_38 : xfetch 188 38 = some (.iconst 0, 1) := by decide +kernel
theorem n_188_38 : ∀ l, xpr 188 38 l = l := xpr_no (by decide +kernel)
theorem r_188_39 : xfetch 188 39 = some (.istore_n 3, 1) := by decide +kernel
theorem n_188_39 : ∀ l, xpr 188 39 l = l := xpr_no (by decide +kernel)
theorem r_188_40 : xfetch 188 40 = some (.iinc 4 1, 3) := by decide +kernel
theorem n_188_40 : ∀ l, xpr 188 40 l = l := xpr_no (by decide +kernel)
theorem r_188_43 : xfetch 188 43 = some (.goto (-38), 3) := by decide +kernel
theorem n_188_43 : ∀ l, xpr 188 43 l = l := xpr_no (by decide +kernel)
theorem r_188_46 : xfetch 188 46 = some (.iload_n 3, 1) := by decide +kernel
theorem n_188_46 : ∀ l, xpr 188 46 l = l := xpr_no (by decide +kernel)
theorem r_188_47 : xfetch 188 47 = some (.ireturn, 1) := by decide +kernel
theorem n_188_47 : ∀ l, xpr 188 47 l = l := xpr_no (by decide +kernel)
theorem v_Model_hasName_0 {S : Option (Nat × (Nat → Int32))} {s : zSt} {Q : Option Value ⊕ Nat → zSt → Prop} {x1 : Int} {x2 : Int} 
    (h : wp S 188 5 [(0, rf 252), (1, iv x1), (2, iv x2), (3, iv 0), (4, iv 0)] [] s Q) :
    wp S 188 0 [(0, rf 252), (1, iv x1), (2, iv x2)] [] s Q := by
  refine i_iconst r_188_0 (n_188_0 _) ?_
  refine i_istore_n (l' := [(0, rf 252), (1, iv x1), (2, iv x2), (3, iv 0)]) r_188_1 (n_188_1 _) (by decide) rfl ?_
  refine i_iconst r_188_2 (n_188_2 _) ?_
  refine i_istore (l' := [(0, rf 252), (1, iv x1), (2, iv x2), (3, iv 0), (4, iv 0)]) r_188_3 (n_188_3 _) (by decide) rfl ?_
  exact wp_pr (l' := [(0, rf 252), (1, iv x1), (2, iv x2), (3, iv 0), (4, iv 0)]) rfl h
theorem v_Model_hasName_5 {S : Option (Nat × (Nat → Int32))} {s : zSt} {Q : Option Value ⊕ Nat → zSt → Prop} {x1 : Int} {x2 : Int} {x3 : Int} {x4 : Int} 
    (h : (0 ≤ ((1 + (26 * x1)) + 1) ∧ ((1 + (26 * x1)) + 1) < 1199) ∧ (rng x4 ∧ (((zI s 253 ((1 + (26 * x1)) + 1)) ≤ x4 → (x3 = 0 ∨ x3 = 1) ∧ (Q (rI x3) s)) ∧ (x4 < (zI s 253 ((1 + (26 * x1)) + 1)) → rng x3 ∧ ((x3 ≠ 0 → wp S 188 5 [(0, rf 252), (1, iv x1), (2, iv x2), (3, iv 1), (4, iv (x4 + 1))] [] s Q) ∧ (x3 = 0 → (0 ≤ (((1 + (26 * x1)) + 2) + (3 * x4)) ∧ (((1 + (26 * x1)) + 2) + (3 * x4)) < 1199) ∧ (rng x2 ∧ (((zI s 253 (((1 + (26 * x1)) + 2) + (3 * x4))) ≠ x2 → wp S 188 5 [(0, rf 252), (1, iv x1), (2, iv x2), (3, iv 0), (4, iv (x4 + 1))] [] s Q) ∧ ((zI s 253 (((1 + (26 * x1)) + 2) + (3 * x4))) = x2 → wp S 188 5 [(0, rf 252), (1, iv x1), (2, iv x2), (3, iv 1), (4, iv (x4 + 1))] [] s Q))))))))) :
    wp S 188 5 [(0, rf 252), (1, iv x1), (2, iv x2), (3, iv x3), (4, iv x4)] [] s Q := by
  refine i_iload (x := x4) r_188_5 rfl rfl ?_
  refine i_aload_n (a := 252) r_188_7 (n_188_7 _) rfl ?_
  refine i_iload_n (x := x1) r_188_8 (n_188_8 _) rfl ?_
  obtain ⟨g1, h⟩ := h
  refine wp_virt (b := 252) (rest := [iv x4]) (Ls := [(0, rf 252), (1, iv x1)]) r_188_9 (n_188_9 _) rfl ⟨rfl, rfl, by decide, by decide⟩ rfl rfl lf_252 ⟨rfl, Nat.le_of_ble_eq_true rfl, Nat.le_of_ble_eq_true rfl⟩ rfl (K_Model_fieldsOf g1) ?_
  rintro _ _ ⟨rfl, rfl⟩
  refine .inl ⟨some (iv (zI s 253 ((1 + (26 * x1)) + 1))), rfl, ?_⟩
  show wp S 188 12 [(0, rf 252), (1, iv x1), (2, iv x2), (3, iv x3), (4, iv x4)] [iv (zI s 253 ((1 + (26 * x1)) + 1)), iv x4] s Q
  refine wp_rd (a := 253) (j := ((1 + (26 * x1)) + 1)) (fun q3 => ?_)
  obtain ⟨g4, h⟩ := h
  refine i_icmp (t := 46) r_188_12 (n_188_12 _) rfl (T_ge g4 q3) (fun c5 => ?_) (fun c5 => ?_)
  · replace h := h.1 c5
    refine i_iload_n (x := x3) r_188_46 (n_188_46 _) rfl ?_
    obtain ⟨g6, h⟩ := h
    exact i_zreturn r_188_47 (n_188_47 _) rfl g6 h
  · replace h := h.2 c5
    refine i_iload_n (x := x3) r_188_15 (n_188_15 _) rfl ?_
    obtain ⟨g7, h⟩ := h
    refine i_if (t := 34) r_188_16 (n_188_16 _) rfl (T_ne g7 ⟨by omega, by omega⟩) (fun c8 => ?_) (fun c8 => ?_)
    · replace h := h.1 c8
      refine i_iconst r_188_34 (n_188_34 _) ?_
      refine i_goto (t := 39) r_188_35 (n_188_35 _) rfl ?_
      refine i_istore_n (l' := [(0, rf 252), (1, iv x1), (2, iv x2), (3, iv 1), (4, iv x4)]) r_188_39 (n_188_39 _) (by decide) rfl ?_
      refine i_iinc (x := x4) (l' := [(0, rf 252), (1, iv x1), (2, iv x2), (3, iv 1), (4, iv (x4 + 1))]) r_188_40 (n_188_40 _) (by decide) rfl rfl ?_
      refine i_goto (t := 5) r_188_43 (n_188_43 _) rfl ?_
      exact wp_pr (l' := [(0, rf 252), (1, iv x1), (2, iv x2), (3, iv 1), (4, iv (x4 + 1))]) rfl h
    · replace h := h.2 c8
      refine i_aload_n (a := 252) r_188_19 (n_188_19 _) rfl ?_
      refine i_getR (a := 252) (b := 253) r_188_20 (n_188_20 _) rfl rfl rfl (by omega) lf_252 (by omega) ?_
      refine i_iload_n (x := x1) r_188_23 (n_188_23 _) rfl ?_
      refine i_iload (x := x4) r_188_24 (n_188_24 _) rfl ?_
      refine wp_stat (rest := [rf 253]) (Ls := [(0, iv x1), (1, iv x4)]) r_188_26 (n_188_26 _) rfl ⟨rfl, by decide, by decide, by decide⟩ rfl rfl ⟨rfl, Nat.le_of_ble_eq_true rfl, Nat.le_of_ble_eq_true rfl⟩ rfl K_Model_field ?_
      rintro _ _ ⟨rfl, rfl⟩
      refine .inl ⟨some (iv (((1 + (26 * x1)) + 2) + (3 * x4))), rfl, ?_⟩
      show wp S 188 29 [(0, rf 252), (1, iv x1), (2, iv x2), (3, iv x3), (4, iv x4)] [iv (((1 + (26 * x1)) + 2) + (3 * x4)), rf 253] s Q
      obtain ⟨g10, h⟩ := h
      refine i_iaload (a := 253) (j := ((1 + (26 * x1)) + 2) + (3 * x4)) r_188_29 (n_188_29 _) lf_253 ⟨by omega, by omega⟩ (by omega) (by omega) (fun q11 => ?_)
      refine i_iload_n (x := x2) r_188_30 (n_188_30 _) rfl ?_
      obtain ⟨g12, h⟩ := h
      refine i_icmp (t := 38) r_188_31 (n_188_31 _) rfl (T_ne q11 g12) (fun c13 => ?_) (fun c13 => ?_)
      · replace h := h.1 c13
        refine i_iconst r_188_38 (n_188_38 _) ?_
        refine i_istore_n (l' := [(0, rf 252), (1, iv x1), (2, iv x2), (3, iv 0), (4, iv x4)]) r_188_39 (n_188_39 _) (by decide) rfl ?_
        refine i_iinc (x := x4) (l' := [(0, rf 252), (1, iv x1), (2, iv x2), (3, iv 0), (4, iv (x4 + 1))]) r_188_40 (n_188_40 _) (by decide) rfl rfl ?_
        refine i_goto (t := 5) r_188_43 (n_188_43 _) rfl ?_
        exact wp_pr (l' := [(0, rf 252), (1, iv x1), (2, iv x2), (3, iv 0), (4, iv (x4 + 1))]) rfl h
      · replace h := h.2 c13
        refine i_iconst r_188_34 (n_188_34 _) ?_
        refine i_goto (t := 39) r_188_35 (n_188_35 _) rfl ?_
        refine i_istore_n (l' := [(0, rf 252), (1, iv x1), (2, iv x2), (3, iv 1), (4, iv x4)]) r_188_39 (n_188_39 _) (by decide) rfl ?_
        refine i_iinc (x := x4) (l' := [(0, rf 252), (1, iv x1), (2, iv x2), (3, iv 1), (4, iv (x4 + 1))]) r_188_40 (n_188_40 _) (by decide) rfl rfl ?_
        refine i_goto (t := 5) r_188_43 (n_188_43 _) rfl ?_
        exact wp_pr (l' := [(0, rf 252), (1, iv x1), (2, iv x2), (3, iv 1), (4, iv (x4 + 1))]) rfl h
theorem r_193_0 : xfetch 193 0 = some (.iconst 0, 1) := by decide +kernel
theorem n_193_0 : ∀ l, xpr 193 0 l = l := xpr_no (by decide +kernel)
theorem r_193_1 : xfetch 193 1 = some (.istore_n 1, 1) := by decide +kernel
theorem n_193_1 : ∀ l, xpr 193 1 l = l := xpr_no (by decide +kernel)
theorem r_193_2 : xfetch 193 2 = some (.iload_n 1, 1) := by decide +kernel
theorem r_193_3 : xfetch 193 3 = some (.aload_n 0, 1) := by decide +kernel
theorem n_193_3 : ∀ l, xpr 193 3 l = l := xpr_no (by decide +kernel)
theorem r_193_4 : xfetch 193 4 = some (.getfield 7, 3) := by decide +kernel
theorem n_193_4 : ∀ l, xpr 193 4 l = l := xpr_no (by decide +kernel)
theorem r_193_7 : xfetch 193 7 = some (.iconst 0, 1) := by decide +kernel
theorem n_193_7 : ∀ l, xpr 193 7 l = l := xpr_no (by decide +kernel)
theorem r_193_8 : xfetch 193 8 = some (.iaload, 1) := by decide +kernel
theorem n_193_8 : ∀ l, xpr 193 8 l = l := xpr_no (by decide +kernel)
theorem r_193_9 : xfetch 193 9 = some (.if_icmp .ge 79, 3) := by decide +kernel
theorem n_193_9 : ∀ l, xpr 193 9 l = l := xpr_no (by decide +kernel)
theorem r_193_12 : xfetch 193 12 = some (.aload_n 0, 1) := by decide +kernel
theorem n_193_12 : ∀ l, xpr 193 12 l = l := xpr_no (by decide +kernel)
theorem r_193_13 : xfetch 193 13 = some (.invokevirtual 122, 3) := by decide +kernel
theorem n_193_13 : ∀ l, xpr 193 13 l = l := xpr_no (by decide +kernel)
theorem r_193_16 : xfetch 193 16 = some (.aload_n 0, 1) := by decide +kernel
theorem n_193_16 : ∀ l, xpr 193 16 l = l := xpr_no (by decide +kernel)
theorem r_193_17 : xfetch 193 17 = some (.getfield 22, 3) := by decide +kernel
theorem n_193_17 : ∀ l, xpr 193 17 l = l := xpr_no (by decide +kernel)
theorem r_193_20 : xfetch 193 20 = some (.iload_n 1, 1) := by decide +kernel
theorem n_193_20 : ∀ l, xpr 193 20 l = l := xpr_no (by decide +kernel)
theorem r_193_21 : xfetch 193 21 = some (.aload_n 0, 1) := by decide +kernel
theorem n_193_21 : ∀ l, xpr 193 21 l = l := xpr_no (by decide +kernel)
theorem r_193_22 : xfetch 193 22 = some (.iload_n 1, 1) := by decide +kernel
theorem n_193_22 : ∀ l, xpr 193 22 l = l := xpr_no (by decide +kernel)
theorem r_193_23 : xfetch 193 23 = some (.invokevirtual 125, 3) := by decide +kernel
theorem n_193_23 : ∀ l, xpr 193 23 l = l := xpr_no (by decide +kernel)
theorem r_193_26 : xfetch 193 26 = some (.iastore, 1) := by decide +kernel
theorem n_193_26 : ∀ l, xpr 193 26 l = l := xpr_no (by decide +kernel)
theorem r_193_27 : xfetch 193 27 = some (.aload_n 0, 1) := by decide +kernel
theorem n_193_27 : ∀ l, xpr 193 27 l = l := xpr_no (by decide +kernel)
theorem r_193_28 : xfetch 193 28 = some (.getfield 19, 3) := by decide +kernel
theorem n_193_28 : ∀ l, xpr 193 28 l = l := xpr_no (by decide +kernel)
theorem r_193_31 : xfetch 193 31 = some (.iload_n 1, 1) := by decide +kernel
theorem n_193_31 : ∀ l, xpr 193 31 l = l := xpr_no (by decide +kernel)
theorem r_193_32 : xfetch 193 32 = some (.iconst 0, 1) := by decide +kernel
theorem n_193_32 : ∀ l, xpr 193 32 l = l := xpr_no (by decide +kernel)
theorem r_193_33 : xfetch 193 33 = some (.iastore, 1) := by decide +kernel
theorem n_193_33 : ∀ l, xpr 193 33 l = l := xpr_no (by decide +kernel)
theorem r_193_34 : xfetch 193 34 = some (.iconst 0, 1) := by decide +kernel
theorem n_193_34 : ∀ l, xpr 193 34 l = l := xpr_no (by decide +kernel)
theorem r_193_35 : xfetch 193 35 = some (.istore_n 2, 1) := by decide +kernel
theorem n_193_35 : ∀ l, xpr 193 35 l = l := xpr_no (by decide +kernel)
theorem r_193_36 : xfetch 193 36 = some (.iload_n 2, 1) := by decide +kernel
theorem r_193_37 : xfetch 193 37 = some (.aload_n 0, 1) := by decide +kernel
theorem n_193_37 : ∀ l, xpr 193 37 l = l := xpr_no (by decide +kernel)
theorem r_193_38 : xfetch 193 38 = some (.iload_n 1, 1) := by decide +kernel
theorem n_193_38 : ∀ l, xpr 193 38 l = l := xpr_no (by decide +kernel)
theorem r_193_39 : xfetch 193 39 = some (.invokevirtual 99, 3) := by decide +kernel
theorem n_193_39 : ∀ l, xpr 193 39 l = l := xpr_no (by decide +kernel)
theorem r_193_42 : xfetch 193 42 = some (.if_icmp .ge 40, 3) := by decide +kernel
theorem n_193_42 : ∀ l, xpr 193 42 l = l := xpr_no (by decide +kernel)
theorem r_193_45 : xfetch 193 45 = some (.iconst 0, 1) := by decide +kernel
theorem n_193_45 : ∀ l, xpr 193 45 l = l := xpr_no (by decide +kernel)
theorem r_193_46 : xfetch 193 46 = some (.istore_n 3, 1) := by decide +kernel
theorem n_193_46 : ∀ l, xpr 193 46 l = l := xpr_no (by decide +kernel)
theorem r_193_47 : xfetch 193 47 = some (.iload_n 3, 1) := by decide +kernel
theorem r_193_48 : xfetch 193 48 = some (.aload_n 0, 1) := by decide +kernel
theorem n_193_48 : ∀ l, xpr 193 48 l = l := xpr_no (by decide +kernel)
theorem r_193_49 : xfetch 193 49 = some (.getfield 7, 3) := by decide +kernel
theorem n_193_49 : ∀ l, xpr 193 49 l = l := xpr_no (by decide +kernel)
theorem r_193_52 : xfetch 193 52 = some (.iload_n 1, 1) := by decide +kernel
theorem n_193_52 : ∀ l, xpr 193 52 l = l := xpr_no (by decide +kernel)
theorem r_193_53 : xfetch 193 53 = some (.iload_n 2, 1) := by decide +kernel
theorem n_193_53 : ∀ l, xpr 193 53 l = l := xpr_no (by decide +kernel)
theorem r_193_54 : xfetch 193 54 = some (.invokestatic 102, 3) := by decide +kernel
theorem n_193_54 : ∀ l, xpr 193 54 l = l := xpr_no (by decide +kernel)
theorem r_193_57 : xfetch 193 57 = some (.iconst 2, 1) := by decide +kernel
theorem n_193_57 : ∀ l, xpr 193 57 l = l := xpr_no (by decide +kernel)
theorem r_193_58 : xfetch 193 58 = some (.iadd, 1) := by decide +kernel
theorem n_193_58 : ∀ l, xpr 193 58 l = l := xpr_no (by decide +kernel)
theorem r_193_59 : xfetch 193 59 = some (.iaload, 1) := by decide +kernel
theorem n_193_59 : ∀ l, xpr 193 59 l = l := xpr_no (by decide +kernel)
theorem r_193_60 : xfetch 193 60 = some (.if_icmp .ge 16, 3) := by decide +kernel
theorem n_193_60 : ∀ l, xpr 193 60 l = l := xpr_no (by decide +kernel)
theorem r_193_63 : xfetch 193 63 = some (.aload_n 0, 1) := by decide +kernel
theorem n_193_63 : ∀ l, xpr 193 63 l = l := xpr_no (by decide +kernel)
theorem r_193_64 : xfetch 193 64 = some (.iload_n 1, 1) := by decide +kernel
theorem n_193_64 : ∀ l, xpr 193 64 l = l := xpr_no (by decide +kernel)
theorem r_193_65 : xfetch 193 65 = some (.iload_n 2, 1) := by decide +kernel
theorem n_193_65 : ∀ l, xpr 193 65 l = l := xpr_no (by decide +kernel)
theorem r_193_66 : xfetch 193 66 = some (.iload_n 3, 1) := by decide +kernel
theorem n_193_66 : ∀ l, xpr 193 66 l = l := xpr_no (by decide +kernel)
theorem r_193_67 : xfetch 193 67 = some (.invokevirtual 128, 3) := by decide +kernel
theorem n_193_67 : ∀ l, xpr 193 67 l = l := xpr_no (by decide +kernel)
theorem r_193_70 : xfetch 193 70 = some (.iinc 3 1, 3) := by decide +kernel
theorem n_193_70 : ∀ l, xpr 193 70 l = l := xpr_no (by decide +kernel)
theorem r_193_73 : xfetch 193 73 = some (.goto (-26), 3) := by decide +kernel
theorem n_193_73 : ∀ l, xpr 193 73 l = l := xpr_no (by decide +kernel)
theorem r_193_76 : xfetch 193 76 = some (.iinc 2 1, 3) := by decide +kernel
theorem n_193_76 : ∀ l, xpr 193 76 l = l := xpr_no (by decide +kernel)
theorem r_193_79 : xfetch 193 79 = some (.goto (-43), 3) := by decide +kernel
theorem n_193_79 : ∀ l, xpr 193 79 l = l := xpr_no (by decide +kernel)
theorem r_193_82 : xfetch 193 82 = some (.iinc 1 1, 3) := by decide +kernel
theorem n_193_82 : ∀ l, xpr 193 82 l = l := xpr_no (by decide +kernel)
theorem r_193_85 : xfetch 193 85 = some (.goto (-83), 3) := by decide +kernel
theorem n_193_85 : ∀ l, xpr 193 85 l = l := xpr_no (by decide +kernel)
theorem r_193_88 : xfetch 193 88 = some (.return_, 1) := by decide +kernel
theorem n_193_88 : ∀ l, xpr 193 88 l = l := xpr_no (by decide +kernel)
theorem v_Model_lays_0 {S : Option (Nat × (Nat → Int32))} {s : zSt} {Q : Option Value ⊕ Nat → zSt → Prop}  
    (h : wp S 193 2 [(0, rf 252), (1, iv 0)] [] s Q) :
    wp S 193 0 [(0, rf 252)] [] s Q := by
  refine i_iconst r_193_0 (n_193_0 _) ?_
  refine i_istore_n (l' := [(0, rf 252), (1, iv 0)]) r_193_1 (n_193_1 _) (by decide) rfl ?_
  exact wp_pr (l' := [(0, rf 252), (1, iv 0)]) rfl h
theorem v_Model_lays_2 {S : Option (Nat × (Nat → Int32))} {s : zSt} {Q : Option Value ⊕ Nat → zSt → Prop} {x1 : Int} 
    (h : rng x1 ∧ (((zI s 253 0) ≤ x1 → Q rU s) ∧ (x1 < (zI s 253 0) → wp S 194 0 [(0, rf 252)] [] s (fun o4 s4 => zkU (wp S 195 0 [(0, rf 252), (1, iv x1)] [] s4 (fun o6 s6 => zkI (fun y6 => (0 ≤ x1 ∧ x1 < 6) ∧ (wp S 193 36 [(0, rf 252), (1, iv x1), (2, iv 0)] [] (zwI (zwI s6 257 x1 y6) 256 x1 0) Q)) (fun e6 => False) o6)) (fun e4 => False) o4)))) :
    wp S 193 2 [(0, rf 252), (1, iv x1)] [] s Q := by
  refine i_iload_n (x := x1) r_193_2 rfl rfl ?_
  refine i_aload_n (a := 252) r_193_3 (n_193_3 _) rfl ?_
  refine i_getR (a := 252) (b := 253) r_193_4 (n_193_4 _) rfl rfl rfl (by omega) lf_252 (by omega) ?_
  refine i_iconst r_193_7 (n_193_7 _) ?_
  refine i_iaload (a := 253) (j := 0) r_193_8 (n_193_8 _) lf_253 ⟨by omega, by omega⟩ (by omega) (by omega) (fun q1 => ?_)
  obtain ⟨g2, h⟩ := h
  refine i_icmp (t := 88) r_193_9 (n_193_9 _) rfl (T_ge g2 q1) (fun c3 => ?_) (fun c3 => ?_)
  · replace h := h.1 c3
    exact i_return r_193_88 (n_193_88 _) rfl h
  · replace h := h.2 c3
    refine i_aload_n (a := 252) r_193_12 (n_193_12 _) rfl ?_
    refine wp_virt (b := 252) (rest := []) (Ls := [(0, rf 252)]) r_193_13 (n_193_13 _) rfl ⟨rfl, rfl, by decide, by decide⟩ rfl rfl lf_252 ⟨rfl, Nat.le_of_ble_eq_true rfl, Nat.le_of_ble_eq_true rfl⟩ rfl h ?_
    intro o4 s4 h
    rcases h with ⟨rfl, h⟩ | ⟨e4, rfl, h⟩
    · refine .inl ⟨none, rfl, ?_⟩
      refine i_aload_n (a := 252) r_193_16 (n_193_16 _) rfl ?_
      refine i_getR (a := 252) (b := 257) r_193_17 (n_193_17 _) rfl rfl rfl (by omega) lf_252 (by omega) ?_
      refine i_iload_n (x := x1) r_193_20 (n_193_20 _) rfl ?_
      refine i_aload_n (a := 252) r_193_21 (n_193_21 _) rfl ?_
      refine i_iload_n (x := x1) r_193_22 (n_193_22 _) rfl ?_
      refine wp_virt (b := 252) (rest := [iv x1, rf 257]) (Ls := [(0, rf 252), (1, iv x1)]) r_193_23 (n_193_23 _) rfl ⟨rfl, rfl, by decide, by decide⟩ rfl rfl lf_252 ⟨rfl, Nat.le_of_ble_eq_true rfl, Nat.le_of_ble_eq_true rfl⟩ rfl h ?_
      intro o6 s6 h
      rcases h with ⟨y6, q7, rfl, h⟩ | ⟨e6, rfl, h⟩
      · refine .inl ⟨some (iv y6), rfl, ?_⟩
        show wp S 193 26 [(0, rf 252), (1, iv x1)] [iv y6, iv x1, rf 257] s6 Q
        obtain ⟨g8, h⟩ := h
        refine i_iastore (a := 257) (j := x1) (x := y6) r_193_26 (n_193_26 _) lf_257 ⟨by omega, by omega⟩ (by omega) (by omega) q7 ?_
        refine i_aload_n (a := 252) r_193_27 (n_193_27 _) rfl ?_
        refine i_getR (a := 252) (b := 256) r_193_28 (n_193_28 _) rfl rfl rfl (by omega) lf_252 (by omega) ?_
        refine i_iload_n (x := x1) r_193_31 (n_193_31 _) rfl ?_
        refine i_iconst r_193_32 (n_193_32 _) ?_
        refine i_iastore (a := 256) (j := x1) (x := 0) r_193_33 (n_193_33 _) lf_256 ⟨by omega, by omega⟩ (by omega) (by omega) ⟨by omega, by omega⟩ ?_
        refine i_iconst r_193_34 (n_193_34 _) ?_
        refine i_istore_n (l' := [(0, rf 252), (1, iv x1), (2, iv 0)]) r_193_35 (n_193_35 _) (by decide) rfl ?_
        exact wp_pr (l' := [(0, rf 252), (1, iv x1), (2, iv 0)]) rfl h
      · skip
        exact h.elim
    · skip
      exact h.elim
theorem v_Model_lays_36 {S : Option (Nat × (Nat → Int32))} {s : zSt} {Q : Option Value ⊕ Nat → zSt → Prop} {x1 : Int} {x2 : Int} 
    (h : (0 ≤ ((1 + (26 * x1)) + 1) ∧ ((1 + (26 * x1)) + 1) < 1199) ∧ (rng x2 ∧ (((zI s 253 ((1 + (26 * x1)) + 1)) ≤ x2 → wp S 193 2 [(0, rf 252), (1, iv (x1 + 1))] [] s Q) ∧ (x2 < (zI s 253 ((1 + (26 * x1)) + 1)) → wp S 193 47 [(0, rf 252), (1, iv x1), (2, iv x2), (3, iv 0)] [] s Q)))) :
    wp S 193 36 [(0, rf 252), (1, iv x1), (2, iv x2)] [] s Q := by
  refine i_iload_n (x := x2) r_193_36 rfl rfl ?_
  refine i_aload_n (a := 252) r_193_37 (n_193_37 _) rfl ?_
  refine i_iload_n (x := x1) r_193_38 (n_193_38 _) rfl ?_
  obtain ⟨g1, h⟩ := h
  refine wp_virt (b := 252) (rest := [iv x2]) (Ls := [(0, rf 252), (1, iv x1)]) r_193_39 (n_193_39 _) rfl ⟨rfl, rfl, by decide, by decide⟩ rfl rfl lf_252 ⟨rfl, Nat.le_of_ble_eq_true rfl, Nat.le_of_ble_eq_true rfl⟩ rfl (K_Model_fieldsOf g1) ?_
  rintro _ _ ⟨rfl, rfl⟩
  refine .inl ⟨some (iv (zI s 253 ((1 + (26 * x1)) + 1))), rfl, ?_⟩
  show wp S 193 42 [(0, rf 252), (1, iv x1), (2, iv x2)] [iv (zI s 253 ((1 + (26 * x1)) + 1)), iv x2] s Q
  refine wp_rd (a := 253) (j := ((1 + (26 * x1)) + 1)) (fun q3 => ?_)
  obtain ⟨g4, h⟩ := h
  refine i_icmp (t := 82) r_193_42 (n_193_42 _) rfl (T_ge g4 q3) (fun c5 => ?_) (fun c5 => ?_)
  · replace h := h.1 c5
    refine i_iinc (x := x1) (l' := [(0, rf 252), (1, iv (x1 + 1)), (2, iv x2)]) r_193_82 (n_193_82 _) (by decide) rfl rfl ?_
    refine i_goto (t := 2) r_193_85 (n_193_85 _) rfl ?_
    exact wp_pr (l' := [(0, rf 252), (1, iv (x1 + 1))]) rfl h
  · replace h := h.2 c5
    refine i_iconst r_193_45 (n_193_45 _) ?_
    refine i_istore_n (l' := [(0, rf 252), (1, iv x1), (2, iv x2), (3, iv 0)]) r_193_46 (n_193_46 _) (by decide) rfl ?_
    exact wp_pr (l' := [(0, rf 252), (1, iv x1), (2, iv x2), (3, iv 0)]) rfl h
theorem v_Model_lays_47 {S : Option (Nat × (Nat → Int32))} {s : zSt} {Q : Option Value ⊕ Nat → zSt → Prop} {x1 : Int} {x2 : Int} {x3 : Int} 
    (h : (0 ≤ ((((1 + (26 * x1)) + 2) + (3 * x2)) + 2) ∧ ((((1 + (26 * x1)) + 2) + (3 * x2)) + 2) < 1199) ∧ (rng x3 ∧ (((zI s 253 ((((1 + (26 * x1)) + 2) + (3 * x2)) + 2)) ≤ x3 → wp S 193 36 [(0, rf 252), (1, iv x1), (2, iv (x2 + 1))] [] s Q) ∧ (x3 < (zI s 253 ((((1 + (26 * x1)) + 2) + (3 * x2)) + 2)) → wp S 200 0 [(0, rf 252), (1, iv x1), (2, iv x2), (3, iv x3)] [] s (fun o6 s6 => zkU (wp S 193 47 [(0, rf 252), (1, iv x1), (2, iv x2), (3, iv (x3 + 1))] [] s6 Q) (fun e6 => False) o6))))) :
    wp S 193 47 [(0, rf 252), (1, iv x1), (2, iv x2), (3, iv x3)] [] s Q := by
  refine i_iload_n (x := x3) r_193_47 rfl rfl ?_
  refine i_aload_n (a := 252) r_193_48 (n_193_48 _) rfl ?_
  refine i_getR (a := 252) (b := 253) r_193_49 (n_193_49 _) rfl rfl rfl (by omega) lf_252 (by omega) ?_
  refine i_iload_n (x := x1) r_193_52 (n_193_52 _) rfl ?_
  refine i_iload_n (x := x2) r_193_53 (n_193_53 _) rfl ?_
  refine wp_stat (rest := [rf 253, iv x3]) (Ls := [(0, iv x1), (1, iv x2)]) r_193_54 (n_193_54 _) rfl ⟨rfl, by decide, by decide, by decide⟩ rfl rfl ⟨rfl, Nat.le_of_ble_eq_true rfl, Nat.le_of_ble_eq_true rfl⟩ rfl K_Model_field ?_
  rintro _ _ ⟨rfl, rfl⟩
  refine .inl ⟨some (iv (((1 + (26 * x1)) + 2) + (3 * x2))), rfl, ?_⟩
  show wp S 193 57 [(0, rf 252), (1, iv x1), (2, iv x2), (3, iv x3)] [iv (((1 + (26 * x1)) + 2) + (3 * x2)), rf 253, iv x3] s Q
  refine i_iconst r_193_57 (n_193_57 _) ?_
  refine i_iadd r_193_58 (n_193_58 _) ?_
  obtain ⟨g2, h⟩ := h
  refine i_iaload (a := 253) (j := (((1 + (26 * x1)) + 2) + (3 * x2)) + 2) r_193_59 (n_193_59 _) lf_253 ⟨by omega, by omega⟩ (by omega) (by omega) (fun q3 => ?_)
  obtain ⟨g4, h⟩ := h
  refine i_icmp (t := 76) r_193_60 (n_193_60 _) rfl (T_ge g4 q3) (fun c5 => ?_) (fun c5 => ?_)
  · replace h := h.1 c5
    refine i_iinc (x := x2) (l' := [(0, rf 252), (1, iv x1), (2, iv (x2 + 1)), (3, iv x3)]) r_193_76 (n_193_76 _) (by decide) rfl rfl ?_
    refine i_goto (t := 36) r_193_79 (n_193_79 _) rfl ?_
    exact wp_pr (l' := [(0, rf 252), (1, iv x1), (2, iv (x2 + 1))]) rfl h
  · replace h := h.2 c5
    refine i_aload_n (a := 252) r_193_63 (n_193_63 _) rfl ?_
    refine i_iload_n (x := x1) r_193_64 (n_193_64 _) rfl ?_
    refine i_iload_n (x := x2) r_193_65 (n_193_65 _) rfl ?_
    refine i_iload_n (x := x3) r_193_66 (n_193_66 _) rfl ?_
    refine wp_virt (b := 252) (rest := []) (Ls := [(0, rf 252), (1, iv x1), (2, iv x2), (3, iv x3)]) r_193_67 (n_193_67 _) rfl ⟨rfl, rfl, by decide, by decide⟩ rfl rfl lf_252 ⟨rfl, Nat.le_of_ble_eq_true rfl, Nat.le_of_ble_eq_true rfl⟩ rfl h ?_
    intro o6 s6 h
    rcases h with ⟨rfl, h⟩ | ⟨e6, rfl, h⟩
    · refine .inl ⟨none, rfl, ?_⟩
      refine i_iinc (x := x3) (l' := [(0, rf 252), (1, iv x1), (2, iv x2), (3, iv (x3 + 1))]) r_193_70 (n_193_70 _) (by decide) rfl rfl ?_
      refine i_goto (t := 47) r_193_73 (n_193_73 _) rfl ?_
      exact wp_pr (l' := [(0, rf 252), (1, iv x1), (2, iv x2), (3, iv (x3 + 1))]) rfl h
    · skip
      exact h.elim
theorem r_194_0 : xfetch 194 0 = some (.iconst 0, 1) := by decide +kernel
theorem n_194_0 : ∀ l, xpr 194 0 l = l := xpr_no (by decide +kernel)
theorem r_194_1 : xfetch 194 1 = some (.istore_n 1, 1) := by decide +kernel
theorem n_194_1 : ∀ l, xpr 194 1 l = l := xpr_no (by decide +kernel)
theorem r_194_2 : xfetch 194 2 = some (.iload_n 1, 1) := by decide +kernel
theorem r_194_3 : xfetch 194 3 = some (.bipush 8, 2) := by decide +kernel
theorem n_194_3 : ∀ l, xpr 194 3 l = l := xpr_no (by decide +kernel)
theorem r_194_5 : xfetch 194 5 = some (.if_icmp .ge 16, 3) := by decide +kernel
theorem n_194_5 : ∀ l, xpr 194 5 l = l := xpr_no (by decide +kernel)
theorem r_194_8 : xfetch 194 8 = some (.aload_n 0, 1) := by decide +kernel
theorem n_194_8 : ∀ l, xpr 194 8 l = l := xpr_no (by decide +kernel)
theorem r_194_9 : xfetch 194 9 = some (.getfield 46, 3) := by decide +kernel
theorem n_194_9 : ∀ l, xpr 194 9 l = l := xpr_no (by decide +kernel)
theorem r_194_12 : xfetch 194 12 = some (.iload_n 1, 1) := by decide +kernel
theorem n_194_12 : ∀ l, xpr 194 12 l = l := xpr_no (by decide +kernel)
theorem r_194_13 : xfetch 194 13 = some (.iload_n 1, 1) := by decide +kernel
theorem n_194_13 : ∀ l, xpr 194 13 l = l := xpr_no (by decide +kernel)
theorem r_194_14 : xfetch 194 14 = some (.iastore, 1) := by decide +kernel
theorem n_194_14 : ∀ l, xpr 194 14 l = l := xpr_no (by decide +kernel)
theorem r_194_15 : xfetch 194 15 = some (.iinc 1 1, 3) := by decide +kernel
theorem n_194_15 : ∀ l, xpr 194 15 l = l := xpr_no (by decide +kernel)
theorem r_194_18 : xfetch 194 18 = some (.goto (-16), 3) := by decide +kernel
theorem n_194_18 : ∀ l, xpr 194 18 l = l := xpr_no (by decide +kernel)
theorem r_194_21 : xfetch 194 21 = some (.return_, 1) := by decide +kernel
theorem n_194_21 : ∀ l, xpr 194 21 l = l := xpr_no (by decide +kernel)
theorem v_Model_inOrder_0 {S : Option (Nat × (Nat → Int32))} {s : zSt} {Q : Option Value ⊕ Nat → zSt → Prop}  
    (h : wp S 194 2 [(0, rf 252), (1, iv 0)] [] s Q) :
    wp S 194 0 [(0, rf 252)] [] s Q := by
  refine i_iconst r_194_0 (n_194_0 _) ?_
  refine i_istore_n (l' := [(0, rf 252), (1, iv 0)]) r_194_1 (n_194_1 _) (by decide) rfl ?_
  exact wp_pr (l' := [(0, rf 252), (1, iv 0)]) rfl h
theorem v_Model_inOrder_2 {S : Option (Nat × (Nat → Int32))} {s : zSt} {Q : Option Value ⊕ Nat → zSt → Prop} {x1 : Int} 
    (h : rng x1 ∧ ((8 ≤ x1 → Q rU s) ∧ (x1 < 8 → (0 ≤ x1 ∧ x1 < 8) ∧ (wp S 194 2 [(0, rf 252), (1, iv (x1 + 1))] [] (zwI s 265 x1 x1) Q)))) :
    wp S 194 2 [(0, rf 252), (1, iv x1)] [] s Q := by
  refine i_iload_n (x := x1) r_194_2 rfl rfl ?_
  refine i_bipush r_194_3 (n_194_3 _) rfl ?_
  obtain ⟨g1, h⟩ := h
  refine i_icmp (t := 21) r_194_5 (n_194_5 _) rfl (T_ge g1 ⟨by omega, by omega⟩) (fun c2 => ?_) (fun c2 => ?_)
  · replace h := h.1 c2
    exact i_return r_194_21 (n_194_21 _) rfl h
  · replace h := h.2 c2
    refine i_aload_n (a := 252) r_194_8 (n_194_8 _) rfl ?_
    refine i_getR (a := 252) (b := 265) r_194_9 (n_194_9 _) rfl rfl rfl (by omega) lf_252 (by omega) ?_
    refine i_iload_n (x := x1) r_194_12 (n_194_12 _) rfl ?_
    refine i_iload_n (x := x1) r_194_13 (n_194_13 _) rfl ?_
    obtain ⟨g3, h⟩ := h
    refine i_iastore (a := 265) (j := x1) (x := x1) r_194_14 (n_194_14 _) lf_265 ⟨by omega, by omega⟩ (by omega) (by omega) g1 ?_
    refine i_iinc (x := x1) (l' := [(0, rf 252), (1, iv (x1 + 1))]) r_194_15 (n_194_15 _) (by decide) rfl rfl ?_
    refine i_goto (t := 2) r_194_18 (n_194_18 _) rfl ?_
    exact wp_pr (l' := [(0, rf 252), (1, iv (x1 + 1))]) rfl h
theorem r_195_0 : xfetch 195 0 = some (.aload_n 0, 1) := by decide +kernel
theorem n_195_0 : ∀ l, xpr 195 0 l = l := xpr_no (by decide +kernel)
theorem r_195_1 : xfetch 195 1 = some (.getfield 7, 3) := by decide +kernel
theorem n_195_1 : ∀ l, xpr 195 1 l = l := xpr_no (by decide +kernel)
theorem r_195_4 : xfetch 195 4 = some (.iload_n 1, 1) := by decide +kernel
theorem n_195_4 : ∀ l, xpr 195 4 l = l := xpr_no (by decide +kernel)
theorem r_195_5 : xfetch 195 5 = some (.invokestatic 92, 3) := by decide +kernel
theorem n_195_5 : ∀ l, xpr 195 5 l = l := xpr_no (by decide +kernel)
theorem r_195_8 : xfetch 195 8 = some (.iaload, 1) := by decide +kernel
theorem n_195_8 : ∀ l, xpr 195 8 l = l := xpr_no (by decide +kernel)
theorem r_195_9 : xfetch 195 9 = some (.istore_n 2, 1) := by decide +kernel
theorem n_195_9 : ∀ l, xpr 195 9 l = l := xpr_no (by decide +kernel)
theorem r_195_10 : xfetch 195 10 = some (.iconst 0, 1) := by decide +kernel
theorem n_195_10 : ∀ l, xpr 195 10 l = l := xpr_no (by decide +kernel)
theorem r_195_11 : xfetch 195 11 = some (.istore_n 3, 1) := by decide +kernel
theorem n_195_11 : ∀ l, xpr 195 11 l = l := xpr_no (by decide +kernel)
theorem r_195_12 : xfetch 195 12 = some (.iconst (-1), 1) := by decide +kernel
theorem n_195_12 : ∀ l, xpr 195 12 l = l := xpr_no (by decide +kernel)
theorem r_195_13 : xfetch 195 13 = some (.istore 4, 2) := by decide +kernel
theorem n_195_13 : ∀ l, xpr 195 13 l = l := xpr_no (by decide +kernel)
theorem r_195_15 : xfetch 195 15 = some (.iconst 0, 1) := by decide +kernel
theorem n_195_15 : ∀ l, xpr 195 15 l = l := xpr_no (by decide +kernel)
theorem r_195_16 : xfetch 195 16 = some (.istore 5, 2) := by decide +kernel
theorem n_195_16 : ∀ l, xpr 195 16 l = l := xpr_no (by decide +kernel)
theorem r_195_18 : xfetch 195 18 = some (.iconst 1, 1) := by decide +kernel
theorem n_195_18 : ∀ l, xpr 195 18 l = l := xpr_no (by decide +kernel)
theorem r_195_19 : xfetch 195 19 = some (.istore 6, 2) := by decide +kernel
theorem n_195_19 : ∀ l, xpr 195 19 l = l := xpr_no (by decide +kernel)
theorem r_195_21 : xfetch 195 21 = some (.iconst 0, 1) := by decide +kernel
theorem n_195_21 : ∀ l, xpr 195 21 l = l := xpr_no (by decide +kernel)
theorem r_195_22 : xfetch 195 22 = some (.istore 7, 2) := by decide +kernel
theorem n_195_22 : ∀ l, xpr 195 22 l = l := xpr_no (by decide +kernel)
theorem r_195_24 : xfetch 195 24 = some (.iload 7, 2) := by decide +kernel
theorem r_195_26 : xfetch 195 26 = some (.aload_n 0, 1) := by decide +kernel
theorem n_195_26 : ∀ l, xpr 195 26 l = l := xpr_no (by decide +kernel)
theorem r_195_27 : xfetch 195 27 = some (.iload_n 1, 1) := by decide +kernel
theorem n_195_27 : ∀ l, xpr 195 27 l = l := xpr_no (by decide +kernel)
theorem r_195_28 : xfetch 195 28 = some (.invokevirtual 99, 3) := by decide +kernel
theorem n_195_28 : ∀ l, xpr 195 28 l = l := xpr_no (by decide +kernel)
theorem r_195_31 : xfetch 195 31 = some (.if_icmp .ge 210, 3) := by decide +kernel
theorem n_195_31 : ∀ l, xpr 195 31 l = l := xpr_no (by decide +kernel)
theorem r_195_34 : xfetch 195 34 = some (.aload_n 0, 1) := by decide +kernel
theorem n_195_34 : ∀ l, xpr 195 34 l = l := xpr_no (by decide +kernel)
theorem r_195_35 : xfetch 195 35 = some (.getfield 46, 3) := by decide +kernel
theorem n_195_35 : ∀ l, xpr 195 35 l = l := xpr_no (by decide +kernel)
theorem r_195_38 : xfetch 195 38 = some (.iload 7, 2) := by decide +kernel
theorem n_195_38 : ∀ l, xpr 195 38 l = l := xpr_no (by decide +kernel)
theorem r_195_40 : xfetch 195 40 = some (.iaload, 1) := by decide +kernel
theorem n_195_40 : ∀ l, xpr 195 40 l = l := xpr_no (by decide +kernel)
theorem r_195_41 : xfetch 195 41 = some (.istore 8, 2) := by decide +kernel
theorem n_195_41 : ∀ l, xpr 195 41 l = l := xpr_no (by decide +kernel)
theorem r_195_43 : xfetch 195 43 = some (.aload_n 0, 1) := by decide +kernel
theorem n_195_43 : ∀ l, xpr 195 43 l = l := xpr_no (by decide +kernel)
theorem r_195_44 : xfetch 195 44 = some (.getfield 7, 3) := by decide +kernel
theorem n_195_44 : ∀ l, xpr 195 44 l = l := xpr_no (by decide +kernel)
theorem r_195_47 : xfetch 195 47 = some (.iload_n 1, 1) := by decide +kernel
theorem n_195_47 : ∀ l, xpr 195 47 l = l := xpr_no (by decide +kernel)
theorem r_195_48 : xfetch 195 48 = some (.iload 8, 2) := by decide +kernel
theorem n_195_48 : ∀ l, xpr 195 48 l = l := xpr_no (by decide +kernel)
theorem r_195_50 : xfetch 195 50 = some (.invokestatic 102, 3) := by decide +kernel
theorem n_195_50 : ∀ l, xpr 195 50 l = l := xpr_no (by decide +kernel)
theorem r_195_53 : xfetch 195 53 = some (.iconst 1, 1) := by decide +kernel
theorem n_195_53 : ∀ l, xpr 195 53 l = l := xpr_no (by decide +kernel)
theorem r_195_54 : xfetch 195 54 = some (.iadd, 1) := by decide +kernel
theorem n_195_54 : ∀ l, xpr 195 54 l = l := xpr_no (by decide +kernel)
theorem r_195_55 : xfetch 195 55 = some (.iaload, 1) := by decide +kernel
theorem n_195_55 : ∀ l, xpr 195 55 l = l := xpr_no (by decide +kernel)
theorem r_195_56 : xfetch 195 56 = some (.istore 9, 2) := by decide +kernel
theorem n_195_56 : ∀ l, xpr 195 56 l = l := xpr_no (by decide +kernel)
theorem r_195_58 : xfetch 195 58 = some (.aload_n 0, 1) := by decide +kernel
theorem n_195_58 : ∀ l, xpr 195 58 l = l := xpr_no (by decide +kernel)
theorem r_195_59 : xfetch 195 59 = some (.iload 9, 2) := by decide +kernel
theorem n_195_59 : ∀ l, xpr 195 59 l = l := xpr_no (by decide +kernel)
theorem r_195_61 : xfetch 195 61 = some (.invokevirtual 106, 3) := by decide +kernel
theorem n_195_61 : ∀ l, xpr 195 61 l = l := xpr_no (by decide +kernel)
theorem r_195_64 : xfetch 195 64 = some (.istore 10, 2) := by decide +kernel
theorem n_195_64 : ∀ l, xpr 195 64 l = l := xpr_no (by decide +kernel)
theorem r_195_66 : xfetch 195 66 = some (.iload 10, 2) := by decide +kernel
theorem n_195_66 : ∀ l, xpr 195 66 l = l := xpr_no (by decide +kernel)
theorem r_195_68 : xfetch 195 68 = some (.iload_n 2, 1) := by decide +kernel
theorem n_195_68 : ∀ l, xpr 195 68 l = l := xpr_no (by decide +kernel)
theorem r_195_69 : xfetch 195 69 = some (.if_icmp .ge 8, 3) := by decide +kernel
theorem n_195_69 : ∀ l, xpr 195 69 l = l := xpr_no (by decide +kernel)
theorem r_195_72 : xfetch 195 72 = some (.iload 10, 2) := by decide +kernel
theorem n_195_72 : ∀ l, xpr 195 72 l = l := xpr_no (by decide +kernel)
theorem r_195_74 : xfetch 195 74 = some (.goto 4, 3) := by decide +kernel
theorem n_195_74 : ∀ l, xpr 195 74 l = l := xpr_no (by decide +kernel)
theorem r_195_77 : xfetch 195 77 = some (.iload_n 2, 1) := by decide +kernel
theorem n_195_77 : ∀ l, xpr 195 77 l = l := xpr_no (by decide +kernel)
theorem r_195_78 : xfetch 195 78 = some (.istore 11, 2) := by decide +kernel
theorem n_195_78 : ∀ l, xpr 195 78 l = l := xpr_no (by decide +kernel)
theorem r_195_80 : xfetch 195 80 = some (.iload 11, 2) := by decide +kernel
theorem n_195_80 : ∀ l, xpr 195 80 l = l := xpr_no (by decide +kernel)
theorem r_195_82 : xfetch 195 82 = some (.iload 6, 2) := by decide +kernel
theorem n_195_82 : ∀ l, xpr 195 82 l = l := xpr_no (by decide +kernel)
theorem r_195_84 : xfetch 195 84 = some (.if_icmp .le 8, 3) := by decide +kernel
theorem n_195_84 : ∀ l, xpr 195 84 l = l := xpr_no (by decide +kernel)
theorem r_195_87 : xfetch 195 87 = some (.iload 11, 2) := by decide +kernel
theorem n_195_87 : ∀ l, xpr 195 87 l = l := xpr_no (by decide +kernel)
theorem r_195_89 : xfetch 195 89 = some (.goto 5, 3) := by decide +kernel
theorem n_195_89 : ∀ l, xpr 195 89 l = l := xpr_no (by decide +kernel)
theorem r_195_92 : xfetch 195 92 = some (.iload 6, 2) := by decide +kernel
theorem n_195_92 : ∀ l, xpr 195 92 l = l := xpr_no (by decide +kernel)
theorem r_195_94 : xfetch 195 94 = some (.istore 6, 2) := by decide +kernel
theorem n_195_94 : ∀ l, xpr 195 94 l = l := xpr_no (by decide +kernel)
theorem r_195_96 : xfetch 195 96 = some (.iload 9, 2) := by decide +kernel
theorem n_195_96 : ∀ l, xpr 195 96 l = l := xpr_no (by decide +kernel)
theorem r_195_98 : xfetch 195 98 = some (.invokestatic 109, 3) := by decide +kernel
theorem n_195_98 : ∀ l, xpr 195 98 l = l := xpr_no (by decide +kernel)
theorem r_195_101 : xfetch 195 101 = some (.ifCond .eq 11, 3) := by decide +kernel
theorem n_195_101 : ∀ l, xpr 195 101 l = l := xpr_no (by decide +kernel)
theorem r_195_104 : xfetch 195 104 = some (.iload 9, 2) := by decide +kernel
theorem n_195_104 : ∀ l, xpr 195 104 l = l := xpr_no (by decide +kernel)
theorem r_195_106 : xfetch 195 106 = some (.bipush 20, 2) := by decide +kernel
theorem n_195_106 : ∀ l, xpr 195 106 l = l := xpr_no (by decide +kernel)
theorem r_195_108 : xfetch 195 108 = some (.isub, 1) := by decide +kernel
theorem n_195_108 : ∀ l, xpr 195 108 l = l := xpr_no (by decide +kernel)
theorem r_195_109 : xfetch 195 109 = some (.goto 4, 3) := by decide +kernel
theorem n_195_109 : ∀ l, xpr 195 109 l = l := xpr_no (by decide +kernel)
theorem r_195_112 : xfetch 195 112 = some (.iconst 0, 1) := by decide +kernel
theorem n_195_112 : ∀ l, xpr 195 112 l = l := xpr_no (by decide +kernel)
theorem r_195_113 : xfetch 195 113 = some (.istore 12, 2) := by decide +kernel
theorem r_195_115 : xfetch 195 115 = some (.iload 12, 2) := by decide +kernel
theorem n_195_115 : ∀ l, xpr 195 115 l = l := xpr_no (by decide +kernel)
theorem r_195_117 : xfetch 195 117 = some (.ifCond .le 47, 3) := by decide +kernel
theorem n_195_117 : ∀ l, xpr 195 117 l = l := xpr_no (by decide +kernel)
theorem r_195_120 : xfetch 195 120 = some (.iload 4, 2) := by decide +kernel
theorem n_195_120 : ∀ l, xpr 195 120 l = l := xpr_no (by decide +kernel)
theorem r_195_122 : xfetch 195 122 = some (.iconst (-1), 1) := by decide +kernel
theorem n_195_122 : ∀ l, xpr 195 122 l = l := xpr_no (by decide +kernel)
theorem r_195_123 : xfetch 195 123 = some (.if_icmp .eq 41, 3) := by decide +kernel
theorem n_195_123 : ∀ l, xpr 195 123 l = l := xpr_no (by decide +kernel)
theorem r_195_126 : xfetch 195 126 = some (.iload 5, 2) := by decide +kernel
theorem n_195_126 : ∀ l, xpr 195 126 l = l := xpr_no (by decide +kernel)
theorem r_195_128 : xfetch 195 128 = some (.iload 12, 2) := by decide +kernel
theorem n_195_128 : ∀ l, xpr 195 128 l = l := xpr_no (by decide +kernel)
theorem r_195_130 : xfetch 195 130 = some (.iadd, 1) := by decide +kernel
theorem n_195_130 : ∀ l, xpr 195 130 l = l := xpr_no (by decide +kernel)
theorem r_195_131 : xfetch 195 131 = some (.bipush 16, 2) := by decide +kernel
theorem n_195_131 : ∀ l, xpr 195 131 l = l := xpr_no (by decide +kernel)
theorem r_195_133 : xfetch 195 133 = some (.if_icmp .gt 31, 3) := by decide +kernel
theorem n_195_133 : ∀ l, xpr 195 133 l = l := xpr_no (by decide +kernel)
theorem r_195_136 : xfetch 195 136 = some (.aload_n 0, 1) := by decide +kernel
theorem n_195_136 : ∀ l, xpr 195 136 l = l := xpr_no (by decide +kernel)
theorem r_195_137 : xfetch 195 137 = some (.getfield 49, 3) := by decide +kernel
theorem n_195_137 : ∀ l, xpr 195 137 l = l := xpr_no (by decide +kernel)
theorem r_195_140 : xfetch 195 140 = some (.iload 8, 2) := by decide +kernel
theorem n_195_140 : ∀ l, xpr 195 140 l = l := xpr_no (by decide +kernel)
theorem r_195_142 : xfetch 195 142 = some (.iload 4, 2) := by decide +kernel
theorem n_195_142 : ∀ l, xpr 195 142 l = l := xpr_no (by decide +kernel)
theorem r_195_144 : xfetch 195 144 = some (.iastore, 1) := by decide +kernel
theorem n_195_144 : ∀ l, xpr 195 144 l = l := xpr_no (by decide +kernel)
theorem r_195_145 : xfetch 195 145 = some (.aload_n 0, 1) := by decide +kernel
theorem n_195_145 : ∀ l, xpr 195 145 l = l := xpr_no (by decide +kernel)
theorem r_195_146 : xfetch 195 146 = some (.getfield 52, 3) := by decide +kernel
theorem n_195_146 : ∀ l, xpr 195 146 l = l := xpr_no (by decide +kernel)
theorem r_195_149 : xfetch 195 149 = some (.iload 8, 2) := by decide +kernel
theorem n_195_149 : ∀ l, xpr 195 149 l = l := xpr_no (by decide +kernel)
theorem r_195_151 : xfetch 195 151 = some (.iload 5, 2) := by decide +kernel
theorem n_195_151 : ∀ l, xpr 195 151 l = l := xpr_no (by decide +kernel)
theorem r_195_153 : xfetch 195 153 = some (.iastore, 1) := by decide +kernel
theorem n_195_153 : ∀ l, xpr 195 153 l = l := xpr_no (by decide +kernel)
theorem r_195_154 : xfetch 195 154 = some (.iload 5, 2) := by decide +kernel
theorem n_195_154 : ∀ l, xpr 195 154 l = l := xpr_no (by decide +kernel)
theorem r_195_156 : xfetch 195 156 = some (.iload 12, 2) := by decide +kernel
theorem n_195_156 : ∀ l, xpr 195 156 l = l := xpr_no (by decide +kernel)
theorem r_195_158 : xfetch 195 158 = some (.iadd, 1) := by decide +kernel
theorem n_195_158 : ∀ l, xpr 195 158 l = l := xpr_no (by decide +kernel)
theorem r_195_159 : xfetch 195 159 = some (.istore 5, 2) := by decide +kernel
theorem n_195_159 : ∀ l, xpr 195 159 l = l := xpr_no (by decide +kernel)
theorem r_195_161 : xfetch 195 161 = some (.goto 74, 3) := by decide +kernel
theorem n_195_161 : ∀ l, xpr 195 161 l = l := xpr_no (by decide +kernel)
theorem r_195_164 : xfetch 195 164 = some (.iload_n 3, 1) := by decide +kernel
theorem n_195_164 : ∀ l, xpr 195 164 l = l := xpr_no (by decide +kernel)
theorem r_195_165 : xfetch 195 165 = some (.iload 11, 2) := by decide +kernel
theorem n_195_165 : ∀ l, xpr 195 165 l = l := xpr_no (by decide +kernel)
theorem r_195_167 : xfetch 195 167 = some (.invokestatic 112, 3) := by decide +kernel
theorem n_195_167 : ∀ l, xpr 195 167 l = l := xpr_no (by decide +kernel)
theorem r_195_170 : xfetch 195 170 = some (.istore_n 3, 1) := by decide +kernel
theorem n_195_170 : ∀ l, xpr 195 170 l = l := xpr_no (by decide +kernel)
theorem r_195_171 : xfetch 195 171 = some (.aload_n 0, 1) := by decide +kernel
theorem n_195_171 : ∀ l, xpr 195 171 l = l := xpr_no (by decide +kernel)
theorem r_195_172 : xfetch 195 172 = some (.getfield 49, 3) := by decide +kernel
theorem n_195_172 : ∀ l, xpr 195 172 l = l := xpr_no (by decide +kernel)
theorem r_195_175 : xfetch 195 175 = some (.iload 8, 2) := by decide +kernel
theorem n_195_175 : ∀ l, xpr 195 175 l = l := xpr_no (by decide +kernel)
theorem r_195_177 : xfetch 195 177 = some (.iload_n 3, 1) := by decide +kernel
theorem n_195_177 : ∀ l, xpr 195 177 l = l := xpr_no (by decide +kernel)
theorem r_195_178 : xfetch 195 178 = some (.iastore, 1) := by decide +kernel
theorem n_195_178 : ∀ l, xpr 195 178 l = l := xpr_no (by decide +kernel)
theorem r_195_179 : xfetch 195 179 = some (.aload_n 0, 1) := by decide +kernel
theorem n_195_179 : ∀ l, xpr 195 179 l = l := xpr_no (by decide +kernel)
theorem r_195_180 : xfetch 195 180 = some (.getfield 52, 3) := by decide +kernel
theorem n_195_180 : ∀ l, xpr 195 180 l = l := xpr_no (by decide +kernel)
theorem r_195_183 : xfetch 195 183 = some (.iload 8, 2) := by decide +kernel
theorem n_195_183 : ∀ l, xpr 195 183 l = l := xpr_no (by decide +kernel)
theorem r_195_185 : xfetch 195 185 = some (.iconst 0, 1) := by decide +kernel
theorem n_195_185 : ∀ l, xpr 195 185 l = l := xpr_no (by decide +kernel)
theorem r_195_186 : xfetch 195 186 = some (.iastore, 1) := by decide +kernel
theorem n_195_186 : ∀ l, xpr 195 186 l = l := xpr_no (by decide +kernel)
theorem r_195_187 : xfetch 195 187 = some (.iload 12, 2) := by decide +kernel
theorem n_195_187 : ∀ l, xpr 195 187 l = l := xpr_no (by decide +kernel)
theorem r_195_189 : xfetch 195 189 = some (.ifCond .le 7, 3) := by decide +kernel
theorem n_195_189 : ∀ l, xpr 195 189 l = l := xpr_no (by decide +kernel)
theorem r_195_192 : xfetch 195 192 = some (.iload_n 3, 1) := by decide +kernel
theorem n_195_192 : ∀ l, xpr 195 192 l = l := xpr_no (by decide +kernel)
theorem r_195_193 : xfetch 195 193 = some (.goto 4, 3) := by decide +kernel
theorem n_195_193 : ∀ l, xpr 195 193 l = l := xpr_no (by decide +kernel)
theorem r_195_196 : xfetch 195 196 = some (.iconst (-1), 1) := by decide +kernel
theorem n_195_196 : ∀ l, xpr 195 196 l = l := xpr_no (by decide +kernel)
theorem r_195_197 : xfetch 195 197 = some (.istore 4, 2) := by decide +kernel
theorem n_195_197 : ∀ l, xpr 195 197 l = l := xpr_no (by decide +kernel)
theorem r_195_199 : xfetch 195 199 = some (.iload 12, 2) := by decide +kernel
theorem n_195_199 : ∀ l, xpr 195 199 l = l := xpr_no (by decide +kernel)
theorem r_195_201 : xfetch 195 201 = some (.istore 5, 2) := by decide +kernel
theorem n_195_201 : ∀ l, xpr 195 201 l = l := xpr_no (by decide +kernel)
theorem r_195_203 : xfetch 195 203 = some (.iload_n 3, 1) := by decide +kernel
theorem n_195_203 : ∀ l, xpr 195 203 l = l := xpr_no (by decide +kernel)
theorem r_195_204 : xfetch 195 204 = some (.iload 12, 2) := by decide +kernel
theorem n_195_204 : ∀ l, xpr 195 204 l = l := xpr_no (by decide +kernel)
theorem r_195_206 : xfetch 195 206 = some (.ifCond .le 7, 3) := by decide +kernel
theorem n_195_206 : ∀ l, xpr 195 206 l = l := xpr_no (by decide +kernel)
theorem r_195_209 : xfetch 195 209 = some (.iconst 2, 1) := by decide +kernel
theorem n_195_209 : ∀ l, xpr 195 209 l = l := xpr_no (by decide +kernel)
theorem r_195_210 : xfetch 195 210 = some (.goto 23, 3) := by decide +kernel
theorem n_195_210 : ∀ l, xpr 195 210 l = l := xpr_no (by decide +kernel)
theorem r_195_213 : xfetch 195 213 = some (.aload_n 0, 1) := by decide +kernel
theorem n_195_213 : ∀ l, xpr 195 213 l = l := xpr_no (by decide +kernel)
theorem r_195_214 : xfetch 195 214 = some (.iload 9, 2) := by decide +kernel
theorem n_195_214 : ∀ l, xpr 195 214 l = l := xpr_no (by decide +kernel)
theorem r_195_216 : xfetch 195 216 = some (.invokevirtual 115, 3) := by decide +kernel
theorem n_195_216 : ∀ l, xpr 195 216 l = l := xpr_no (by decide +kernel)
theorem r_195_219 : xfetch 195 219 = some (.aload_n 0, 1) := by decide +kernel
theorem n_195_219 : ∀ l, xpr 195 219 l = l := xpr_no (by decide +kernel)
theorem r_195_220 : xfetch 195 220 = some (.getfield 7, 3) := by decide +kernel
theorem n_195_220 : ∀ l, xpr 195 220 l = l := xpr_no (by decide +kernel)
theorem r_195_223 : xfetch 195 223 = some (.iload_n 1, 1) := by decide +kernel
theorem n_195_223 : ∀ l, xpr 195 223 l = l := xpr_no (by decide +kernel)
theorem r_195_224 : xfetch 195 224 = some (.iload 8, 2) := by decide +kernel
theorem n_195_224 : ∀ l, xpr 195 224 l = l := xpr_no (by decide +kernel)
theorem r_195_226 : xfetch 195 226 = some (.invokestatic 102, 3) := by decide +kernel
theorem n_195_226 : ∀ l, xpr 195 226 l = l := xpr_no (by decide +kernel)
theorem r_195_229 : xfetch 195 229 = some (.iconst 2, 1) := by decide +kernel
theorem n_195_229 : ∀ l, xpr 195 229 l = l := xpr_no (by decide +kernel)
theorem r_195_230 : xfetch 195 230 = some (.iadd, 1) := by decide +kernel
theorem n_195_230 : ∀ l, xpr 195 230 l = l := xpr_no (by decide +kernel)
theorem r_195_231 : xfetch 195 231 = some (.iaload, 1) := by decide +kernel
theorem n_195_231 : ∀ l, xpr 195 231 l = l := xpr_no (by decide +kernel)
theorem r_195_232 : xfetch 195 232 = some (.imul, 1) := by decide +kernel
theorem n_195_232 : ∀ l, xpr 195 232 l = l := xpr_no (by decide +kernel)
theorem r_195_233 : xfetch 195 233 = some (.iadd, 1) := by decide +kernel
theorem n_195_233 : ∀ l, xpr 195 233 l = l := xpr_no (by decide +kernel)
theorem r_195_234 : xfetch 195 234 = some (.istore_n 3, 1) := by decide +kernel
theorem n_195_234 : ∀ l, xpr 195 234 l = l := xpr_no (by decide +kernel)
theorem r_195_235 : xfetch 195 235 = some (.iinc 7 1, 3) := by decide +kernel
theorem n_195_235 : ∀ l, xpr 195 235 l = l := xpr_no (by decide +kernel)
theorem r_195_238 : xfetch 195 238 = some (.goto (-214), 3) := by decide +kernel
theorem n_195_238 : ∀ l, xpr 195 238 l = l := xpr_no (by decide +kernel)
theorem r_195_241 : xfetch 195 241 = some (.aload_n 0, 1) := by decide +kernel
theorem n_195_241 : ∀ l, xpr 195 241 l = l := xpr_no (by decide +kernel)
theorem r_195_242 : xfetch 195 242 = some (.getfield 25, 3) := by decide +kernel
theorem n_195_242 : ∀ l, xpr 195 242 l = l := xpr_no (by decide +kernel)
theorem r_195_245 : xfetch 195 245 = some (.iload_n 1, 1) := by decide +kernel
theorem n_195_245 : ∀ l, xpr 195 245 l = l := xpr_no (by decide +kernel)
theorem r_195_246 : xfetch 195 246 = some (.iload 6, 2) := by decide +kernel
theorem n_195_246 : ∀ l, xpr 195 246 l = l := xpr_no (by decide +kernel)
theorem r_195_248 : xfetch 195 248 = some (.iastore, 1) := by decide +kernel
theorem n_195_248 : ∀ l, xpr 195 248 l = l := xpr_no (by decide +kernel)
theorem r_195_249 : xfetch 195 249 = some (.iload_n 3, 1) := by decide +kernel
theorem n_195_249 : ∀ l, xpr 195 249 l = l := xpr_no (by decide +kernel)
theorem r_195_250 : xfetch 195 250 = some (.iload 6, 2) := by decide +kernel
theorem n_195_250 : ∀ l, xpr 195 250 l = l := xpr_no (by decide +kernel)
theorem r_195_252 : xfetch 195 252 = some (.invokestatic 112, 3) := by decide +kernel
theorem n_195_252 : ∀ l, xpr 195 252 l = l := xpr_no (by decide +kernel)
theorem r_195_255 : xfetch 195 255 = some (.ireturn, 1) := by decide +kernel
theorem n_195_255 : ∀ l, xpr 195 255 l = l := xpr_no (by decide +kernel)
theorem v_Model_places_0 {S : Option (Nat × (Nat → Int32))} {s : zSt} {Q : Option Value ⊕ Nat → zSt → Prop} {x1 : Int} 
    (h : (0 ≤ (1 + (26 * x1)) ∧ (1 + (26 * x1)) < 1199) ∧ (wp S 195 24 [(0, rf 252), (1, iv x1), (2, iv (zI s 253 (1 + (26 * x1)))), (3, iv 0), (4, iv (-1)), (5, iv 0), (6, iv 1), (7, iv 0)] [] s Q)) :
    wp S 195 0 [(0, rf 252), (1, iv x1)] [] s Q := by
  refine i_aload_n (a := 252) r_195_0 (n_195_0 _) rfl ?_
  refine i_getR (a := 252) (b := 253) r_195_1 (n_195_1 _) rfl rfl rfl (by omega) lf_252 (by omega) ?_
  refine i_iload_n (x := x1) r_195_4 (n_195_4 _) rfl ?_
  refine wp_stat (rest := [rf 253]) (Ls := [(0, iv x1)]) r_195_5 (n_195_5 _) rfl ⟨rfl, by decide, by decide, by decide⟩ rfl rfl ⟨rfl, Nat.le_of_ble_eq_true rfl, Nat.le_of_ble_eq_true rfl⟩ rfl K_Model_record ?_
  rintro _ _ ⟨rfl, rfl⟩
  refine .inl ⟨some (iv (1 + (26 * x1))), rfl, ?_⟩
  show wp S 195 8 [(0, rf 252), (1, iv x1)] [iv (1 + (26 * x1)), rf 253] s Q
  obtain ⟨g2, h⟩ := h
  refine i_iaload (a := 253) (j := 1 + (26 * x1)) r_195_8 (n_195_8 _) lf_253 ⟨by omega, by omega⟩ (by omega) (by omega) (fun q3 => ?_)
  refine i_istore_n (l' := [(0, rf 252), (1, iv x1), (2, iv (zI s 253 (1 + (26 * x1))))]) r_195_9 (n_195_9 _) (by decide) rfl ?_
  refine i_iconst r_195_10 (n_195_10 _) ?_
  refine i_istore_n (l' := [(0, rf 252), (1, iv x1), (2, iv (zI s 253 (1 + (26 * x1)))), (3, iv 0)]) r_195_11 (n_195_11 _) (by decide) rfl ?_
  refine i_iconst r_195_12 (n_195_12 _) ?_
  refine i_istore (l' := [(0, rf 252), (1, iv x1), (2, iv (zI s 253 (1 + (26 * x1)))), (3, iv 0), (4, iv (-1))]) r_195_13 (n_195_13 _) (by decide) rfl ?_
  refine i_iconst r_195_15 (n_195_15 _) ?_
  refine i_istore (l' := [(0, rf 252), (1, iv x1), (2, iv (zI s 253 (1 + (26 * x1)))), (3, iv 0), (4, iv (-1)), (5, iv 0)]) r_195_16 (n_195_16 _) (by decide) rfl ?_
  refine i_iconst r_195_18 (n_195_18 _) ?_
  refine i_istore (l' := [(0, rf 252), (1, iv x1), (2, iv (zI s 253 (1 + (26 * x1)))), (3, iv 0), (4, iv (-1)), (5, iv 0), (6, iv 1)]) r_195_19 (n_195_19 _) (by decide) rfl ?_
  refine i_iconst r_195_21 (n_195_21 _) ?_
  refine i_istore (l' := [(0, rf 252), (1, iv x1), (2, iv (zI s 253 (1 + (26 * x1)))), (3, iv 0), (4, iv (-1)), (5, iv 0), (6, iv 1), (7, iv 0)]) r_195_22 (n_195_22 _) (by decide) rfl ?_
  exact wp_pr (l' := [(0, rf 252), (1, iv x1), (2, iv (zI s 253 (1 + (26 * x1)))), (3, iv 0), (4, iv (-1)), (5, iv 0), (6, iv 1), (7, iv 0)]) rfl h
theorem v_Model_places_24 {S : Option (Nat × (Nat → Int32))} {s : zSt} {Q : Option Value ⊕ Nat → zSt → Prop} {x1 : Int} {x2 : Int} {x3 : Int} {x4 : Int} {x5 : Int} {x6 : Int} {x7 : Int} 
    (h : (0 ≤ ((1 + (26 * x1)) + 1) ∧ ((1 + (26 * x1)) + 1) < 1199) ∧ (rng x7 ∧ (((zI s 253 ((1 + (26 * x1)) + 1)) ≤ x7 → (0 ≤ x1 ∧ x1 < 6) ∧ (rng x6 ∧ (rng (x3 + x6 - 1) ∧ ((0 ≤ x3 + x6 - 1) ∧ ((0 < x6) ∧ (Q (rI (zup x3 x6)) (zwI s 258 x1 x6))))))) ∧ (x7 < (zI s 253 ((1 + (26 * x1)) + 1)) → (0 ≤ x7 ∧ x7 < 8) ∧ ((0 ≤ ((((1 + (26 * x1)) + 2) + (3 * (zI s 265 x7))) + 1) ∧ ((((1 + (26 * x1)) + 2) + (3 * (zI s 265 x7))) + 1) < 1199) ∧ (((zI s 253 ((((1 + (26 * x1)) + 2) + (3 * (zI s 265 x7))) + 1)) < 106) ∧ (rng (zel (zI s 253 ((((1 + (26 * x1)) + 2) + (3 * (zI s 265 x7))) + 1)) (zI s 258 ((zI s 253 ((((1 + (26 * x1)) + 2) + (3 * (zI s 265 x7))) + 1)) - 100))) ∧ (rng x2 ∧ ((x2 ≤ (zel (zI s 253 ((((1 + (26 * x1)) + 2) + (3 * (zI s 265 x7))) + 1)) (zI s 258 ((zI s 253 ((((1 + (26 * x1)) + 2) + (3 * (zI s 265 x7))) + 1)) - 100))) → rng x6 ∧ ((x2 ≤ x6 → (¬ (21 ≤ (zI s 253 ((((1 + (26 * x1)) + 2) + (3 * (zI s 265 x7))) + 1)) ∧ (zI s 253 ((((1 + (26 * x1)) + 2) + (3 * (zI s 265 x7))) + 1)) ≤ 36) → wp S 195 113 [(0, rf 252), (1, iv x1), (2, iv x2), (3, iv x3), (4, iv x4), (5, iv x5), (6, iv x6), (7, iv x7), (8, iv (zI s 265 x7)), (9, iv (zI s 253 ((((1 + (26 * x1)) + 2) + (3 * (zI s 265 x7))) + 1))), (11, iv x2)] [iv 0] s Q) ∧ (21 ≤ (zI s 253 ((((1 + (26 * x1)) + 2) + (3 * (zI s 265 x7))) + 1)) ∧ (zI s 253 ((((1 + (26 * x1)) + 2) + (3 * (zI s 265 x7))) + 1)) ≤ 36 → wp S 195 113 [(0, rf 252), (1, iv x1), (2, iv x2), (3, iv x3), (4, iv x4), (5, iv x5), (6, iv x6), (7, iv x7), (8, iv (zI s 265 x7)), (9, iv (zI s 253 ((((1 + (26 * x1)) + 2) + (3 * (zI s 265 x7))) + 1))), (11, iv x2)] [iv ((zI s 253 ((((1 + (26 * x1)) + 2) + (3 * (zI s 265 x7))) + 1)) - 20)] s Q)) ∧ (x6 < x2 → (¬ (21 ≤ (zI s 253 ((((1 + (26 * x1)) + 2) + (3 * (zI s 265 x7))) + 1)) ∧ (zI s 253 ((((1 + (26 * x1)) + 2) + (3 * (zI s 265 x7))) + 1)) ≤ 36) → wp S 195 113 [(0, rf 252), (1, iv x1), (2, iv x2), (3, iv x3), (4, iv x4), (5, iv x5), (6, iv x2), (7, iv x7), (8, iv (zI s 265 x7)), (9, iv (zI s 253 ((((1 + (26 * x1)) + 2) + (3 * (zI s 265 x7))) + 1))), (11, iv x2)] [iv 0] s Q) ∧ (21 ≤ (zI s 253 ((((1 + (26 * x1)) + 2) + (3 * (zI s 265 x7))) + 1)) ∧ (zI s 253 ((((1 + (26 * x1)) + 2) + (3 * (zI s 265 x7))) + 1)) ≤ 36 → wp S 195 113 [(0, rf 252), (1, iv x1), (2, iv x2), (3, iv x3), (4, iv x4), (5, iv x5), (6, iv x2), (7, iv x7), (8, iv (zI s 265 x7)), (9, iv (zI s 253 ((((1 + (26 * x1)) + 2) + (3 * (zI s 265 x7))) + 1))), (11, iv x2)] [iv ((zI s 253 ((((1 + (26 * x1)) + 2) + (3 * (zI s 265 x7))) + 1)) - 20)] s Q)))) ∧ ((zel (zI s 253 ((((1 + (26 * x1)) + 2) + (3 * (zI s 265 x7))) + 1)) (zI s 258 ((zI s 253 ((((1 + (26 * x1)) + 2) + (3 * (zI s 265 x7))) + 1)) - 100))) < x2 → rng x6 ∧ (((zel (zI s 253 ((((1 + (26 * x1)) + 2) + (3 * (zI s 265 x7))) + 1)) (zI s 258 ((zI s 253 ((((1 + (26 * x1)) + 2) + (3 * (zI s 265 x7))) + 1)) - 100))) ≤ x6 → (¬ (21 ≤ (zI s 253 ((((1 + (26 * x1)) + 2) + (3 * (zI s 265 x7))) + 1)) ∧ (zI s 253 ((((1 + (26 * x1)) + 2) + (3 * (zI s 265 x7))) + 1)) ≤ 36) → wp S 195 113 [(0, rf 252), (1, iv x1), (2, iv x2), (3, iv x3), (4, iv x4), (5, iv x5), (6, iv x6), (7, iv x7), (8, iv (zI s 265 x7)), (9, iv (zI s 253 ((((1 + (26 * x1)) + 2) + (3 * (zI s 265 x7))) + 1))), (11, iv (zel (zI s 253 ((((1 + (26 * x1)) + 2) + (3 * (zI s 265 x7))) + 1)) (zI s 258 ((zI s 253 ((((1 + (26 * x1)) + 2) + (3 * (zI s 265 x7))) + 1)) - 100))))] [iv 0] s Q) ∧ (21 ≤ (zI s 253 ((((1 + (26 * x1)) + 2) + (3 * (zI s 265 x7))) + 1)) ∧ (zI s 253 ((((1 + (26 * x1)) + 2) + (3 * (zI s 265 x7))) + 1)) ≤ 36 → wp S 195 113 [(0, rf 252), (1, iv x1), (2, iv x2), (3, iv x3), (4, iv x4), (5, iv x5), (6, iv x6), (7, iv x7), (8, iv (zI s 265 x7)), (9, iv (zI s 253 ((((1 + (26 * x1)) + 2) + (3 * (zI s 265 x7))) + 1))), (11, iv (zel (zI s 253 ((((1 + (26 * x1)) + 2) + (3 * (zI s 265 x7))) + 1)) (zI s 258 ((zI s 253 ((((1 + (26 * x1)) + 2) + (3 * (zI s 265 x7))) + 1)) - 100))))] [iv ((zI s 253 ((((1 + (26 * x1)) + 2) + (3 * (zI s 265 x7))) + 1)) - 20)] s Q)) ∧ (x6 < (zel (zI s 253 ((((1 + (26 * x1)) + 2) + (3 * (zI s 265 x7))) + 1)) (zI s 258 ((zI s 253 ((((1 + (26 * x1)) + 2) + (3 * (zI s 265 x7))) + 1)) - 100))) → (¬ (21 ≤ (zI s 253 ((((1 + (26 * x1)) + 2) + (3 * (zI s 265 x7))) + 1)) ∧ (zI s 253 ((((1 + (26 * x1)) + 2) + (3 * (zI s 265 x7))) + 1)) ≤ 36) → wp S 195 113 [(0, rf 252), (1, iv x1), (2, iv x2), (3, iv x3), (4, iv x4), (5, iv x5), (6, iv (zel (zI s 253 ((((1 + (26 * x1)) + 2) + (3 * (zI s 265 x7))) + 1)) (zI s 258 ((zI s 253 ((((1 + (26 * x1)) + 2) + (3 * (zI s 265 x7))) + 1)) - 100)))), (7, iv x7), (8, iv (zI s 265 x7)), (9, iv (zI s 253 ((((1 + (26 * x1)) + 2) + (3 * (zI s 265 x7))) + 1))), (11, iv (zel (zI s 253 ((((1 + (26 * x1)) + 2) + (3 * (zI s 265 x7))) + 1)) (zI s 258 ((zI s 253 ((((1 + (26 * x1)) + 2) + (3 * (zI s 265 x7))) + 1)) - 100))))] [iv 0] s Q) ∧ (21 ≤ (zI s 253 ((((1 + (26 * x1)) + 2) + (3 * (zI s 265 x7))) + 1)) ∧ (zI s 253 ((((1 + (26 * x1)) + 2) + (3 * (zI s 265 x7))) + 1)) ≤ 36 → wp S 195 113 [(0, rf 252), (1, iv x1), (2, iv x2), (3, iv x3), (4, iv x4), (5, iv x5), (6, iv (zel (zI s 253 ((((1 + (26 * x1)) + 2) + (3 * (zI s 265 x7))) + 1)) (zI s 258 ((zI s 253 ((((1 + (26 * x1)) + 2) + (3 * (zI s 265 x7))) + 1)) - 100)))), (7, iv x7), (8, iv (zI s 265 x7)), (9, iv (zI s 253 ((((1 + (26 * x1)) + 2) + (3 * (zI s 265 x7))) + 1))), (11, iv (zel (zI s 253 ((((1 + (26 * x1)) + 2) + (3 * (zI s 265 x7))) + 1)) (zI s 258 ((zI s 253 ((((1 + (26 * x1)) + 2) + (3 * (zI s 265 x7))) + 1)) - 100))))] [iv ((zI s 253 ((((1 + (26 * x1)) + 2) + (3 * (zI s 265 x7))) + 1)) - 20)] s Q))))))))))))) :
    wp S 195 24 [(0, rf 252), (1, iv x1), (2, iv x2), (3, iv x3), (4, iv x4), (5, iv x5), (6, iv x6), (7, iv x7)] [] s Q := by
  refine i_iload (x := x7) r_195_24 rfl rfl ?_
  refine i_aload_n (a := 252) r_195_26 (n_195_26 _) rfl ?_
  refine i_iload_n (x := x1) r_195_27 (n_195_27 _) rfl ?_
  obtain ⟨g1, h⟩ := h
  refine wp_virt (b := 252) (rest := [iv x7]) (Ls := [(0, rf 252), (1, iv x1)]) r_195_28 (n_195_28 _) rfl ⟨rfl, rfl, by decide, by decide⟩ rfl rfl lf_252 ⟨rfl, Nat.le_of_ble_eq_true rfl, Nat.le_of_ble_eq_true rfl⟩ rfl (K_Model_fieldsOf g1) ?_
  rintro _ _ ⟨rfl, rfl⟩
  refine .inl ⟨some (iv (zI s 253 ((1 + (26 * x1)) + 1))), rfl, ?_⟩
  show wp S 195 31 [(0, rf 252), (1, iv x1), (2, iv x2), (3, iv x3), (4, iv x4), (5, iv x5), (6, iv x6), (7, iv x7)] [iv (zI s 253 ((1 + (26 * x1)) + 1)), iv x7] s Q
  refine wp_rd (a := 253) (j := ((1 + (26 * x1)) + 1)) (fun q3 => ?_)
  obtain ⟨g4, h⟩ := h
  refine i_icmp (t := 241) r_195_31 (n_195_31 _) rfl (T_ge g4 q3) (fun c5 => ?_) (fun c5 => ?_)
  · replace h := h.1 c5
    refine i_aload_n (a := 252) r_195_241 (n_195_241 _) rfl ?_
    refine i_getR (a := 252) (b := 258) r_195_242 (n_195_242 _) rfl rfl rfl (by omega) lf_252 (by omega) ?_
    refine i_iload_n (x := x1) r_195_245 (n_195_245 _) rfl ?_
    refine i_iload (x := x6) r_195_246 (n_195_246 _) rfl ?_
    obtain ⟨g6, h⟩ := h
    obtain ⟨g7, h⟩ := h
    refine i_iastore (a := 258) (j := x1) (x := x6) r_195_248 (n_195_248 _) lf_258 ⟨by omega, by omega⟩ (by omega) (by omega) g7 ?_
    refine i_iload_n (x := x3) r_195_249 (n_195_249 _) rfl ?_
    refine i_iload (x := x6) r_195_250 (n_195_250 _) rfl ?_
    obtain ⟨g8, h⟩ := h
    obtain ⟨g9, h⟩ := h
    obtain ⟨g10, h⟩ := h
    refine wp_stat (rest := []) (Ls := [(0, iv x3), (1, iv x6)]) r_195_252 (n_195_252 _) rfl ⟨rfl, by decide, by decide, by decide⟩ rfl rfl ⟨rfl, Nat.le_of_ble_eq_true rfl, Nat.le_of_ble_eq_true rfl⟩ rfl (K_Model_up g8 g7 g9 g10) ?_
    rintro _ _ ⟨rfl, rfl⟩
    refine .inl ⟨some (iv (zup x3 x6)), rfl, ?_⟩
    show wp S 195 255 [(0, rf 252), (1, iv x1), (2, iv x2), (3, iv x3), (4, iv x4), (5, iv x5), (6, iv x6), (7, iv x7)] [iv (zup x3 x6)] (zwI s 258 x1 x6) Q
    exact i_ireturn r_195_255 (n_195_255 _) rfl h
  · replace h := h.2 c5
    refine i_aload_n (a := 252) r_195_34 (n_195_34 _) rfl ?_
    refine i_getR (a := 252) (b := 265) r_195_35 (n_195_35 _) rfl rfl rfl (by omega) lf_252 (by omega) ?_
    refine i_iload (x := x7) r_195_38 (n_195_38 _) rfl ?_
    obtain ⟨g12, h⟩ := h
    refine i_iaload (a := 265) (j := x7) r_195_40 (n_195_40 _) lf_265 ⟨by omega, by omega⟩ (by omega) (by omega) (fun q13 => ?_)
    refine i_istore (l' := [(0, rf 252), (1, iv x1), (2, iv x2), (3, iv x3), (4, iv x4), (5, iv x5), (6, iv x6), (7, iv x7), (8, iv (zI s 265 x7))]) r_195_41 (n_195_41 _) (by decide) rfl ?_
    refine i_aload_n (a := 252) r_195_43 (n_195_43 _) rfl ?_
    refine i_getR (a := 252) (b := 253) r_195_44 (n_195_44 _) rfl rfl rfl (by omega) lf_252 (by omega) ?_
    refine i_iload_n (x := x1) r_195_47 (n_195_47 _) rfl ?_
    refine i_iload (x := zI s 265 x7) r_195_48 (n_195_48 _) rfl ?_
    refine wp_stat (rest := [rf 253]) (Ls := [(0, iv x1), (1, iv (zI s 265 x7))]) r_195_50 (n_195_50 _) rfl ⟨rfl, by decide, by decide, by decide⟩ rfl rfl ⟨rfl, Nat.le_of_ble_eq_true rfl, Nat.le_of_ble_eq_true rfl⟩ rfl K_Model_field ?_
    rintro _ _ ⟨rfl, rfl⟩
    refine .inl ⟨some (iv (((1 + (26 * x1)) + 2) + (3 * (zI s 265 x7)))), rfl, ?_⟩
    show wp S 195 53 [(0, rf 252), (1, iv x1), (2, iv x2), (3, iv x3), (4, iv x4), (5, iv x5), (6, iv x6), (7, iv x7), (8, iv (zI s 265 x7))] [iv (((1 + (26 * x1)) + 2) + (3 * (zI s 265 x7))), rf 253] s Q
    refine i_iconst r_195_53 (n_195_53 _) ?_
    refine i_iadd r_195_54 (n_195_54 _) ?_
    obtain ⟨g15, h⟩ := h
    refine i_iaload (a := 253) (j := (((1 + (26 * x1)) + 2) + (3 * (zI s 265 x7))) + 1) r_195_55 (n_195_55 _) lf_253 ⟨by omega, by omega⟩ (by omega) (by omega) (fun q16 => ?_)
    refine i_istore (l' := [(0, rf 252), (1, iv x1), (2, iv x2), (3, iv x3), (4, iv x4), (5, iv x5), (6, iv x6), (7, iv x7), (8, iv (zI s 265 x7)), (9, iv (zI s 253 ((((1 + (26 * x1)) + 2) + (3 * (zI s 265 x7))) + 1)))]) r_195_56 (n_195_56 _) (by decide) rfl ?_
    refine i_aload_n (a := 252) r_195_58 (n_195_58 _) rfl ?_
    refine i_iload (x := zI s 253 ((((1 + (26 * x1)) + 2) + (3 * (zI s 265 x7))) + 1)) r_195_59 (n_195_59 _) rfl ?_
    obtain ⟨g17, h⟩ := h
    refine wp_virt (b := 252) (rest := []) (Ls := [(0, rf 252), (1, iv (zI s 253 ((((1 + (26 * x1)) + 2) + (3 * (zI s 265 x7))) + 1)))]) r_195_61 (n_195_61 _) rfl ⟨rfl, rfl, by decide, by decide⟩ rfl rfl lf_252 ⟨rfl, Nat.le_of_ble_eq_true rfl, Nat.le_of_ble_eq_true rfl⟩ rfl (K_Model_naturalAlign q16 g17) ?_
    rintro _ _ ⟨rfl, rfl⟩
    refine .inl ⟨some (iv (zel (zI s 253 ((((1 + (26 * x1)) + 2) + (3 * (zI s 265 x7))) + 1)) (zI s 258 ((zI s 253 ((((1 + (26 * x1)) + 2) + (3 * (zI s 265 x7))) + 1)) - 100)))), rfl, ?_⟩
    show wp S 195 64 [(0, rf 252), (1, iv x1), (2, iv x2), (3, iv x3), (4, iv x4), (5, iv x5), (6, iv x6), (7, iv x7), (8, iv (zI s 265 x7)), (9, iv (zI s 253 ((((1 + (26 * x1)) + 2) + (3 * (zI s 265 x7))) + 1)))] [iv (zel (zI s 253 ((((1 + (26 * x1)) + 2) + (3 * (zI s 265 x7))) + 1)) (zI s 258 ((zI s 253 ((((1 + (26 * x1)) + 2) + (3 * (zI s 265 x7))) + 1)) - 100)))] s Q
    refine i_istore (l' := [(0, rf 252), (1, iv x1), (2, iv x2), (3, iv x3), (4, iv x4), (5, iv x5), (6, iv x6), (7, iv x7), (8, iv (zI s 265 x7)), (9, iv (zI s 253 ((((1 + (26 * x1)) + 2) + (3 * (zI s 265 x7))) + 1))), (10, iv (zel (zI s 253 ((((1 + (26 * x1)) + 2) + (3 * (zI s 265 x7))) + 1)) (zI s 258 ((zI s 253 ((((1 + (26 * x1)) + 2) + (3 * (zI s 265 x7))) + 1)) - 100))))]) r_195_64 (n_195_64 _) (by decide) rfl ?_
    refine i_iload (x := zel (zI s 253 ((((1 + (26 * x1)) + 2) + (3 * (zI s 265 x7))) + 1)) (zI s 258 ((zI s 253 ((((1 + (26 * x1)) + 2) + (3 * (zI s 265 x7))) + 1)) - 100))) r_195_66 (n_195_66 _) rfl ?_
    refine i_iload_n (x := x2) r_195_68 (n_195_68 _) rfl ?_
    obtain ⟨g19, h⟩ := h
    obtain ⟨g20, h⟩ := h
    refine i_icmp (t := 77) r_195_69 (n_195_69 _) rfl (T_ge g19 g20) (fun c21 => ?_) (fun c21 => ?_)
    · replace h := h.1 c21
      refine i_iload_n (x := x2) r_195_77 (n_195_77 _) rfl ?_
      refine i_istore (l' := [(0, rf 252), (1, iv x1), (2, iv x2), (3, iv x3), (4, iv x4), (5, iv x5), (6, iv x6), (7, iv x7), (8, iv (zI s 265 x7)), (9, iv (zI s 253 ((((1 + (26 * x1)) + 2) + (3 * (zI s 265 x7))) + 1))), (10, iv (zel (zI s 253 ((((1 + (26 * x1)) + 2) + (3 * (zI s 265 x7))) + 1)) (zI s 258 ((zI s 253 ((((1 + (26 * x1)) + 2) + (3 * (zI s 265 x7))) + 1)) - 100)))), (11, iv x2)]) r_195_78 (n_195_78 _) (by decide) rfl ?_
      refine i_iload (x := x2) r_195_80 (n_195_80 _) rfl ?_
      refine i_iload (x := x6) r_195_82 (n_195_82 _) rfl ?_
      obtain ⟨g22, h⟩ := h
      refine i_icmp (t := 92) r_195_84 (n_195_84 _) rfl (T_le g20 g22) (fun c23 => ?_) (fun c23 => ?_)
      · replace h := h.1 c23
        refine i_iload (x := x6) r_195_92 (n_195_92 _) rfl ?_
        refine i_istore (l' := [(0, rf 252), (1, iv x1), (2, iv x2), (3, iv x3), (4, iv x4), (5, iv x5), (6, iv x6), (7, iv x7), (8, iv (zI s 265 x7)), (9, iv (zI s 253 ((((1 + (26 * x1)) + 2) + (3 * (zI s 265 x7))) + 1))), (10, iv (zel (zI s 253 ((((1 + (26 * x1)) + 2) + (3 * (zI s 265 x7))) + 1)) (zI s 258 ((zI s 253 ((((1 + (26 * x1)) + 2) + (3 * (zI s 265 x7))) + 1)) - 100)))), (11, iv x2)]) r_195_94 (n_195_94 _) (by decide) rfl ?_
        refine i_iload (x := zI s 253 ((((1 + (26 * x1)) + 2) + (3 * (zI s 265 x7))) + 1)) r_195_96 (n_195_96 _) rfl ?_
        refine wp_stat (rest := []) (Ls := [(0, iv (zI s 253 ((((1 + (26 * x1)) + 2) + (3 * (zI s 265 x7))) + 1)))]) r_195_98 (n_195_98 _) rfl ⟨rfl, by decide, by decide, by decide⟩ rfl rfl ⟨rfl, Nat.le_of_ble_eq_true rfl, Nat.le_of_ble_eq_true rfl⟩ rfl (K_Model_isBits q16) ?_
        rintro _ _ ⟨rfl, rfl⟩
        refine .inl ⟨some (iv (bi (21 ≤ (zI s 253 ((((1 + (26 * x1)) + 2) + (3 * (zI s 265 x7))) + 1)) ∧ (zI s 253 ((((1 + (26 * x1)) + 2) + (3 * (zI s 265 x7))) + 1)) ≤ 36))), rfl, ?_⟩
        show wp S 195 101 [(0, rf 252), (1, iv x1), (2, iv x2), (3, iv x3), (4, iv x4), (5, iv x5), (6, iv x6), (7, iv x7), (8, iv (zI s 265 x7)), (9, iv (zI s 253 ((((1 + (26 * x1)) + 2) + (3 * (zI s 265 x7))) + 1))), (10, iv (zel (zI s 253 ((((1 + (26 * x1)) + 2) + (3 * (zI s 265 x7))) + 1)) (zI s 258 ((zI s 253 ((((1 + (26 * x1)) + 2) + (3 * (zI s 265 x7))) + 1)) - 100)))), (11, iv x2)] [iv (bi (21 ≤ (zI s 253 ((((1 + (26 * x1)) + 2) + (3 * (zI s 265 x7))) + 1)) ∧ (zI s 253 ((((1 + (26 * x1)) + 2) + (3 * (zI s 265 x7))) + 1)) ≤ 36))] s Q
        refine i_if (t := 112) r_195_101 (n_195_101 _) rfl (TB_eq) (fun c25 => ?_) (fun c25 => ?_)
        · replace h := h.1 c25
          refine i_iconst r_195_112 (n_195_112 _) ?_
          exact wp_pr (l' := [(0, rf 252), (1, iv x1), (2, iv x2), (3, iv x3), (4, iv x4), (5, iv x5), (6, iv x6), (7, iv x7), (8, iv (zI s 265 x7)), (9, iv (zI s 253 ((((1 + (26 * x1)) + 2) + (3 * (zI s 265 x7))) + 1))), (11, iv x2)]) rfl h
        · replace h := h.2 c25
          refine i_iload (x := zI s 253 ((((1 + (26 * x1)) + 2) + (3 * (zI s 265 x7))) + 1)) r_195_104 (n_195_104 _) rfl ?_
          refine i_bipush r_195_106 (n_195_106 _) rfl ?_
          refine i_isub r_195_108 (n_195_108 _) ?_
          refine i_goto (t := 113) r_195_109 (n_195_109 _) rfl ?_
          exact wp_pr (l' := [(0, rf 252), (1, iv x1), (2, iv x2), (3, iv x3), (4, iv x4), (5, iv x5), (6, iv x6), (7, iv x7), (8, iv (zI s 265 x7)), (9, iv (zI s 253 ((((1 + (26 * x1)) + 2) + (3 * (zI s 265 x7))) + 1))), (11, iv x2)]) rfl h
      · replace h := h.2 c23
        refine i_iload (x := x2) r_195_87 (n_195_87 _) rfl ?_
        refine i_goto (t := 94) r_195_89 (n_195_89 _) rfl ?_
        refine i_istore (l' := [(0, rf 252), (1, iv x1), (2, iv x2), (3, iv x3), (4, iv x4), (5, iv x5), (6, iv x2), (7, iv x7), (8, iv (zI s 265 x7)), (9, iv (zI s 253 ((((1 + (26 * x1)) + 2) + (3 * (zI s 265 x7))) + 1))), (10, iv (zel (zI s 253 ((((1 + (26 * x1)) + 2) + (3 * (zI s 265 x7))) + 1)) (zI s 258 ((zI s 253 ((((1 + (26 * x1)) + 2) + (3 * (zI s 265 x7))) + 1)) - 100)))), (11, iv x2)]) r_195_94 (n_195_94 _) (by decide) rfl ?_
        refine i_iload (x := zI s 253 ((((1 + (26 * x1)) + 2) + (3 * (zI s 265 x7))) + 1)) r_195_96 (n_195_96 _) rfl ?_
        refine wp_stat (rest := []) (Ls := [(0, iv (zI s 253 ((((1 + (26 * x1)) + 2) + (3 * (zI s 265 x7))) + 1)))]) r_195_98 (n_195_98 _) rfl ⟨rfl, by decide, by decide, by decide⟩ rfl rfl ⟨rfl, Nat.le_of_ble_eq_true rfl, Nat.le_of_ble_eq_true rfl⟩ rfl (K_Model_isBits q16) ?_
        rintro _ _ ⟨rfl, rfl⟩
        refine .inl ⟨some (iv (bi (21 ≤ (zI s 253 ((((1 + (26 * x1)) + 2) + (3 * (zI s 265 x7))) + 1)) ∧ (zI s 253 ((((1 + (26 * x1)) + 2) + (3 * (zI s 265 x7))) + 1)) ≤ 36))), rfl, ?_⟩
        show wp S 195 101 [(0, rf 252), (1, iv x1), (2, iv x2), (3, iv x3), (4, iv x4), (5, iv x5), (6, iv x2), (7, iv x7), (8, iv (zI s 265 x7)), (9, iv (zI s 253 ((((1 + (26 * x1)) + 2) + (3 * (zI s 265 x7))) + 1))), (10, iv (zel (zI s 253 ((((1 + (26 * x1)) + 2) + (3 * (zI s 265 x7))) + 1)) (zI s 258 ((zI s 253 ((((1 + (26 * x1)) + 2) + (3 * (zI s 265 x7))) + 1)) - 100)))), (11, iv x2)] [iv (bi (21 ≤ (zI s 253 ((((1 + (26 * x1)) + 2) + (3 * (zI s 265 x7))) + 1)) ∧ (zI s 253 ((((1 + (26 * x1)) + 2) + (3 * (zI s 265 x7))) + 1)) ≤ 36))] s Q
        refine i_if (t := 112) r_195_101 (n_195_101 _) rfl (TB_eq) (fun c27 => ?_) (fun c27 => ?_)
        · replace h := h.1 c27
          refine i_iconst r_195_112 (n_195_112 _) ?_
          exact wp_pr (l' := [(0, rf 252), (1, iv x1), (2, iv x2), (3, iv x3), (4, iv x4), (5, iv x5), (6, iv x2), (7, iv x7), (8, iv (zI s 265 x7)), (9, iv (zI s 253 ((((1 + (26 * x1)) + 2) + (3 * (zI s 265 x7))) + 1))), (11, iv x2)]) rfl h
        · replace h := h.2 c27
          refine i_iload (x := zI s 253 ((((1 + (26 * x1)) + 2) + (3 * (zI s 265 x7))) + 1)) r_195_104 (n_195_104 _) rfl ?_
          refine i_bipush r_195_106 (n_195_106 _) rfl ?_
          refine i_isub r_195_108 (n_195_108 _) ?_
          refine i_goto (t := 113) r_195_109 (n_195_109 _) rfl ?_
          exact wp_pr (l' := [(0, rf 252), (1, iv x1), (2, iv x2), (3, iv x3), (4, iv x4), (5, iv x5), (6, iv x2), (7, iv x7), (8, iv (zI s 265 x7)), (9, iv (zI s 253 ((((1 + (26 * x1)) + 2) + (3 * (zI s 265 x7))) + 1))), (11, iv x2)]) rfl h
    · replace h := h.2 c21
      refine i_iload (x := zel (zI s 253 ((((1 + (26 * x1)) + 2) + (3 * (zI s 265 x7))) + 1)) (zI s 258 ((zI s 253 ((((1 + (26 * x1)) + 2) + (3 * (zI s 265 x7))) + 1)) - 100))) r_195_72 (n_195_72 _) rfl ?_
      refine i_goto (t := 78) r_195_74 (n_195_74 _) rfl ?_
      refine i_istore (l' := [(0, rf 252), (1, iv x1), (2, iv x2), (3, iv x3), (4, iv x4), (5, iv x5), (6, iv x6), (7, iv x7), (8, iv (zI s 265 x7)), (9, iv (zI s 253 ((((1 + (26 * x1)) + 2) + (3 * (zI s 265 x7))) + 1))), (10, iv (zel (zI s 253 ((((1 + (26 * x1)) + 2) + (3 * (zI s 265 x7))) + 1)) (zI s 258 ((zI s 253 ((((1 + (26 * x1)) + 2) + (3 * (zI s 265 x7))) + 1)) - 100)))), (11, iv (zel (zI s 253 ((((1 + (26 * x1)) + 2) + (3 * (zI s 265 x7))) + 1)) (zI s 258 ((zI s 253 ((((1 + (26 * x1)) + 2) + (3 * (zI s 265 x7))) + 1)) - 100))))]) r_195_78 (n_195_78 _) (by decide) rfl ?_
      refine i_iload (x := zel (zI s 253 ((((1 + (26 * x1)) + 2) + (3 * (zI s 265 x7))) + 1)) (zI s 258 ((zI s 253 ((((1 + (26 * x1)) + 2) + (3 * (zI s 265 x7))) + 1)) - 100))) r_195_80 (n_195_80 _) rfl ?_
      refine i_iload (x := x6) r_195_82 (n_195_82 _) rfl ?_
      obtain ⟨g28, h⟩ := h
      refine i_icmp (t := 92) r_195_84 (n_195_84 _) rfl (T_le g19 g28) (fun c29 => ?_) (fun c29 => ?_)
      · replace h := h.1 c29
        refine i_iload (x := x6) r_195_92 (n_195_92 _) rfl ?_
        refine i_istore (l' := [(0, rf 252), (1, iv x1), (2, iv x2), (3, iv x3), (4, iv x4), (5, iv x5), (6, iv x6), (7, iv x7), (8, iv (zI s 265 x7)), (9, iv (zI s 253 ((((1 + (26 * x1)) + 2) + (3 * (zI s 265 x7))) + 1))), (10, iv (zel (zI s 253 ((((1 + (26 * x1)) + 2) + (3 * (zI s 265 x7))) + 1)) (zI s 258 ((zI s 253 ((((1 + (26 * x1)) + 2) + (3 * (zI s 265 x7))) + 1)) - 100)))), (11, iv (zel (zI s 253 ((((1 + (26 * x1)) + 2) + (3 * (zI s 265 x7))) + 1)) (zI s 258 ((zI s 253 ((((1 + (26 * x1)) + 2) + (3 * (zI s 265 x7))) + 1)) - 100))))]) r_195_94 (n_195_94 _) (by decide) rfl ?_
        refine i_iload (x := zI s 253 ((((1 + (26 * x1)) + 2) + (3 * (zI s 265 x7))) + 1)) r_195_96 (n_195_96 _) rfl ?_
        refine wp_stat (rest := []) (Ls := [(0, iv (zI s 253 ((((1 + (26 * x1)) + 2) + (3 * (zI s 265 x7))) + 1)))]) r_195_98 (n_195_98 _) rfl ⟨rfl, by decide, by decide, by decide⟩ rfl rfl ⟨rfl, Nat.le_of_ble_eq_true rfl, Nat.le_of_ble_eq_true rfl⟩ rfl (K_Model_isBits q16) ?_
        rintro _ _ ⟨rfl, rfl⟩
        refine .inl ⟨some (iv (bi (21 ≤ (zI s 253 ((((1 + (26 * x1)) + 2) + (3 * (zI s 265 x7))) + 1)) ∧ (zI s 253 ((((1 + (26 * x1)) + 2) + (3 * (zI s 265 x7))) + 1)) ≤ 36))), rfl, ?_⟩
        show wp S 195 101 [(0, rf 252), (1, iv x1), (2, iv x2), (3, iv x3), (4, iv x4), (5, iv x5), (6, iv x6), (7, iv x7), (8, iv (zI s 265 x7)), (9, iv (zI s 253 ((((1 + (26 * x1)) + 2) + (3 * (zI s 265 x7))) + 1))), (10, iv (zel (zI s 253 ((((1 + (26 * x1)) + 2) + (3 * (zI s 265 x7))) + 1)) (zI s 258 ((zI s 253 ((((1 + (26 * x1)) + 2) + (3 * (zI s 265 x7))) + 1)) - 100)))), (11, iv (zel (zI s 253 ((((1 + (26 * x1)) + 2) + (3 * (zI s 265 x7))) + 1)) (zI s 258 ((zI s 253 ((((1 + (26 * x1)) + 2) + (3 * (zI s 265 x7))) + 1)) - 100))))] [iv (bi (21 ≤ (zI s 253 ((((1 + (26 * x1)) + 2) + (3 * (zI s 265 x7))) + 1)) ∧ (zI s 253 ((((1 + (26 * x1)) + 2) + (3 * (zI s 265 x7))) + 1)) ≤ 36))] s Q
        refine i_if (t := 112) r_195_101 (n_195_101 _) rfl (TB_eq) (fun c31 => ?_) (fun c31 => ?_)
        · replace h := h.1 c31
          refine i_iconst r_195_112 (n_195_112 _) ?_
          exact wp_pr (l' := [(0, rf 252), (1, iv x1), (2, iv x2), (3, iv x3), (4, iv x4), (5, iv x5), (6, iv x6), (7, iv x7), (8, iv (zI s 265 x7)), (9, iv (zI s 253 ((((1 + (26 * x1)) + 2) + (3 * (zI s 265 x7))) + 1))), (11, iv (zel (zI s 253 ((((1 + (26 * x1)) + 2) + (3 * (zI s 265 x7))) + 1)) (zI s 258 ((zI s 253 ((((1 + (26 * x1)) + 2) + (3 * (zI s 265 x7))) + 1)) - 100))))]) rfl h
        · replace h := h.2 c31
          refine i_iload (x := zI s 253 ((((1 + (26 * x1)) + 2) + (3 * (zI s 265 x7))) + 1)) r_195_104 (n_195_104 _) rfl ?_
          refine i_bipush r_195_106 (n_195_106 _) rfl ?_
          refine i_isub r_195_108 (n_195_108 _) ?_
          refine i_goto (t := 113) r_195_109 (n_195_109 _) rfl ?_
          exact wp_pr (l' := [(0, rf 252), (1, iv x1), (2, iv x2), (3, iv x3), (4, iv x4), (5, iv x5), (6, iv x6), (7, iv x7), (8, iv (zI s 265 x7)), (9, iv (zI s 253 ((((1 + (26 * x1)) + 2) + (3 * (zI s 265 x7))) + 1))), (11, iv (zel (zI s 253 ((((1 + (26 * x1)) + 2) + (3 * (zI s 265 x7))) + 1)) (zI s 258 ((zI s 253 ((((1 + (26 * x1)) + 2) + (3 * (zI s 265 x7))) + 1)) - 100))))]) rfl h
      · replace h := h.2 c29
        refine i_iload (x := zel (zI s 253 ((((1 + (26 * x1)) + 2) + (3 * (zI s 265 x7))) + 1)) (zI s 258 ((zI s 253 ((((1 + (26 * x1)) + 2) + (3 * (zI s 265 x7))) + 1)) - 100))) r_195_87 (n_195_87 _) rfl ?_
        refine i_goto (t := 94) r_195_89 (n_195_89 _) rfl ?_
        refine i_istore (l' := [(0, rf 252), (1, iv x1), (2, iv x2), (3, iv x3), (4, iv x4), (5, iv x5), (6, iv (zel (zI s 253 ((((1 + (26 * x1)) + 2) + (3 * (zI s 265 x7))) + 1)) (zI s 258 ((zI s 253 ((((1 + (26 * x1)) + 2) + (3 * (zI s 265 x7))) + 1)) - 100)))), (7, iv x7), (8, iv (zI s 265 x7)), (9, iv (zI s 253 ((((1 + (26 * x1)) + 2) + (3 * (zI s 265 x7))) + 1))), (10, iv (zel (zI s 253 ((((1 + (26 * x1)) + 2) + (3 * (zI s 265 x7))) + 1)) (zI s 258 ((zI s 253 ((((1 + (26 * x1)) + 2) + (3 * (zI s 265 x7))) + 1)) - 100)))), (11, iv (zel (zI s 253 ((((1 + (26 * x1)) + 2) + (3 * (zI s 265 x7))) + 1)) (zI s 258 ((zI s 253 ((((1 + (26 * x1)) + 2) + (3 * (zI s 265 x7))) + 1)) - 100))))]) r_195_94 (n_195_94 _) (by decide) rfl ?_
        refine i_iload (x := zI s 253 ((((1 + (26 * x1)) + 2) + (3 * (zI s 265 x7))) + 1)) r_195_96 (n_195_96 _) rfl ?_
        refine wp_stat (rest := []) (Ls := [(0, iv (zI s 253 ((((1 + (26 * x1)) + 2) + (3 * (zI s 265 x7))) + 1)))]) r_195_98 (n_195_98 _) rfl ⟨rfl, by decide, by decide, by decide⟩ rfl rfl ⟨rfl, Nat.le_of_ble_eq_true rfl, Nat.le_of_ble_eq_true rfl⟩ rfl (K_Model_isBits q16) ?_
        rintro _ _ ⟨rfl, rfl⟩
        refine .inl ⟨some (iv (bi (21 ≤ (zI s 253 ((((1 + (26 * x1)) + 2) + (3 * (zI s 265 x7))) + 1)) ∧ (zI s 253 ((((1 + (26 * x1)) + 2) + (3 * (zI s 265 x7))) + 1)) ≤ 36))), rfl, ?_⟩
        show wp S 195 101 [(0, rf 252), (1, iv x1), (2, iv x2), (3, iv x3), (4, iv x4), (5, iv x5), (6, iv (zel (zI s 253 ((((1 + (26 * x1)) + 2) + (3 * (zI s 265 x7))) + 1)) (zI s 258 ((zI s 253 ((((1 + (26 * x1)) + 2) + (3 * (zI s 265 x7))) + 1)) - 100)))), (7, iv x7), (8, iv (zI s 265 x7)), (9, iv (zI s 253 ((((1 + (26 * x1)) + 2) + (3 * (zI s 265 x7))) + 1))), (10, iv (zel (zI s 253 ((((1 + (26 * x1)) + 2) + (3 * (zI s 265 x7))) + 1)) (zI s 258 ((zI s 253 ((((1 + (26 * x1)) + 2) + (3 * (zI s 265 x7))) + 1)) - 100)))), (11, iv (zel (zI s 253 ((((1 + (26 * x1)) + 2) + (3 * (zI s 265 x7))) + 1)) (zI s 258 ((zI s 253 ((((1 + (26 * x1)) + 2) + (3 * (zI s 265 x7))) + 1)) - 100))))] [iv (bi (21 ≤ (zI s 253 ((((1 + (26 * x1)) + 2) + (3 * (zI s 265 x7))) + 1)) ∧ (zI s 253 ((((1 + (26 * x1)) + 2) + (3 * (zI s 265 x7))) + 1)) ≤ 36))] s Q
        refine i_if (t := 112) r_195_101 (n_195_101 _) rfl (TB_eq) (fun c33 => ?_) (fun c33 => ?_)
        · replace h := h.1 c33
          refine i_iconst r_195_112 (n_195_112 _) ?_
          exact wp_pr (l' := [(0, rf 252), (1, iv x1), (2, iv x2), (3, iv x3), (4, iv x4), (5, iv x5), (6, iv (zel (zI s 253 ((((1 + (26 * x1)) + 2) + (3 * (zI s 265 x7))) + 1)) (zI s 258 ((zI s 253 ((((1 + (26 * x1)) + 2) + (3 * (zI s 265 x7))) + 1)) - 100)))), (7, iv x7), (8, iv (zI s 265 x7)), (9, iv (zI s 253 ((((1 + (26 * x1)) + 2) + (3 * (zI s 265 x7))) + 1))), (11, iv (zel (zI s 253 ((((1 + (26 * x1)) + 2) + (3 * (zI s 265 x7))) + 1)) (zI s 258 ((zI s 253 ((((1 + (26 * x1)) + 2) + (3 * (zI s 265 x7))) + 1)) - 100))))]) rfl h
        · replace h := h.2 c33
          refine i_iload (x := zI s 253 ((((1 + (26 * x1)) + 2) + (3 * (zI s 265 x7))) + 1)) r_195_104 (n_195_104 _) rfl ?_
          refine i_bipush r_195_106 (n_195_106 _) rfl ?_
          refine i_isub r_195_108 (n_195_108 _) ?_
          refine i_goto (t := 113) r_195_109 (n_195_109 _) rfl ?_
          exact wp_pr (l' := [(0, rf 252), (1, iv x1), (2, iv x2), (3, iv x3), (4, iv x4), (5, iv x5), (6, iv (zel (zI s 253 ((((1 + (26 * x1)) + 2) + (3 * (zI s 265 x7))) + 1)) (zI s 258 ((zI s 253 ((((1 + (26 * x1)) + 2) + (3 * (zI s 265 x7))) + 1)) - 100)))), (7, iv x7), (8, iv (zI s 265 x7)), (9, iv (zI s 253 ((((1 + (26 * x1)) + 2) + (3 * (zI s 265 x7))) + 1))), (11, iv (zel (zI s 253 ((((1 + (26 * x1)) + 2) + (3 * (zI s 265 x7))) + 1)) (zI s 258 ((zI s 253 ((((1 + (26 * x1)) + 2) + (3 * (zI s 265 x7))) + 1)) - 100))))]) rfl h
theorem v_Model_places_113 {S : Option (Nat × (Nat → Int32))} {s : zSt} {Q : Option Value ⊕ Nat → zSt → Prop} {x1 : Int} {x2 : Int} {x3 : Int} {x4 : Int} {x5 : Int} {x6 : Int} {x7 : Int} {x8 : Int} {x9 : Int} {x11 : Int} {x90 : Int} 
    (h : rng x90 ∧ ((x90 ≤ 0 → rng (x3 + x11 - 1) ∧ (rng x11 ∧ ((0 ≤ x3 + x11 - 1) ∧ ((0 < x11) ∧ ((0 ≤ x8 ∧ x8 < 8) ∧ (rng (zup x3 x11) ∧ ((x90 ≤ 0 → (x90 ≤ 0 → rng x9 ∧ ((x9 < 106) ∧ ((0 ≤ ((((1 + (26 * x1)) + 2) + (3 * x8)) + 2) ∧ ((((1 + (26 * x1)) + 2) + (3 * x8)) + 2) < 1199) ∧ (wp S 195 24 [(0, rf 252), (1, iv x1), (2, iv x2), (3, iv ((zup x3 x11) + ((zel x9 (zI s 257 (x9 - 100))) * (zI s 253 ((((1 + (26 * x1)) + 2) + (3 * x8)) + 2))))), (4, iv (-1)), (5, iv x90), (6, iv x6), (7, iv (x7 + 1))] [] (zwI (zwI s 266 x8 (zup x3 x11)) 267 x8 0) Q)))) ∧ (0 < x90 → wp S 195 24 [(0, rf 252), (1, iv x1), (2, iv x2), (3, iv ((zup x3 x11) + 2)), (4, iv (-1)), (5, iv x90), (6, iv x6), (7, iv (x7 + 1))] [] (zwI (zwI s 266 x8 (zup x3 x11)) 267 x8 0) Q)) ∧ (0 < x90 → (x90 ≤ 0 → rng x9 ∧ ((x9 < 106) ∧ ((0 ≤ ((((1 + (26 * x1)) + 2) + (3 * x8)) + 2) ∧ ((((1 + (26 * x1)) + 2) + (3 * x8)) + 2) < 1199) ∧ (wp S 195 24 [(0, rf 252), (1, iv x1), (2, iv x2), (3, iv ((zup x3 x11) + ((zel x9 (zI s 257 (x9 - 100))) * (zI s 253 ((((1 + (26 * x1)) + 2) + (3 * x8)) + 2))))), (4, iv (zup x3 x11)), (5, iv x90), (6, iv x6), (7, iv (x7 + 1))] [] (zwI (zwI s 266 x8 (zup x3 x11)) 267 x8 0) Q)))) ∧ (0 < x90 → wp S 195 24 [(0, rf 252), (1, iv x1), (2, iv x2), (3, iv ((zup x3 x11) + 2)), (4, iv (zup x3 x11)), (5, iv x90), (6, iv x6), (7, iv (x7 + 1))] [] (zwI (zwI s 266 x8 (zup x3 x11)) 267 x8 0) Q))))))))) ∧ (0 < x90 → rng x4 ∧ ((x4 = (-1) → rng (x3 + x11 - 1) ∧ (rng x11 ∧ ((0 ≤ x3 + x11 - 1) ∧ ((0 < x11) ∧ ((0 ≤ x8 ∧ x8 < 8) ∧ (rng (zup x3 x11) ∧ ((x90 ≤ 0 → (x90 ≤ 0 → rng x9 ∧ ((x9 < 106) ∧ ((0 ≤ ((((1 + (26 * x1)) + 2) + (3 * x8)) + 2) ∧ ((((1 + (26 * x1)) + 2) + (3 * x8)) + 2) < 1199) ∧ (wp S 195 24 [(0, rf 252), (1, iv x1), (2, iv x2), (3, iv ((zup x3 x11) + ((zel x9 (zI s 257 (x9 - 100))) * (zI s 253 ((((1 + (26 * x1)) + 2) + (3 * x8)) + 2))))), (4, iv (-1)), (5, iv x90), (6, iv x6), (7, iv (x7 + 1))] [] (zwI (zwI s 266 x8 (zup x3 x11)) 267 x8 0) Q)))) ∧ (0 < x90 → wp S 195 24 [(0, rf 252), (1, iv x1), (2, iv x2), (3, iv ((zup x3 x11) + 2)), (4, iv (-1)), (5, iv x90), (6, iv x6), (7, iv (x7 + 1))] [] (zwI (zwI s 266 x8 (zup x3 x11)) 267 x8 0) Q)) ∧ (0 < x90 → (x90 ≤ 0 → rng x9 ∧ ((x9 < 106) ∧ ((0 ≤ ((((1 + (26 * x1)) + 2) + (3 * x8)) + 2) ∧ ((((1 + (26 * x1)) + 2) + (3 * x8)) + 2) < 1199) ∧ (wp S 195 24 [(0, rf 252), (1, iv x1), (2, iv x2), (3, iv ((zup x3 x11) + ((zel x9 (zI s 257 (x9 - 100))) * (zI s 253 ((((1 + (26 * x1)) + 2) + (3 * x8)) + 2))))), (4, iv (zup x3 x11)), (5, iv x90), (6, iv x6), (7, iv (x7 + 1))] [] (zwI (zwI s 266 x8 (zup x3 x11)) 267 x8 0) Q)))) ∧ (0 < x90 → wp S 195 24 [(0, rf 252), (1, iv x1), (2, iv x2), (3, iv ((zup x3 x11) + 2)), (4, iv (zup x3 x11)), (5, iv x90), (6, iv x6), (7, iv (x7 + 1))] [] (zwI (zwI s 266 x8 (zup x3 x11)) 267 x8 0) Q))))))))) ∧ (x4 ≠ (-1) → rng (x5 + x90) ∧ ((16 < (x5 + x90) → rng (x3 + x11 - 1) ∧ (rng x11 ∧ ((0 ≤ x3 + x11 - 1) ∧ ((0 < x11) ∧ ((0 ≤ x8 ∧ x8 < 8) ∧ (rng (zup x3 x11) ∧ ((x90 ≤ 0 → (x90 ≤ 0 → rng x9 ∧ ((x9 < 106) ∧ ((0 ≤ ((((1 + (26 * x1)) + 2) + (3 * x8)) + 2) ∧ ((((1 + (26 * x1)) + 2) + (3 * x8)) + 2) < 1199) ∧ (wp S 195 24 [(0, rf 252), (1, iv x1), (2, iv x2), (3, iv ((zup x3 x11) + ((zel x9 (zI s 257 (x9 - 100))) * (zI s 253 ((((1 + (26 * x1)) + 2) + (3 * x8)) + 2))))), (4, iv (-1)), (5, iv x90), (6, iv x6), (7, iv (x7 + 1))] [] (zwI (zwI s 266 x8 (zup x3 x11)) 267 x8 0) Q)))) ∧ (0 < x90 → wp S 195 24 [(0, rf 252), (1, iv x1), (2, iv x2), (3, iv ((zup x3 x11) + 2)), (4, iv (-1)), (5, iv x90), (6, iv x6), (7, iv (x7 + 1))] [] (zwI (zwI s 266 x8 (zup x3 x11)) 267 x8 0) Q)) ∧ (0 < x90 → (x90 ≤ 0 → rng x9 ∧ ((x9 < 106) ∧ ((0 ≤ ((((1 + (26 * x1)) + 2) + (3 * x8)) + 2) ∧ ((((1 + (26 * x1)) + 2) + (3 * x8)) + 2) < 1199) ∧ (wp S 195 24 [(0, rf 252), (1, iv x1), (2, iv x2), (3, iv ((zup x3 x11) + ((zel x9 (zI s 257 (x9 - 100))) * (zI s 253 ((((1 + (26 * x1)) + 2) + (3 * x8)) + 2))))), (4, iv (zup x3 x11)), (5, iv x90), (6, iv x6), (7, iv (x7 + 1))] [] (zwI (zwI s 266 x8 (zup x3 x11)) 267 x8 0) Q)))) ∧ (0 < x90 → wp S 195 24 [(0, rf 252), (1, iv x1), (2, iv x2), (3, iv ((zup x3 x11) + 2)), (4, iv (zup x3 x11)), (5, iv x90), (6, iv x6), (7, iv (x7 + 1))] [] (zwI (zwI s 266 x8 (zup x3 x11)) 267 x8 0) Q))))))))) ∧ ((x5 + x90) ≤ 16 → (0 ≤ x8 ∧ x8 < 8) ∧ (rng x5 ∧ (wp S 195 24 [(0, rf 252), (1, iv x1), (2, iv x2), (3, iv x3), (4, iv x4), (5, iv (x5 + x90)), (6, iv x6), (7, iv (x7 + 1))] [] (zwI (zwI s 266 x8 x4) 267 x8 x5) Q))))))))) :
    wp S 195 113 [(0, rf 252), (1, iv x1), (2, iv x2), (3, iv x3), (4, iv x4), (5, iv x5), (6, iv x6), (7, iv x7), (8, iv x8), (9, iv x9), (11, iv x11)] [iv x90] s Q := by
  refine i_istore (l' := [(0, rf 252), (1, iv x1), (2, iv x2), (3, iv x3), (4, iv x4), (5, iv x5), (6, iv x6), (7, iv x7), (8, iv x8), (9, iv x9), (11, iv x11), (12, iv x90)]) r_195_113 rfl (by decide) rfl ?_
  refine i_iload (x := x90) r_195_115 (n_195_115 _) rfl ?_
  obtain ⟨g1, h⟩ := h
  refine i_if (t := 164) r_195_117 (n_195_117 _) rfl (T_le g1 ⟨by omega, by omega⟩) (fun c2 => ?_) (fun c2 => ?_)
  · replace h := h.1 c2
    refine i_iload_n (x := x3) r_195_164 (n_195_164 _) rfl ?_
    refine i_iload (x := x11) r_195_165 (n_195_165 _) rfl ?_
    obtain ⟨g3, h⟩ := h
    obtain ⟨g4, h⟩ := h
    obtain ⟨g5, h⟩ := h
    obtain ⟨g6, h⟩ := h
    refine wp_stat (rest := []) (Ls := [(0, iv x3), (1, iv x11)]) r_195_167 (n_195_167 _) rfl ⟨rfl, by decide, by decide, by decide⟩ rfl rfl ⟨rfl, Nat.le_of_ble_eq_true rfl, Nat.le_of_ble_eq_true rfl⟩ rfl (K_Model_up g3 g4 g5 g6) ?_
    rintro _ _ ⟨rfl, rfl⟩
    refine .inl ⟨some (iv (zup x3 x11)), rfl, ?_⟩
    show wp S 195 170 [(0, rf 252), (1, iv x1), (2, iv x2), (3, iv x3), (4, iv x4), (5, iv x5), (6, iv x6), (7, iv x7), (8, iv x8), (9, iv x9), (11, iv x11), (12, iv x90)] [iv (zup x3 x11)] s Q
    refine i_istore_n (l' := [(0, rf 252), (1, iv x1), (2, iv x2), (3, iv (zup x3 x11)), (4, iv x4), (5, iv x5), (6, iv x6), (7, iv x7), (8, iv x8), (9, iv x9), (11, iv x11), (12, iv x90)]) r_195_170 (n_195_170 _) (by decide) rfl ?_
    refine i_aload_n (a := 252) r_195_171 (n_195_171 _) rfl ?_
    refine i_getR (a := 252) (b := 266) r_195_172 (n_195_172 _) rfl rfl rfl (by omega) lf_252 (by omega) ?_
    refine i_iload (x := x8) r_195_175 (n_195_175 _) rfl ?_
    refine i_iload_n (x := zup x3 x11) r_195_177 (n_195_177 _) rfl ?_
    obtain ⟨g8, h⟩ := h
    obtain ⟨g9, h⟩ := h
    refine i_iastore (a := 266) (j := x8) (x := zup x3 x11) r_195_178 (n_195_178 _) lf_266 ⟨by omega, by omega⟩ (by omega) (by omega) g9 ?_
    refine i_aload_n (a := 252) r_195_179 (n_195_179 _) rfl ?_
    refine i_getR (a := 252) (b := 267) r_195_180 (n_195_180 _) rfl rfl rfl (by omega) lf_252 (by omega) ?_
    refine i_iload (x := x8) r_195_183 (n_195_183 _) rfl ?_
    refine i_iconst r_195_185 (n_195_185 _) ?_
    refine i_iastore (a := 267) (j := x8) (x := 0) r_195_186 (n_195_186 _) lf_267 ⟨by omega, by omega⟩ (by omega) (by omega) ⟨by omega, by omega⟩ ?_
    refine i_iload (x := x90) r_195_187 (n_195_187 _) rfl ?_
    refine i_if (t := 196) r_195_189 (n_195_189 _) rfl (T_le g1 ⟨by omega, by omega⟩) (fun c10 => ?_) (fun c10 => ?_)
    · replace h := h.1 c10
      refine i_iconst r_195_196 (n_195_196 _) ?_
      refine i_istore (l' := [(0, rf 252), (1, iv x1), (2, iv x2), (3, iv (zup x3 x11)), (4, iv (-1)), (5, iv x5), (6, iv x6), (7, iv x7), (8, iv x8), (9, iv x9), (11, iv x11), (12, iv x90)]) r_195_197 (n_195_197 _) (by decide) rfl ?_
      refine i_iload (x := x90) r_195_199 (n_195_199 _) rfl ?_
      refine i_istore (l' := [(0, rf 252), (1, iv x1), (2, iv x2), (3, iv (zup x3 x11)), (4, iv (-1)), (5, iv x90), (6, iv x6), (7, iv x7), (8, iv x8), (9, iv x9), (11, iv x11), (12, iv x90)]) r_195_201 (n_195_201 _) (by decide) rfl ?_
      refine i_iload_n (x := zup x3 x11) r_195_203 (n_195_203 _) rfl ?_
      refine i_iload (x := x90) r_195_204 (n_195_204 _) rfl ?_
      refine i_if (t := 213) r_195_206 (n_195_206 _) rfl (T_le g1 ⟨by omega, by omega⟩) (fun c11 => ?_) (fun c11 => ?_)
      · replace h := h.1 c11
        refine i_aload_n (a := 252) r_195_213 (n_195_213 _) rfl ?_
        refine i_iload (x := x9) r_195_214 (n_195_214 _) rfl ?_
        have e12 : zI (zwI (zwI s 266 x8 (zup x3 x11)) 267 x8 0) 257 (x9 - 100) = zI s 257 (x9 - 100) := (zI_ne (by omega)).trans (zI_ne (by omega))
        obtain ⟨g13, h⟩ := h
        obtain ⟨g14, h⟩ := h
        refine wp_virt (b := 252) (rest := [iv (zup x3 x11)]) (Ls := [(0, rf 252), (1, iv x9)]) r_195_216 (n_195_216 _) rfl ⟨rfl, rfl, by decide, by decide⟩ rfl rfl lf_252 ⟨rfl, Nat.le_of_ble_eq_true rfl, Nat.le_of_ble_eq_true rfl⟩ rfl (K_Model_elementSize (by (try rw [e12]); exact g13) (by (try rw [e12]); exact g14)) ?_
        rintro _ _ ⟨rfl, rfl⟩
        refine .inl ⟨some (iv (zel x9 (zI s 257 (x9 - 100)))), by (try rw [e12]); (try rfl), ?_⟩
        show wp S 195 219 [(0, rf 252), (1, iv x1), (2, iv x2), (3, iv (zup x3 x11)), (4, iv (-1)), (5, iv x90), (6, iv x6), (7, iv x7), (8, iv x8), (9, iv x9), (11, iv x11), (12, iv x90)] [iv (zel x9 (zI s 257 (x9 - 100))), iv (zup x3 x11)] (zwI (zwI s 266 x8 (zup x3 x11)) 267 x8 0) Q
        refine i_aload_n (a := 252) r_195_219 (n_195_219 _) rfl ?_
        refine i_getR (a := 252) (b := 253) r_195_220 (n_195_220 _) rfl rfl rfl (by omega) lf_252 (by omega) ?_
        refine i_iload_n (x := x1) r_195_223 (n_195_223 _) rfl ?_
        refine i_iload (x := x8) r_195_224 (n_195_224 _) rfl ?_
        refine wp_stat (rest := [rf 253, iv (zel x9 (zI s 257 (x9 - 100))), iv (zup x3 x11)]) (Ls := [(0, iv x1), (1, iv x8)]) r_195_226 (n_195_226 _) rfl ⟨rfl, by decide, by decide, by decide⟩ rfl rfl ⟨rfl, Nat.le_of_ble_eq_true rfl, Nat.le_of_ble_eq_true rfl⟩ rfl K_Model_field ?_
        rintro _ _ ⟨rfl, rfl⟩
        refine .inl ⟨some (iv (((1 + (26 * x1)) + 2) + (3 * x8))), rfl, ?_⟩
        show wp S 195 229 [(0, rf 252), (1, iv x1), (2, iv x2), (3, iv (zup x3 x11)), (4, iv (-1)), (5, iv x90), (6, iv x6), (7, iv x7), (8, iv x8), (9, iv x9), (11, iv x11), (12, iv x90)] [iv (((1 + (26 * x1)) + 2) + (3 * x8)), rf 253, iv (zel x9 (zI s 257 (x9 - 100))), iv (zup x3 x11)] (zwI (zwI s 266 x8 (zup x3 x11)) 267 x8 0) Q
        refine i_iconst r_195_229 (n_195_229 _) ?_
        refine i_iadd r_195_230 (n_195_230 _) ?_
        obtain ⟨g17, h⟩ := h
        have e19 : zI (zwI (zwI s 266 x8 (zup x3 x11)) 267 x8 0) 253 ((((1 + (26 * x1)) + 2) + (3 * x8)) + 2) = zI s 253 ((((1 + (26 * x1)) + 2) + (3 * x8)) + 2) := (zI_ne (by omega)).trans (zI_ne (by omega))
        refine i_ialoade (a := 253) (j := (((1 + (26 * x1)) + 2) + (3 * x8)) + 2) (x := zI s 253 ((((1 + (26 * x1)) + 2) + (3 * x8)) + 2)) r_195_231 (n_195_231 _) lf_253 ⟨by omega, by omega⟩ (by omega) (by omega) e19 (fun q18 => ?_)
        refine i_imul r_195_232 (n_195_232 _) ?_
        refine i_iadd r_195_233 (n_195_233 _) ?_
        refine i_istore_n (l' := [(0, rf 252), (1, iv x1), (2, iv x2), (3, iv ((zup x3 x11) + ((zel x9 (zI s 257 (x9 - 100))) * (zI s 253 ((((1 + (26 * x1)) + 2) + (3 * x8)) + 2))))), (4, iv (-1)), (5, iv x90), (6, iv x6), (7, iv x7), (8, iv x8), (9, iv x9), (11, iv x11), (12, iv x90)]) r_195_234 (n_195_234 _) (by decide) rfl ?_
        refine i_iinc (x := x7) (l' := [(0, rf 252), (1, iv x1), (2, iv x2), (3, iv ((zup x3 x11) + ((zel x9 (zI s 257 (x9 - 100))) * (zI s 253 ((((1 + (26 * x1)) + 2) + (3 * x8)) + 2))))), (4, iv (-1)), (5, iv x90), (6, iv x6), (7, iv (x7 + 1)), (8, iv x8), (9, iv x9), (11, iv x11), (12, iv x90)]) r_195_235 (n_195_235 _) (by decide) rfl rfl ?_
        refine i_goto (t := 24) r_195_238 (n_195_238 _) rfl ?_
        exact wp_pr (l' := [(0, rf 252), (1, iv x1), (2, iv x2), (3, iv ((zup x3 x11) + ((zel x9 (zI s 257 (x9 - 100))) * (zI s 253 ((((1 + (26 * x1)) + 2) + (3 * x8)) + 2))))), (4, iv (-1)), (5, iv x90), (6, iv x6), (7, iv (x7 + 1))]) rfl h
      · replace h := h.2 c11
        refine i_iconst r_195_209 (n_195_209 _) ?_
        refine i_goto (t := 233) r_195_210 (n_195_210 _) rfl ?_
        refine i_iadd r_195_233 (n_195_233 _) ?_
        refine i_istore_n (l' := [(0, rf 252), (1, iv x1), (2, iv x2), (3, iv ((zup x3 x11) + 2)), (4, iv (-1)), (5, iv x90), (6, iv x6), (7, iv x7), (8, iv x8), (9, iv x9), (11, iv x11), (12, iv x90)]) r_195_234 (n_195_234 _) (by decide) rfl ?_
        refine i_iinc (x := x7) (l' := [(0, rf 252), (1, iv x1), (2, iv x2), (3, iv ((zup x3 x11) + 2)), (4, iv (-1)), (5, iv x90), (6, iv x6), (7, iv (x7 + 1)), (8, iv x8), (9, iv x9), (11, iv x11), (12, iv x90)]) r_195_235 (n_195_235 _) (by decide) rfl rfl ?_
        refine i_goto (t := 24) r_195_238 (n_195_238 _) rfl ?_
        exact wp_pr (l' := [(0, rf 252), (1, iv x1), (2, iv x2), (3, iv ((zup x3 x11) + 2)), (4, iv (-1)), (5, iv x90), (6, iv x6), (7, iv (x7 + 1))]) rfl h
    · replace h := h.2 c10
      refine i_iload_n (x := zup x3 x11) r_195_192 (n_195_192 _) rfl ?_
      refine i_goto (t := 197) r_195_193 (n_195_193 _) rfl ?_
      refine i_istore (l' := [(0, rf 252), (1, iv x1), (2, iv x2), (3, iv (zup x3 x11)), (4, iv (zup x3 x11)), (5, iv x5), (6, iv x6), (7, iv x7), (8, iv x8), (9, iv x9), (11, iv x11), (12, iv x90)]) r_195_197 (n_195_197 _) (by decide) rfl ?_
      refine i_iload (x := x90) r_195_199 (n_195_199 _) rfl ?_
      refine i_istore (l' := [(0, rf 252), (1, iv x1), (2, iv x2), (3, iv (zup x3 x11)), (4, iv (zup x3 x11)), (5, iv x90), (6, iv x6), (7, iv x7), (8, iv x8), (9, iv x9), (11, iv x11), (12, iv x90)]) r_195_201 (n_195_201 _) (by decide) rfl ?_
      refine i_iload_n (x := zup x3 x11) r_195_203 (n_195_203 _) rfl ?_
      refine i_iload (x := x90) r_195_204 (n_195_204 _) rfl ?_
      refine i_if (t := 213) r_195_206 (n_195_206 _) rfl (T_le g1 ⟨by omega, by omega⟩) (fun c20 => ?_) (fun c20 => ?_)
      · replace h := h.1 c20
        refine i_aload_n (a := 252) r_195_213 (n_195_213 _) rfl ?_
        refine i_iload (x := x9) r_195_214 (n_195_214 _) rfl ?_
        have e21 : zI (zwI (zwI s 266 x8 (zup x3 x11)) 267 x8 0) 257 (x9 - 100) = zI s 257 (x9 - 100) := (zI_ne (by omega)).trans (zI_ne (by omega))
        obtain ⟨g22, h⟩ := h
        obtain ⟨g23, h⟩ := h
        refine wp_virt (b := 252) (rest := [iv (zup x3 x11)]) (Ls := [(0, rf 252), (1, iv x9)]) r_195_216 (n_195_216 _) rfl ⟨rfl, rfl, by decide, by decide⟩ rfl rfl lf_252 ⟨rfl, Nat.le_of_ble_eq_true rfl, Nat.le_of_ble_eq_true rfl⟩ rfl (K_Model_elementSize (by (try rw [e21]); exact g22) (by (try rw [e21]); exact g23)) ?_
        rintro _ _ ⟨rfl, rfl⟩
        refine .inl ⟨some (iv (zel x9 (zI s 257 (x9 - 100)))), by (try rw [e21]); (try rfl), ?_⟩
        show wp S 195 219 [(0, rf 252), (1, iv x1), (2, iv x2), (3, iv (zup x3 x11)), (4, iv (zup x3 x11)), (5, iv x90), (6, iv x6), (7, iv x7), (8, iv x8), (9, iv x9), (11, iv x11), (12, iv x90)] [iv (zel x9 (zI s 257 (x9 - 100))), iv (zup x3 x11)] (zwI (zwI s 266 x8 (zup x3 x11)) 267 x8 0) Q
        refine i_aload_n (a := 252) r_195_219 (n_195_219 _) rfl ?_
        refine i_getR (a := 252) (b := 253) r_195_220 (n_195_220 _) rfl rfl rfl (by omega) lf_252 (by omega) ?_
        refine i_iload_n (x := x1) r_195_223 (n_195_223 _) rfl ?_
        refine i_iload (x := x8) r_195_224 (n_195_224 _) rfl ?_
        refine wp_stat (rest := [rf 253, iv (zel x9 (zI s 257 (x9 - 100))), iv (zup x3 x11)]) (Ls := [(0, iv x1), (1, iv x8)]) r_195_226 (n_195_226 _) rfl ⟨rfl, by decide, by decide, by decide⟩ rfl rfl ⟨rfl, Nat.le_of_ble_eq_true rfl, Nat.le_of_ble_eq_true rfl⟩ rfl K_Model_field ?_
        rintro _ _ ⟨rfl, rfl⟩
        refine .inl ⟨some (iv (((1 + (26 * x1)) + 2) + (3 * x8))), rfl, ?_⟩
        show wp S 195 229 [(0, rf 252), (1, iv x1), (2, iv x2), (3, iv (zup x3 x11)), (4, iv (zup x3 x11)), (5, iv x90), (6, iv x6), (7, iv x7), (8, iv x8), (9, iv x9), (11, iv x11), (12, iv x90)] [iv (((1 + (26 * x1)) + 2) + (3 * x8)), rf 253, iv (zel x9 (zI s 257 (x9 - 100))), iv (zup x3 x11)] (zwI (zwI s 266 x8 (zup x3 x11)) 267 x8 0) Q
        refine i_iconst r_195_229 (n_195_229 _) ?_
        refine i_iadd r_195_230 (n_195_230 _) ?_
        obtain ⟨g26, h⟩ := h
        have e28 : zI (zwI (zwI s 266 x8 (zup x3 x11)) 267 x8 0) 253 ((((1 + (26 * x1)) + 2) + (3 * x8)) + 2) = zI s 253 ((((1 + (26 * x1)) + 2) + (3 * x8)) + 2) := (zI_ne (by omega)).trans (zI_ne (by omega))
        refine i_ialoade (a := 253) (j := (((1 + (26 * x1)) + 2) + (3 * x8)) + 2) (x := zI s 253 ((((1 + (26 * x1)) + 2) + (3 * x8)) + 2)) r_195_231 (n_195_231 _) lf_253 ⟨by omega, by omega⟩ (by omega) (by omega) e28 (fun q27 => ?_)
        refine i_imul r_195_232 (n_195_232 _) ?_
        refine i_iadd r_195_233 (n_195_233 _) ?_
        refine i_istore_n (l' := [(0, rf 252), (1, iv x1), (2, iv x2), (3, iv ((zup x3 x11) + ((zel x9 (zI s 257 (x9 - 100))) * (zI s 253 ((((1 + (26 * x1)) + 2) + (3 * x8)) + 2))))), (4, iv (zup x3 x11)), (5, iv x90), (6, iv x6), (7, iv x7), (8, iv x8), (9, iv x9), (11, iv x11), (12, iv x90)]) r_195_234 (n_195_234 _) (by decide) rfl ?_
        refine i_iinc (x := x7) (l' := [(0, rf 252), (1, iv x1), (2, iv x2), (3, iv ((zup x3 x11) + ((zel x9 (zI s 257 (x9 - 100))) * (zI s 253 ((((1 + (26 * x1)) + 2) + (3 * x8)) + 2))))), (4, iv (zup x3 x11)), (5, iv x90), (6, iv x6), (7, iv (x7 + 1)), (8, iv x8), (9, iv x9), (11, iv x11), (12, iv x90)]) r_195_235 (n_195_235 _) (by decide) rfl rfl ?_
        refine i_goto (t := 24) r_195_238 (n_195_238 _) rfl ?_
        exact wp_pr (l' := [(0, rf 252), (1, iv x1), (2, iv x2), (3, iv ((zup x3 x11) + ((zel x9 (zI s 257 (x9 - 100))) * (zI s 253 ((((1 + (26 * x1)) + 2) + (3 * x8)) + 2))))), (4, iv (zup x3 x11)), (5, iv x90), (6, iv x6), (7, iv (x7 + 1))]) rfl h
      · replace h := h.2 c20
        refine i_iconst r_195_209 (n_195_209 _) ?_
        refine i_goto (t := 233) r_195_210 (n_195_210 _) rfl ?_
        refine i_iadd r_195_233 (n_195_233 _) ?_
        refine i_istore_n (l' := [(0, rf 252), (1, iv x1), (2, iv x2), (3, iv ((zup x3 x11) + 2)), (4, iv (zup x3 x11)), (5, iv x90), (6, iv x6), (7, iv x7), (8, iv x8), (9, iv x9), (11, iv x11), (12, iv x90)]) r_195_234 (n_195_234 _) (by decide) rfl ?_
        refine i_iinc (x := x7) (l' := [(0, rf 252), (1, iv x1), (2, iv x2), (3, iv ((zup x3 x11) + 2)), (4, iv (zup x3 x11)), (5, iv x90), (6, iv x6), (7, iv (x7 + 1)), (8, iv x8), (9, iv x9), (11, iv x11), (12, iv x90)]) r_195_235 (n_195_235 _) (by decide) rfl rfl ?_
        refine i_goto (t := 24) r_195_238 (n_195_238 _) rfl ?_
        exact wp_pr (l' := [(0, rf 252), (1, iv x1), (2, iv x2), (3, iv ((zup x3 x11) + 2)), (4, iv (zup x3 x11)), (5, iv x90), (6, iv x6), (7, iv (x7 + 1))]) rfl h
  · replace h := h.2 c2
    refine i_iload (x := x4) r_195_120 (n_195_120 _) rfl ?_
    refine i_iconst r_195_122 (n_195_122 _) ?_
    obtain ⟨g29, h⟩ := h
    refine i_icmp (t := 164) r_195_123 (n_195_123 _) rfl (T_eq g29 ⟨by omega, by omega⟩) (fun c30 => ?_) (fun c30 => ?_)
    · replace h := h.1 c30
      refine i_iload_n (x := x3) r_195_164 (n_195_164 _) rfl ?_
      refine i_iload (x := x11) r_195_165 (n_195_165 _) rfl ?_
      obtain ⟨g31, h⟩ := h
      obtain ⟨g32, h⟩ := h
      obtain ⟨g33, h⟩ := h
      obtain ⟨g34, h⟩ := h
      refine wp_stat (rest := []) (Ls := [(0, iv x3), (1, iv x11)]) r_195_167 (n_195_167 _) rfl ⟨rfl, by decide, by decide, by decide⟩ rfl rfl ⟨rfl, Nat.le_of_ble_eq_true rfl, Nat.le_of_ble_eq_true rfl⟩ rfl (K_Model_up g31 g32 g33 g34) ?_
      rintro _ _ ⟨rfl, rfl⟩
      refine .inl ⟨some (iv (zup x3 x11)), rfl, ?_⟩
      show wp S 195 170 [(0, rf 252), (1, iv x1), (2, iv x2), (3, iv x3), (4, iv x4), (5, iv x5), (6, iv x6), (7, iv x7), (8, iv x8), (9, iv x9), (11, iv x11), (12, iv x90)] [iv (zup x3 x11)] s Q
      refine i_istore_n (l' := [(0, rf 252), (1, iv x1), (2, iv x2), (3, iv (zup x3 x11)), (4, iv x4), (5, iv x5), (6, iv x6), (7, iv x7), (8, iv x8), (9, iv x9), (11, iv x11), (12, iv x90)]) r_195_170 (n_195_170 _) (by decide) rfl ?_
      refine i_aload_n (a := 252) r_195_171 (n_195_171 _) rfl ?_
      refine i_getR (a := 252) (b := 266) r_195_172 (n_195_172 _) rfl rfl rfl (by omega) lf_252 (by omega) ?_
      refine i_iload (x := x8) r_195_175 (n_195_175 _) rfl ?_
      refine i_iload_n (x := zup x3 x11) r_195_177 (n_195_177 _) rfl ?_
      obtain ⟨g36, h⟩ := h
      obtain ⟨g37, h⟩ := h
      refine i_iastore (a := 266) (j := x8) (x := zup x3 x11) r_195_178 (n_195_178 _) lf_266 ⟨by omega, by omega⟩ (by omega) (by omega) g37 ?_
      refine i_aload_n (a := 252) r_195_179 (n_195_179 _) rfl ?_
      refine i_getR (a := 252) (b := 267) r_195_180 (n_195_180 _) rfl rfl rfl (by omega) lf_252 (by omega) ?_
      refine i_iload (x := x8) r_195_183 (n_195_183 _) rfl ?_
      refine i_iconst r_195_185 (n_195_185 _) ?_
      refine i_iastore (a := 267) (j := x8) (x := 0) r_195_186 (n_195_186 _) lf_267 ⟨by omega, by omega⟩ (by omega) (by omega) ⟨by omega, by omega⟩ ?_
      refine i_iload (x := x90) r_195_187 (n_195_187 _) rfl ?_
      refine i_if (t := 196) r_195_189 (n_195_189 _) rfl (T_le g1 ⟨by omega, by omega⟩) (fun c38 => ?_) (fun c38 => ?_)
      · replace h := h.1 c38
        refine i_iconst r_195_196 (n_195_196 _) ?_
        refine i_istore (l' := [(0, rf 252), (1, iv x1), (2, iv x2), (3, iv (zup x3 x11)), (4, iv (-1)), (5, iv x5), (6, iv x6), (7, iv x7), (8, iv x8), (9, iv x9), (11, iv x11), (12, iv x90)]) r_195_197 (n_195_197 _) (by decide) rfl ?_
        refine i_iload (x := x90) r_195_199 (n_195_199 _) rfl ?_
        refine i_istore (l' := [(0, rf 252), (1, iv x1), (2, iv x2), (3, iv (zup x3 x11)), (4, iv (-1)), (5, iv x90), (6, iv x6), (7, iv x7), (8, iv x8), (9, iv x9), (11, iv x11), (12, iv x90)]) r_195_201 (n_195_201 _) (by decide) rfl ?_
        refine i_iload_n (x := zup x3 x11) r_195_203 (n_195_203 _) rfl ?_
        refine i_iload (x := x90) r_195_204 (n_195_204 _) rfl ?_
        refine i_if (t := 213) r_195_206 (n_195_206 _) rfl (T_le g1 ⟨by omega, by omega⟩) (fun c39 => ?_) (fun c39 => ?_)
        · replace h := h.1 c39
          refine i_aload_n (a := 252) r_195_213 (n_195_213 _) rfl ?_
          refine i_iload (x := x9) r_195_214 (n_195_214 _) rfl ?_
          have e40 : zI (zwI (zwI s 266 x8 (zup x3 x11)) 267 x8 0) 257 (x9 - 100) = zI s 257 (x9 - 100) := (zI_ne (by omega)).trans (zI_ne (by omega))
          obtain ⟨g41, h⟩ := h
          obtain ⟨g42, h⟩ := h
          refine wp_virt (b := 252) (rest := [iv (zup x3 x11)]) (Ls := [(0, rf 252), (1, iv x9)]) r_195_216 (n_195_216 _) rfl ⟨rfl, rfl, by decide, by decide⟩ rfl rfl lf_252 ⟨rfl, Nat.le_of_ble_eq_true rfl, Nat.le_of_ble_eq_true rfl⟩ rfl (K_Model_elementSize (by (try rw [e40]); exact g41) (by (try rw [e40]); exact g42)) ?_
          rintro _ _ ⟨rfl, rfl⟩
          refine .inl ⟨some (iv (zel x9 (zI s 257 (x9 - 100)))), by (try rw [e40]); (try rfl), ?_⟩
          show wp S 195 219 [(0, rf 252), (1, iv x1), (2, iv x2), (3, iv (zup x3 x11)), (4, iv (-1)), (5, iv x90), (6, iv x6), (7, iv x7), (8, iv x8), (9, iv x9), (11, iv x11), (12, iv x90)] [iv (zel x9 (zI s 257 (x9 - 100))), iv (zup x3 x11)] (zwI (zwI s 266 x8 (zup x3 x11)) 267 x8 0) Q
          refine i_aload_n (a := 252) r_195_219 (n_195_219 _) rfl ?_
          refine i_getR (a := 252) (b := 253) r_195_220 (n_195_220 _) rfl rfl rfl (by omega) lf_252 (by omega) ?_
          refine i_iload_n (x := x1) r_195_223 (n_195_223 _) rfl ?_
          refine i_iload (x := x8) r_195_224 (n_195_224 _) rfl ?_
          refine wp_stat (rest := [rf 253, iv (zel x9 (zI s 257 (x9 - 100))), iv (zup x3 x11)]) (Ls := [(0, iv x1), (1, iv x8)]) r_195_226 (n_195_226 _) rfl ⟨rfl, by decide, by decide, by decide⟩ rfl rfl ⟨rfl, Nat.le_of_ble_eq_true rfl, Nat.le_of_ble_eq_true rfl⟩ rfl K_Model_field ?_
          rintro _ _ ⟨rfl, rfl⟩
          refine .inl ⟨some (iv (((1 + (26 * x1)) + 2) + (3 * x8))), rfl, ?_⟩
          show wp S 195 229 [(0, rf 252), (1, iv x1), (2, iv x2), (3, iv (zup x3 x11)), (4, iv (-1)), (5, iv x90), (6, iv x6), (7, iv x7), (8, iv x8), (9, iv x9), (11, iv x11), (12, iv x90)] [iv (((1 + (26 * x1)) + 2) + (3 * x8)), rf 253, iv (zel x9 (zI s 257 (x9 - 100))), iv (zup x3 x11)] (zwI (zwI s 266 x8 (zup x3 x11)) 267 x8 0) Q
          refine i_iconst r_195_229 (n_195_229 _) ?_
          refine i_iadd r_195_230 (n_195_230 _) ?_
          obtain ⟨g45, h⟩ := h
          have e47 : zI (zwI (zwI s 266 x8 (zup x3 x11)) 267 x8 0) 253 ((((1 + (26 * x1)) + 2) + (3 * x8)) + 2) = zI s 253 ((((1 + (26 * x1)) + 2) + (3 * x8)) + 2) := (zI_ne (by omega)).trans (zI_ne (by omega))
          refine i_ialoade (a := 253) (j := (((1 + (26 * x1)) + 2) + (3 * x8)) + 2) (x := zI s 253 ((((1 + (26 * x1)) + 2) + (3 * x8)) + 2)) r_195_231 (n_195_231 _) lf_253 ⟨by omega, by omega⟩ (by omega) (by omega) e47 (fun q46 => ?_)
          refine i_imul r_195_232 (n_195_232 _) ?_
          refine i_iadd r_195_233 (n_195_233 _) ?_
          refine i_istore_n (l' := [(0, rf 252), (1, iv x1), (2, iv x2), (3, iv ((zup x3 x11) + ((zel x9 (zI s 257 (x9 - 100))) * (zI s 253 ((((1 + (26 * x1)) + 2) + (3 * x8)) + 2))))), (4, iv (-1)), (5, iv x90), (6, iv x6), (7, iv x7), (8, iv x8), (9, iv x9), (11, iv x11), (12, iv x90)]) r_195_234 (n_195_234 _) (by decide) rfl ?_
          refine i_iinc (x := x7) (l' := [(0, rf 252), (1, iv x1), (2, iv x2), (3, iv ((zup x3 x11) + ((zel x9 (zI s 257 (x9 - 100))) * (zI s 253 ((((1 + (26 * x1)) + 2) + (3 * x8)) + 2))))), (4, iv (-1)), (5, iv x90), (6, iv x6), (7, iv (x7 + 1)), (8, iv x8), (9, iv x9), (11, iv x11), (12, iv x90)]) r_195_235 (n_195_235 _) (by decide) rfl rfl ?_
          refine i_goto (t := 24) r_195_238 (n_195_238 _) rfl ?_
          exact wp_pr (l' := [(0, rf 252), (1, iv x1), (2, iv x2), (3, iv ((zup x3 x11) + ((zel x9 (zI s 257 (x9 - 100))) * (zI s 253 ((((1 + (26 * x1)) + 2) + (3 * x8)) + 2))))), (4, iv (-1)), (5, iv x90), (6, iv x6), (7, iv (x7 + 1))]) rfl h
        · replace h := h.2 c39
          refine i_iconst r_195_209 (n_195_209 _) ?_
          refine i_goto (t := 233) r_195_210 (n_195_210 _) rfl ?_
          refine i_iadd r_195_233 (n_195_233 _) ?_
          refine i_istore_n (l' := [(0, rf 252), (1, iv x1), (2, iv x2), (3, iv ((zup x3 x11) + 2)), (4, iv (-1)), (5, iv x90), (6, iv x6), (7, iv x7), (8, iv x8), (9, iv x9), (11, iv x11), (12, iv x90)]) r_195_234 (n_195_234 _) (by decide) rfl ?_
          refine i_iinc (x := x7) (l' := [(0, rf 252), (1, iv x1), (2, iv x2), (3, iv ((zup x3 x11) + 2)), (4, iv (-1)), (5, iv x90), (6, iv x6), (7, iv (x7 + 1)), (8, iv x8), (9, iv x9), (11, iv x11), (12, iv x90)]) r_195_235 (n_195_235 _) (by decide) rfl rfl ?_
          refine i_goto (t := 24) r_195_238 (n_195_238 _) rfl ?_
          exact wp_pr (l' := [(0, rf 252), (1, iv x1), (2, iv x2), (3, iv ((zup x3 x11) + 2)), (4, iv (-1)), (5, iv x90), (6, iv x6), (7, iv (x7 + 1))]) rfl h
      · replace h := h.2 c38
        refine i_iload_n (x := zup x3 x11) r_195_192 (n_195_192 _) rfl ?_
        refine i_goto (t := 197) r_195_193 (n_195_193 _) rfl ?_
        refine i_istore (l' := [(0, rf 252), (1, iv x1), (2, iv x2), (3, iv (zup x3 x11)), (4, iv (zup x3 x11)), (5, iv x5), (6, iv x6), (7, iv x7), (8, iv x8), (9, iv x9), (11, iv x11), (12, iv x90)]) r_195_197 (n_195_197 _) (by decide) rfl ?_
        refine i_iload (x := x90) r_195_199 (n_195_199 _) rfl ?_
        refine i_istore (l' := [(0, rf 252), (1, iv x1), (2, iv x2), (3, iv (zup x3 x11)), (4, iv (zup x3 x11)), (5, iv x90), (6, iv x6), (7, iv x7), (8, iv x8), (9, iv x9), (11, iv x11), (12, iv x90)]) r_195_201 (n_195_201 _) (by decide) rfl ?_
        refine i_iload_n (x := zup x3 x11) r_195_203 (n_195_203 _) rfl ?_
        refine i_iload (x := x90) r_195_204 (n_195_204 _) rfl ?_
        refine i_if (t := 213) r_195_206 (n_195_206 _) rfl (T_le g1 ⟨by omega, by omega⟩) (fun c48 => ?_) (fun c48 => ?_)
        · replace h := h.1 c48
          refine i_aload_n (a := 252) r_195_213 (n_195_213 _) rfl ?_
          refine i_iload (x := x9) r_195_214 (n_195_214 _) rfl ?_
          have e49 : zI (zwI (zwI s 266 x8 (zup x3 x11)) 267 x8 0) 257 (x9 - 100) = zI s 257 (x9 - 100) := (zI_ne (by omega)).trans (zI_ne (by omega))
          obtain ⟨g50, h⟩ := h
          obtain ⟨g51, h⟩ := h
          refine wp_virt (b := 252) (rest := [iv (zup x3 x11)]) (Ls := [(0, rf 252), (1, iv x9)]) r_195_216 (n_195_216 _) rfl ⟨rfl, rfl, by decide, by decide⟩ rfl rfl lf_252 ⟨rfl, Nat.le_of_ble_eq_true rfl, Nat.le_of_ble_eq_true rfl⟩ rfl (K_Model_elementSize (by (try rw [e49]); exact g50) (by (try rw [e49]); exact g51)) ?_
          rintro _ _ ⟨rfl, rfl⟩
          refine .inl ⟨some (iv (zel x9 (zI s 257 (x9 - 100)))), by (try rw [e49]); (try rfl), ?_⟩
          show wp S 195 219 [(0, rf 252), (1, iv x1), (2, iv x2), (3, iv (zup x3 x11)), (4, iv (zup x3 x11)), (5, iv x90), (6, iv x6), (7, iv x7), (8, iv x8), (9, iv x9), (11, iv x11), (12, iv x90)] [iv (zel x9 (zI s 257 (x9 - 100))), iv (zup x3 x11)] (zwI (zwI s 266 x8 (zup x3 x11)) 267 x8 0) Q
          refine i_aload_n (a := 252) r_195_219 (n_195_219 _) rfl ?_
          refine i_getR (a := 252) (b := 253) r_195_220 (n_195_220 _) rfl rfl rfl (by omega) lf_252 (by omega) ?_
          refine i_iload_n (x := x1) r_195_223 (n_195_223 _) rfl ?_
          refine i_iload (x := x8) r_195_224 (n_195_224 _) rfl ?_
          refine wp_stat (rest := [rf 253, iv (zel x9 (zI s 257 (x9 - 100))), iv (zup x3 x11)]) (Ls := [(0, iv x1), (1, iv x8)]) r_195_226 (n_195_226 _) rfl ⟨rfl, by decide, by decide, by decide⟩ rfl rfl ⟨rfl, Nat.le_of_ble_eq_true rfl, Nat.le_of_ble_eq_true rfl⟩ rfl K_Model_field ?_
          rintro _ _ ⟨rfl, rfl⟩
          refine .inl ⟨some (iv (((1 + (26 * x1)) + 2) + (3 * x8))), rfl, ?_⟩
          show wp S 195 229 [(0, rf 252), (1, iv x1), (2, iv x2), (3, iv (zup x3 x11)), (4, iv (zup x3 x11)), (5, iv x90), (6, iv x6), (7, iv x7), (8, iv x8), (9, iv x9), (11, iv x11), (12, iv x90)] [iv (((1 + (26 * x1)) + 2) + (3 * x8)), rf 253, iv (zel x9 (zI s 257 (x9 - 100))), iv (zup x3 x11)] (zwI (zwI s 266 x8 (zup x3 x11)) 267 x8 0) Q
          refine i_iconst r_195_229 (n_195_229 _) ?_
          refine i_iadd r_195_230 (n_195_230 _) ?_
          obtain ⟨g54, h⟩ := h
          have e56 : zI (zwI (zwI s 266 x8 (zup x3 x11)) 267 x8 0) 253 ((((1 + (26 * x1)) + 2) + (3 * x8)) + 2) = zI s 253 ((((1 + (26 * x1)) + 2) + (3 * x8)) + 2) := (zI_ne (by omega)).trans (zI_ne (by omega))
          refine i_ialoade (a := 253) (j := (((1 + (26 * x1)) + 2) + (3 * x8)) + 2) (x := zI s 253 ((((1 + (26 * x1)) + 2) + (3 * x8)) + 2)) r_195_231 (n_195_231 _) lf_253 ⟨by omega, by omega⟩ (by omega) (by omega) e56 (fun q55 => ?_)
          refine i_imul r_195_232 (n_195_232 _) ?_
          refine i_iadd r_195_233 (n_195_233 _) ?_
          refine i_istore_n (l' := [(0, rf 252), (1, iv x1), (2, iv x2), (3, iv ((zup x3 x11) + ((zel x9 (zI s 257 (x9 - 100))) * (zI s 253 ((((1 + (26 * x1)) + 2) + (3 * x8)) + 2))))), (4, iv (zup x3 x11)), (5, iv x90), (6, iv x6), (7, iv x7), (8, iv x8), (9, iv x9), (11, iv x11), (12, iv x90)]) r_195_234 (n_195_234 _) (by decide) rfl ?_
          refine i_iinc (x := x7) (l' := [(0, rf 252), (1, iv x1), (2, iv x2), (3, iv ((zup x3 x11) + ((zel x9 (zI s 257 (x9 - 100))) * (zI s 253 ((((1 + (26 * x1)) + 2) + (3 * x8)) + 2))))), (4, iv (zup x3 x11)), (5, iv x90), (6, iv x6), (7, iv (x7 + 1)), (8, iv x8), (9, iv x9), (11, iv x11), (12, iv x90)]) r_195_235 (n_195_235 _) (by decide) rfl rfl ?_
          refine i_goto (t := 24) r_195_238 (n_195_238 _) rfl ?_
          exact wp_pr (l' := [(0, rf 252), (1, iv x1), (2, iv x2), (3, iv ((zup x3 x11) + ((zel x9 (zI s 257 (x9 - 100))) * (zI s 253 ((((1 + (26 * x1)) + 2) + (3 * x8)) + 2))))), (4, iv (zup x3 x11)), (5, iv x90), (6, iv x6), (7, iv (x7 + 1))]) rfl h
        · replace h := h.2 c48
          refine i_iconst r_195_209 (n_195_209 _) ?_
          refine i_goto (t := 233) r_195_210 (n_195_210 _) rfl ?_
          refine i_iadd r_195_233 (n_195_233 _) ?_
          refine i_istore_n (l' := [(0, rf 252), (1, iv x1), (2, iv x2), (3, iv ((zup x3 x11) + 2)), (4, iv (zup x3 x11)), (5, iv x90), (6, iv x6), (7, iv x7), (8, iv x8), (9, iv x9), (11, iv x11), (12, iv x90)]) r_195_234 (n_195_234 _) (by decide) rfl ?_
          refine i_iinc (x := x7) (l' := [(0, rf 252), (1, iv x1), (2, iv x2), (3, iv ((zup x3 x11) + 2)), (4, iv (zup x3 x11)), (5, iv x90), (6, iv x6), (7, iv (x7 + 1)), (8, iv x8), (9, iv x9), (11, iv x11), (12, iv x90)]) r_195_235 (n_195_235 _) (by decide) rfl rfl ?_
          refine i_goto (t := 24) r_195_238 (n_195_238 _) rfl ?_
          exact wp_pr (l' := [(0, rf 252), (1, iv x1), (2, iv x2), (3, iv ((zup x3 x11) + 2)), (4, iv (zup x3 x11)), (5, iv x90), (6, iv x6), (7, iv (x7 + 1))]) rfl h
    · replace h := h.2 c30
      refine i_iload (x := x5) r_195_126 (n_195_126 _) rfl ?_
      refine i_iload (x := x90) r_195_128 (n_195_128 _) rfl ?_
      refine i_iadd r_195_130 (n_195_130 _) ?_
      refine i_bipush r_195_131 (n_195_131 _) rfl ?_
      obtain ⟨g57, h⟩ := h
      refine i_icmp (t := 164) r_195_133 (n_195_133 _) rfl (T_gt g57 ⟨by omega, by omega⟩) (fun c58 => ?_) (fun c58 => ?_)
      · replace h := h.1 c58
        refine i_iload_n (x := x3) r_195_164 (n_195_164 _) rfl ?_
        refine i_iload (x := x11) r_195_165 (n_195_165 _) rfl ?_
        obtain ⟨g59, h⟩ := h
        obtain ⟨g60, h⟩ := h
        obtain ⟨g61, h⟩ := h
        obtain ⟨g62, h⟩ := h
        refine wp_stat (rest := []) (Ls := [(0, iv x3), (1, iv x11)]) r_195_167 (n_195_167 _) rfl ⟨rfl, by decide, by decide, by decide⟩ rfl rfl ⟨rfl, Nat.le_of_ble_eq_true rfl, Nat.le_of_ble_eq_true rfl⟩ rfl (K_Model_up g59 g60 g61 g62) ?_
        rintro _ _ ⟨rfl, rfl⟩
        refine .inl ⟨some (iv (zup x3 x11)), rfl, ?_⟩
        show wp S 195 170 [(0, rf 252), (1, iv x1), (2, iv x2), (3, iv x3), (4, iv x4), (5, iv x5), (6, iv x6), (7, iv x7), (8, iv x8), (9, iv x9), (11, iv x11), (12, iv x90)] [iv (zup x3 x11)] s Q
        refine i_istore_n (l' := [(0, rf 252), (1, iv x1), (2, iv x2), (3, iv (zup x3 x11)), (4, iv x4), (5, iv x5), (6, iv x6), (7, iv x7), (8, iv x8), (9, iv x9), (11, iv x11), (12, iv x90)]) r_195_170 (n_195_170 _) (by decide) rfl ?_
        refine i_aload_n (a := 252) r_195_171 (n_195_171 _) rfl ?_
        refine i_getR (a := 252) (b := 266) r_195_172 (n_195_172 _) rfl rfl rfl (by omega) lf_252 (by omega) ?_
        refine i_iload (x := x8) r_195_175 (n_195_175 _) rfl ?_
        refine i_iload_n (x := zup x3 x11) r_195_177 (n_195_177 _) rfl ?_
        obtain ⟨g64, h⟩ := h
        obtain ⟨g65, h⟩ := h
        refine i_iastore (a := 266) (j := x8) (x := zup x3 x11) r_195_178 (n_195_178 _) lf_266 ⟨by omega, by omega⟩ (by omega) (by omega) g65 ?_
        refine i_aload_n (a := 252) r_195_179 (n_195_179 _) rfl ?_
        refine i_getR (a := 252) (b := 267) r_195_180 (n_195_180 _) rfl rfl rfl (by omega) lf_252 (by omega) ?_
        refine i_iload (x := x8) r_195_183 (n_195_183 _) rfl ?_
        refine i_iconst r_195_185 (n_195_185 _) ?_
        refine i_iastore (a := 267) (j := x8) (x := 0) r_195_186 (n_195_186 _) lf_267 ⟨by omega, by omega⟩ (by omega) (by omega) ⟨by omega, by omega⟩ ?_
        refine i_iload (x := x90) r_195_187 (n_195_187 _) rfl ?_
        refine i_if (t := 196) r_195_189 (n_195_189 _) rfl (T_le g1 ⟨by omega, by omega⟩) (fun c66 => ?_) (fun c66 => ?_)
        · replace h := h.1 c66
          refine i_iconst r_195_196 (n_195_196 _) ?_
          refine i_istore (l' := [(0, rf 252), (1, iv x1), (2, iv x2), (3, iv (zup x3 x11)), (4, iv (-1)), (5, iv x5), (6, iv x6), (7, iv x7), (8, iv x8), (9, iv x9), (11, iv x11), (12, iv x90)]) r_195_197 (n_195_197 _) (by decide) rfl ?_
          refine i_iload (x := x90) r_195_199 (n_195_199 _) rfl ?_
          refine i_istore (l' := [(0, rf 252), (1, iv x1), (2, iv x2), (3, iv (zup x3 x11)), (4, iv (-1)), (5, iv x90), (6, iv x6), (7, iv x7), (8, iv x8), (9, iv x9), (11, iv x11), (12, iv x90)]) r_195_201 (n_195_201 _) (by decide) rfl ?_
          refine i_iload_n (x := zup x3 x11) r_195_203 (n_195_203 _) rfl ?_
          refine i_iload (x := x90) r_195_204 (n_195_204 _) rfl ?_
          refine i_if (t := 213) r_195_206 (n_195_206 _) rfl (T_le g1 ⟨by omega, by omega⟩) (fun c67 => ?_) (fun c67 => ?_)
          · replace h := h.1 c67
            refine i_aload_n (a := 252) r_195_213 (n_195_213 _) rfl ?_
            refine i_iload (x := x9) r_195_214 (n_195_214 _) rfl ?_
            have e68 : zI (zwI (zwI s 266 x8 (zup x3 x11)) 267 x8 0) 257 (x9 - 100) = zI s 257 (x9 - 100) := (zI_ne (by omega)).trans (zI_ne (by omega))
            obtain ⟨g69, h⟩ := h
            obtain ⟨g70, h⟩ := h
            refine wp_virt (b := 252) (rest := [iv (zup x3 x11)]) (Ls := [(0, rf 252), (1, iv x9)]) r_195_216 (n_195_216 _) rfl ⟨rfl, rfl, by decide, by decide⟩ rfl rfl lf_252 ⟨rfl, Nat.le_of_ble_eq_true rfl, Nat.le_of_ble_eq_true rfl⟩ rfl (K_Model_elementSize (by (try rw [e68]); exact g69) (by (try rw [e68]); exact g70)) ?_
            rintro _ _ ⟨rfl, rfl⟩
            refine .inl ⟨some (iv (zel x9 (zI s 257 (x9 - 100)))), by (try rw [e68]); (try rfl), ?_⟩
            show wp S 195 219 [(0, rf 252), (1, iv x1), (2, iv x2), (3, iv (zup x3 x11)), (4, iv (-1)), (5, iv x90), (6, iv x6), (7, iv x7), (8, iv x8), (9, iv x9), (11, iv x11), (12, iv x90)] [iv (zel x9 (zI s 257 (x9 - 100))), iv (zup x3 x11)] (zwI (zwI s 266 x8 (zup x3 x11)) 267 x8 0) Q
            refine i_aload_n (a := 252) r_195_219 (n_195_219 _) rfl ?_
            refine i_getR (a := 252) (b := 253) r_195_220 (n_195_220 _) rfl rfl rfl (by omega) lf_252 (by omega) ?_
            refine i_iload_n (x := x1) r_195_223 (n_195_223 _) rfl ?_
            refine i_iload (x := x8) r_195_224 (n_195_224 _) rfl ?_
            refine wp_stat (rest := [rf 253, iv (zel x9 (zI s 257 (x9 - 100))), iv (zup x3 x11)]) (Ls := [(0, iv x1), (1, iv x8)]) r_195_226 (n_195_226 _) rfl ⟨rfl, by decide, by decide, by decide⟩ rfl rfl ⟨rfl, Nat.le_of_ble_eq_true rfl, Nat.le_of_ble_eq_true rfl⟩ rfl K_Model_field ?_
            rintro _ _ ⟨rfl, rfl⟩
            refine .inl ⟨some (iv (((1 + (26 * x1)) + 2) + (3 * x8))), rfl, ?_⟩
            show wp S 195 229 [(0, rf 252), (1, iv x1), (2, iv x2), (3, iv (zup x3 x11)), (4, iv (-1)), (5, iv x90), (6, iv x6), (7, iv x7), (8, iv x8), (9, iv x9), (11, iv x11), (12, iv x90)] [iv (((1 + (26 * x1)) + 2) + (3 * x8)), rf 253, iv (zel x9 (zI s 257 (x9 - 100))), iv (zup x3 x11)] (zwI (zwI s 266 x8 (zup x3 x11)) 267 x8 0) Q
            refine i_iconst r_195_229 (n_195_229 _) ?_
            refine i_iadd r_195_230 (n_195_230 _) ?_
            obtain ⟨g73, h⟩ := h
            have e75 : zI (zwI (zwI s 266 x8 (zup x3 x11)) 267 x8 0) 253 ((((1 + (26 * x1)) + 2) + (3 * x8)) + 2) = zI s 253 ((((1 + (26 * x1)) + 2) + (3 * x8)) + 2) := (zI_ne (by omega)).trans (zI_ne (by omega))
            refine i_ialoade (a := 253) (j := (((1 + (26 * x1)) + 2) + (3 * x8)) + 2) (x := zI s 253 ((((1 + (26 * x1)) + 2) + (3 * x8)) + 2)) r_195_231 (n_195_231 _) lf_253 ⟨by omega, by omega⟩ (by omega) (by omega) e75 (fun q74 => ?_)
            refine i_imul r_195_232 (n_195_232 _) ?_
            refine i_iadd r_195_233 (n_195_233 _) ?_
            refine i_istore_n (l' := [(0, rf 252), (1, iv x1), (2, iv x2), (3, iv ((zup x3 x11) + ((zel x9 (zI s 257 (x9 - 100))) * (zI s 253 ((((1 + (26 * x1)) + 2) + (3 * x8)) + 2))))), (4, iv (-1)), (5, iv x90), (6, iv x6), (7, iv x7), (8, iv x8), (9, iv x9), (11, iv x11), (12, iv x90)]) r_195_234 (n_195_234 _) (by decide) rfl ?_
            refine i_iinc (x := x7) (l' := [(0, rf 252), (1, iv x1), (2, iv x2), (3, iv ((zup x3 x11) + ((zel x9 (zI s 257 (x9 - 100))) * (zI s 253 ((((1 + (26 * x1)) + 2) + (3 * x8)) + 2))))), (4, iv (-1)), (5, iv x90), (6, iv x6), (7, iv (x7 + 1)), (8, iv x8), (9, iv x9), (11, iv x11), (12, iv x90)]) r_195_235 (n_195_235 _) (by decide) rfl rfl ?_
            refine i_goto (t := 24) r_195_238 (n_195_238 _) rfl ?_
            exact wp_pr (l' := [(0, rf 252), (1, iv x1), (2, iv x2), (3, iv ((zup x3 x11) + ((zel x9 (zI s 257 (x9 - 100))) * (zI s 253 ((((1 + (26 * x1)) + 2) + (3 * x8)) + 2))))), (4, iv (-1)), (5, iv x90), (6, iv x6), (7, iv (x7 + 1))]) rfl h
          · replace h := h.2 c67
            refine i_iconst r_195_209 (n_195_209 _) ?_
            refine i_goto (t := 233) r_195_210 (n_195_210 _) rfl ?_
            refine i_iadd r_195_233 (n_195_233 _) ?_
            refine i_istore_n (l' := [(0, rf 252), (1, iv x1), (2, iv x2), (3, iv ((zup x3 x11) + 2)), (4, iv (-1)), (5, iv x90), (6, iv x6), (7, iv x7), (8, iv x8), (9, iv x9), (11, iv x11), (12, iv x90)]) r_195_234 (n_195_234 _) (by decide) rfl ?_
            refine i_iinc (x := x7) (l' := [(0, rf 252), (1, iv x1), (2, iv x2), (3, iv ((zup x3 x11) + 2)), (4, iv (-1)), (5, iv x90), (6, iv x6), (7, iv (x7 + 1)), (8, iv x8), (9, iv x9), (11, iv x11), (12, iv x90)]) r_195_235 (n_195_235 _) (by decide) rfl rfl ?_
            refine i_goto (t := 24) r_195_238 (n_195_238 _) rfl ?_
            exact wp_pr (l' := [(0, rf 252), (1, iv x1), (2, iv x2), (3, iv ((zup x3 x11) + 2)), (4, iv (-1)), (5, iv x90), (6, iv x6), (7, iv (x7 + 1))]) rfl h
        · replace h := h.2 c66
          refine i_iload_n (x := zup x3 x11) r_195_192 (n_195_192 _) rfl ?_
          refine i_goto (t := 197) r_195_193 (n_195_193 _) rfl ?_
          refine i_istore (l' := [(0, rf 252), (1, iv x1), (2, iv x2), (3, iv (zup x3 x11)), (4, iv (zup x3 x11)), (5, iv x5), (6, iv x6), (7, iv x7), (8, iv x8), (9, iv x9), (11, iv x11), (12, iv x90)]) r_195_197 (n_195_197 _) (by decide) rfl ?_
          refine i_iload (x := x90) r_195_199 (n_195_199 _) rfl ?_
          refine i_istore (l' := [(0, rf 252), (1, iv x1), (2, iv x2), (3, iv (zup x3 x11)), (4, iv (zup x3 x11)), (5, iv x90), (6, iv x6), (7, iv x7), (8, iv x8), (9, iv x9), (11, iv x11), (12, iv x90)]) r_195_201 (n_195_201 _) (by decide) rfl ?_
          refine i_iload_n (x := zup x3 x11) r_195_203 (n_195_203 _) rfl ?_
          refine i_iload (x := x90) r_195_204 (n_195_204 _) rfl ?_
          refine i_if (t := 213) r_195_206 (n_195_206 _) rfl (T_le g1 ⟨by omega, by omega⟩) (fun c76 => ?_) (fun c76 => ?_)
          · replace h := h.1 c76
            refine i_aload_n (a := 252) r_195_213 (n_195_213 _) rfl ?_
            refine i_iload (x := x9) r_195_214 (n_195_214 _) rfl ?_
            have e77 : zI (zwI (zwI s 266 x8 (zup x3 x11)) 267 x8 0) 257 (x9 - 100) = zI s 257 (x9 - 100) := (zI_ne (by omega)).trans (zI_ne (by omega))
            obtain ⟨g78, h⟩ := h
            obtain ⟨g79, h⟩ := h
            refine wp_virt (b := 252) (rest := [iv (zup x3 x11)]) (Ls := [(0, rf 252), (1, iv x9)]) r_195_216 (n_195_216 _) rfl ⟨rfl, rfl, by decide, by decide⟩ rfl rfl lf_252 ⟨rfl, Nat.le_of_ble_eq_true rfl, Nat.le_of_ble_eq_true rfl⟩ rfl (K_Model_elementSize (by (try rw [e77]); exact g78) (by (try rw [e77]); exact g79)) ?_
            rintro _ _ ⟨rfl, rfl⟩
            refine .inl ⟨some (iv (zel x9 (zI s 257 (x9 - 100)))), by (try rw [e77]); (try rfl), ?_⟩
            show wp S 195 219 [(0, rf 252), (1, iv x1), (2, iv x2), (3, iv (zup x3 x11)), (4, iv (zup x3 x11)), (5, iv x90), (6, iv x6), (7, iv x7), (8, iv x8), (9, iv x9), (11, iv x11), (12, iv x90)] [iv (zel x9 (zI s 257 (x9 - 100))), iv (zup x3 x11)] (zwI (zwI s 266 x8 (zup x3 x11)) 267 x8 0) Q
            refine i_aload_n (a := 252) r_195_219 (n_195_219 _) rfl ?_
            refine i_getR (a := 252) (b := 253) r_195_220 (n_195_220 _) rfl rfl rfl (by omega) lf_252 (by omega) ?_
            refine i_iload_n (x := x1) r_195_223 (n_195_223 _) rfl ?_
            refine i_iload (x := x8) r_195_224 (n_195_224 _) rfl ?_
            refine wp_stat (rest := [rf 253, iv (zel x9 (zI s 257 (x9 - 100))), iv (zup x3 x11)]) (Ls := [(0, iv x1), (1, iv x8)]) r_195_226 (n_195_226 _) rfl ⟨rfl, by decide, by decide, by decide⟩ rfl rfl ⟨rfl, Nat.le_of_ble_eq_true rfl, Nat.le_of_ble_eq_true rfl⟩ rfl K_Model_field ?_
            rintro _ _ ⟨rfl, rfl⟩
            refine .inl ⟨some (iv (((1 + (26 * x1)) + 2) + (3 * x8))), rfl, ?_⟩
            show wp S 195 229 [(0, rf 252), (1, iv x1), (2, iv x2), (3, iv (zup x3 x11)), (4, iv (zup x3 x11)), (5, iv x90), (6, iv x6), (7, iv x7), (8, iv x8), (9, iv x9), (11, iv x11), (12, iv x90)] [iv (((1 + (26 * x1)) + 2) + (3 * x8)), rf 253, iv (zel x9 (zI s 257 (x9 - 100))), iv (zup x3 x11)] (zwI (zwI s 266 x8 (zup x3 x11)) 267 x8 0) Q
            refine i_iconst r_195_229 (n_195_229 _) ?_
            refine i_iadd r_195_230 (n_195_230 _) ?_
            obtain ⟨g82, h⟩ := h
            have e84 : zI (zwI (zwI s 266 x8 (zup x3 x11)) 267 x8 0) 253 ((((1 + (26 * x1)) + 2) + (3 * x8)) + 2) = zI s 253 ((((1 + (26 * x1)) + 2) + (3 * x8)) + 2) := (zI_ne (by omega)).trans (zI_ne (by omega))
            refine i_ialoade (a := 253) (j := (((1 + (26 * x1)) + 2) + (3 * x8)) + 2) (x := zI s 253 ((((1 + (26 * x1)) + 2) + (3 * x8)) + 2)) r_195_231 (n_195_231 _) lf_253 ⟨by omega, by omega⟩ (by omega) (by omega) e84 (fun q83 => ?_)
            refine i_imul r_195_232 (n_195_232 _) ?_
            refine i_iadd r_195_233 (n_195_233 _) ?_
            refine i_istore_n (l' := [(0, rf 252), (1, iv x1), (2, iv x2), (3, iv ((zup x3 x11) + ((zel x9 (zI s 257 (x9 - 100))) * (zI s 253 ((((1 + (26 * x1)) + 2) + (3 * x8)) + 2))))), (4, iv (zup x3 x11)), (5, iv x90), (6, iv x6), (7, iv x7), (8, iv x8), (9, iv x9), (11, iv x11), (12, iv x90)]) r_195_234 (n_195_234 _) (by decide) rfl ?_
            refine i_iinc (x := x7) (l' := [(0, rf 252), (1, iv x1), (2, iv x2), (3, iv ((zup x3 x11) + ((zel x9 (zI s 257 (x9 - 100))) * (zI s 253 ((((1 + (26 * x1)) + 2) + (3 * x8)) + 2))))), (4, iv (zup x3 x11)), (5, iv x90), (6, iv x6), (7, iv (x7 + 1)), (8, iv x8), (9, iv x9), (11, iv x11), (12, iv x90)]) r_195_235 (n_195_235 _) (by decide) rfl rfl ?_
            refine i_goto (t := 24) r_195_238 (n_195_238 _) rfl ?_
            exact wp_pr (l' := [(0, rf 252), (1, iv x1), (2, iv x2), (3, iv ((zup x3 x11) + ((zel x9 (zI s 257 (x9 - 100))) * (zI s 253 ((((1 + (26 * x1)) + 2) + (3 * x8)) + 2))))), (4, iv (zup x3 x11)), (5, iv x90), (6, iv x6), (7, iv (x7 + 1))]) rfl h
          · replace h := h.2 c76
            refine i_iconst r_195_209 (n_195_209 _) ?_
            refine i_goto (t := 233) r_195_210 (n_195_210 _) rfl ?_
            refine i_iadd r_195_233 (n_195_233 _) ?_
            refine i_istore_n (l' := [(0, rf 252), (1, iv x1), (2, iv x2), (3, iv ((zup x3 x11) + 2)), (4, iv (zup x3 x11)), (5, iv x90), (6, iv x6), (7, iv x7), (8, iv x8), (9, iv x9), (11, iv x11), (12, iv x90)]) r_195_234 (n_195_234 _) (by decide) rfl ?_
            refine i_iinc (x := x7) (l' := [(0, rf 252), (1, iv x1), (2, iv x2), (3, iv ((zup x3 x11) + 2)), (4, iv (zup x3 x11)), (5, iv x90), (6, iv x6), (7, iv (x7 + 1)), (8, iv x8), (9, iv x9), (11, iv x11), (12, iv x90)]) r_195_235 (n_195_235 _) (by decide) rfl rfl ?_
            refine i_goto (t := 24) r_195_238 (n_195_238 _) rfl ?_
            exact wp_pr (l' := [(0, rf 252), (1, iv x1), (2, iv x2), (3, iv ((zup x3 x11) + 2)), (4, iv (zup x3 x11)), (5, iv x90), (6, iv x6), (7, iv (x7 + 1))]) rfl h
      · replace h := h.2 c58
        refine i_aload_n (a := 252) r_195_136 (n_195_136 _) rfl ?_
        refine i_getR (a := 252) (b := 266) r_195_137 (n_195_137 _) rfl rfl rfl (by omega) lf_252 (by omega) ?_
        refine i_iload (x := x8) r_195_140 (n_195_140 _) rfl ?_
        refine i_iload (x := x4) r_195_142 (n_195_142 _) rfl ?_
        obtain ⟨g85, h⟩ := h
        refine i_iastore (a := 266) (j := x8) (x := x4) r_195_144 (n_195_144 _) lf_266 ⟨by omega, by omega⟩ (by omega) (by omega) g29 ?_
        refine i_aload_n (a := 252) r_195_145 (n_195_145 _) rfl ?_
        refine i_getR (a := 252) (b := 267) r_195_146 (n_195_146 _) rfl rfl rfl (by omega) lf_252 (by omega) ?_
        refine i_iload (x := x8) r_195_149 (n_195_149 _) rfl ?_
        refine i_iload (x := x5) r_195_151 (n_195_151 _) rfl ?_
        obtain ⟨g86, h⟩ := h
        refine i_iastore (a := 267) (j := x8) (x := x5) r_195_153 (n_195_153 _) lf_267 ⟨by omega, by omega⟩ (by omega) (by omega) g86 ?_
        refine i_iload (x := x5) r_195_154 (n_195_154 _) rfl ?_
        refine i_iload (x := x90) r_195_156 (n_195_156 _) rfl ?_
        refine i_iadd r_195_158 (n_195_158 _) ?_
        refine i_istore (l' := [(0, rf 252), (1, iv x1), (2, iv x2), (3, iv x3), (4, iv x4), (5, iv (x5 + x90)), (6, iv x6), (7, iv x7), (8, iv x8), (9, iv x9), (11, iv x11), (12, iv x90)]) r_195_159 (n_195_159 _) (by decide) rfl ?_
        refine i_goto (t := 235) r_195_161 (n_195_161 _) rfl ?_
        refine i_iinc (x := x7) (l' := [(0, rf 252), (1, iv x1), (2, iv x2), (3, iv x3), (4, iv x4), (5, iv (x5 + x90)), (6, iv x6), (7, iv (x7 + 1)), (8, iv x8), (9, iv x9), (11, iv x11), (12, iv x90)]) r_195_235 (n_195_235 _) (by decide) rfl rfl ?_
        refine i_goto (t := 24) r_195_238 (n_195_238 _) rfl ?_
        exact wp_pr (l' := [(0, rf 252), (1, iv x1), (2, iv x2), (3, iv x3), (4, iv x4), (5, iv (x5 + x90)), (6, iv x6), (7, iv (x7 + 1))]) rfl h
theorem r_200_0 : xfetch 200 0 = some (.aload_n 0, 1) := by decide +kernel
theorem n_200_0 : ∀ l, xpr 200 0 l = l := xpr_no (by decide +kernel)
theorem r_200_1 : xfetch 200 1 = some (.getfield 7, 3) := by decide +kernel
theorem n_200_1 : ∀ l, xpr 200 1 l = l := xpr_no (by decide +kernel)
theorem r_200_4 : xfetch 200 4 = some (.iload_n 1, 1) := by decide +kernel
theorem n_200_4 : ∀ l, xpr 200 4 l = l := xpr_no (by decide +kernel)
theorem r_200_5 : xfetch 200 5 = some (.iload_n 2, 1) := by decide +kernel
theorem n_200_5 : ∀ l, xpr 200 5 l = l := xpr_no (by decide +kernel)
theorem r_200_6 : xfetch 200 6 = some (.invokestatic 102, 3) := by decide +kernel
theorem n_200_6 : ∀ l, xpr 200 6 l = l := xpr_no (by decide +kernel)
theorem r_200_9 : xfetch 200 9 = some (.iconst 1, 1) := by decide +kernel
theorem n_200_9 : ∀ l, xpr 200 9 l = l := xpr_no (by decide +kernel)
theorem r_200_10 : xfetch 200 10 = some (.iadd, 1) := by decide +kernel
theorem n_200_10 : ∀ l, xpr 200 10 l = l := xpr_no (by decide +kernel)
theorem r_200_11 : xfetch 200 11 = some (.iaload, 1) := by decide +kernel
theorem n_200_11 : ∀ l, xpr 200 11 l = l := xpr_no (by decide +kernel)
theorem r_200_12 : xfetch 200 12 = some (.istore 4, 2) := by decide +kernel
theorem n_200_12 : ∀ l, xpr 200 12 l = l := xpr_no (by decide +kernel)
theorem r_200_14 : xfetch 200 14 = some (.iload 4, 2) := by decide +kernel
theorem n_200_14 : ∀ l, xpr 200 14 l = l := xpr_no (by decide +kernel)
theorem r_200_16 : xfetch 200 16 = some (.bipush 100, 2) := by decide +kernel
theorem n_200_16 : ∀ l, xpr 200 16 l = l := xpr_no (by decide +kernel)
theorem r_200_18 : xfetch 200 18 = some (.if_icmp .lt 16, 3) := by decide +kernel
theorem n_200_18 : ∀ l, xpr 200 18 l = l := xpr_no (by decide +kernel)
theorem r_200_21 : xfetch 200 21 = some (.aload_n 0, 1) := by decide +kernel
theorem n_200_21 : ∀ l, xpr 200 21 l = l := xpr_no (by decide +kernel)
theorem r_200_22 : xfetch 200 22 = some (.getfield 19, 3) := by decide +kernel
theorem n_200_22 : ∀ l, xpr 200 22 l = l := xpr_no (by decide +kernel)
theorem r_200_25 : xfetch 200 25 = some (.iload 4, 2) := by decide +kernel
theorem n_200_25 : ∀ l, xpr 200 25 l = l := xpr_no (by decide +kernel)
theorem r_200_27 : xfetch 200 27 = some (.bipush 100, 2) := by decide +kernel
theorem n_200_27 : ∀ l, xpr 200 27 l = l := xpr_no (by decide +kernel)
theorem r_200_29 : xfetch 200 29 = some (.isub, 1) := by decide +kernel
theorem n_200_29 : ∀ l, xpr 200 29 l = l := xpr_no (by decide +kernel)
theorem r_200_30 : xfetch 200 30 = some (.iaload, 1) := by decide +kernel
theorem n_200_30 : ∀ l, xpr 200 30 l = l := xpr_no (by decide +kernel)
theorem r_200_31 : xfetch 200 31 = some (.goto 4, 3) := by decide +kernel
theorem n_200_31 : ∀ l, xpr 200 31 l = l := xpr_no (by decide +kernel)
theorem r_200_34 : xfetch 200 34 = some (.iconst 1, 1) := by decide +kernel
theorem n_200_34 : ∀ l, xpr 200 34 l = l := xpr_no (by decide +kernel)
theorem r_200_35 : xfetch 200 35 = some (.istore 5, 2) := by decide +kernel
theorem n_200_35 : ∀ l, xpr 200 35 l = l := xpr_no (by decide +kernel)
theorem r_200_37 : xfetch 200 37 = some (.iconst 0, 1) := by decide +kernel
theorem n_200_37 : ∀ l, xpr 200 37 l = l := xpr_no (by decide +kernel)
theorem r_200_38 : xfetch 200 38 = some (.istore 6, 2) := by decide +kernel
theorem n_200_38 : ∀ l, xpr 200 38 l = l := xpr_no (by decide +kernel)
theorem r_200_40 : xfetch 200 40 = some (.iload 6, 2) := by decide +kernel
theorem r_200_42 : xfetch 200 42 = some (.iload 5, 2) := by decide +kernel
theorem n_200_42 : ∀ l, xpr 200 42 l = l := xpr_no (by decide +kernel)
theorem r_200_44 : xfetch 200 44 = some (.if_icmp .ge 264, 3) := by decide +kernel
theorem n_200_44 : ∀ l, xpr 200 44 l = l := xpr_no (by decide +kernel)
theorem r_200_47 : xfetch 200 47 = some (.bipush 40, 2) := by decide +kernel
theorem n_200_47 : ∀ l, xpr 200 47 l = l := xpr_no (by decide +kernel)
theorem r_200_49 : xfetch 200 49 = some (.iload_n 1, 1) := by decide +kernel
theorem n_200_49 : ∀ l, xpr 200 49 l = l := xpr_no (by decide +kernel)
theorem r_200_50 : xfetch 200 50 = some (.imul, 1) := by decide +kernel
theorem n_200_50 : ∀ l, xpr 200 50 l = l := xpr_no (by decide +kernel)
theorem r_200_51 : xfetch 200 51 = some (.aload_n 0, 1) := by decide +kernel
theorem n_200_51 : ∀ l, xpr 200 51 l = l := xpr_no (by decide +kernel)
theorem r_200_52 : xfetch 200 52 = some (.getfield 19, 3) := by decide +kernel
theorem n_200_52 : ∀ l, xpr 200 52 l = l := xpr_no (by decide +kernel)
theorem r_200_55 : xfetch 200 55 = some (.iload_n 1, 1) := by decide +kernel
theorem n_200_55 : ∀ l, xpr 200 55 l = l := xpr_no (by decide +kernel)
theorem r_200_56 : xfetch 200 56 = some (.iaload, 1) := by decide +kernel
theorem n_200_56 : ∀ l, xpr 200 56 l = l := xpr_no (by decide +kernel)
theorem r_200_57 : xfetch 200 57 = some (.iadd, 1) := by decide +kernel
theorem n_200_57 : ∀ l, xpr 200 57 l = l := xpr_no (by decide +kernel)
theorem r_200_58 : xfetch 200 58 = some (.istore 7, 2) := by decide +kernel
theorem n_200_58 : ∀ l, xpr 200 58 l = l := xpr_no (by decide +kernel)
theorem r_200_60 : xfetch 200 60 = some (.aload_n 0, 1) := by decide +kernel
theorem n_200_60 : ∀ l, xpr 200 60 l = l := xpr_no (by decide +kernel)
theorem r_200_61 : xfetch 200 61 = some (.getfield 49, 3) := by decide +kernel
theorem n_200_61 : ∀ l, xpr 200 61 l = l := xpr_no (by decide +kernel)
theorem r_200_64 : xfetch 200 64 = some (.iload_n 2, 1) := by decide +kernel
theorem n_200_64 : ∀ l, xpr 200 64 l = l := xpr_no (by decide +kernel)
theorem r_200_65 : xfetch 200 65 = some (.iaload, 1) := by decide +kernel
theorem n_200_65 : ∀ l, xpr 200 65 l = l := xpr_no (by decide +kernel)
theorem r_200_66 : xfetch 200 66 = some (.iload_n 3, 1) := by decide +kernel
theorem n_200_66 : ∀ l, xpr 200 66 l = l := xpr_no (by decide +kernel)
theorem r_200_67 : xfetch 200 67 = some (.aload_n 0, 1) := by decide +kernel
theorem n_200_67 : ∀ l, xpr 200 67 l = l := xpr_no (by decide +kernel)
theorem r_200_68 : xfetch 200 68 = some (.iload 4, 2) := by decide +kernel
theorem n_200_68 : ∀ l, xpr 200 68 l = l := xpr_no (by decide +kernel)
theorem r_200_70 : xfetch 200 70 = some (.invokevirtual 115, 3) := by decide +kernel
theorem n_200_70 : ∀ l, xpr 200 70 l = l := xpr_no (by decide +kernel)
theorem r_200_73 : xfetch 200 73 = some (.imul, 1) := by decide +kernel
theorem n_200_73 : ∀ l, xpr 200 73 l = l := xpr_no (by decide +kernel)
theorem r_200_74 : xfetch 200 74 = some (.iadd, 1) := by decide +kernel
theorem n_200_74 : ∀ l, xpr 200 74 l = l := xpr_no (by decide +kernel)
theorem r_200_75 : xfetch 200 75 = some (.istore 8, 2) := by decide +kernel
theorem n_200_75 : ∀ l, xpr 200 75 l = l := xpr_no (by decide +kernel)
theorem r_200_77 : xfetch 200 77 = some (.aload_n 0, 1) := by decide +kernel
theorem n_200_77 : ∀ l, xpr 200 77 l = l := xpr_no (by decide +kernel)
theorem r_200_78 : xfetch 200 78 = some (.getfield 43, 3) := by decide +kernel
theorem n_200_78 : ∀ l, xpr 200 78 l = l := xpr_no (by decide +kernel)
theorem r_200_81 : xfetch 200 81 = some (.iload 7, 2) := by decide +kernel
theorem n_200_81 : ∀ l, xpr 200 81 l = l := xpr_no (by decide +kernel)
theorem r_200_83 : xfetch 200 83 = some (.iconst 0, 1) := by decide +kernel
theorem n_200_83 : ∀ l, xpr 200 83 l = l := xpr_no (by decide +kernel)
theorem r_200_84 : xfetch 200 84 = some (.iastore, 1) := by decide +kernel
theorem n_200_84 : ∀ l, xpr 200 84 l = l := xpr_no (by decide +kernel)
theorem r_200_85 : xfetch 200 85 = some (.aload_n 0, 1) := by decide +kernel
theorem n_200_85 : ∀ l, xpr 200 85 l = l := xpr_no (by decide +kernel)
theorem r_200_86 : xfetch 200 86 = some (.iload_n 1, 1) := by decide +kernel
theorem n_200_86 : ∀ l, xpr 200 86 l = l := xpr_no (by decide +kernel)
theorem r_200_87 : xfetch 200 87 = some (.aload_n 0, 1) := by decide +kernel
theorem n_200_87 : ∀ l, xpr 200 87 l = l := xpr_no (by decide +kernel)
theorem r_200_88 : xfetch 200 88 = some (.getfield 7, 3) := by decide +kernel
theorem n_200_88 : ∀ l, xpr 200 88 l = l := xpr_no (by decide +kernel)
theorem r_200_91 : xfetch 200 91 = some (.iload_n 1, 1) := by decide +kernel
theorem n_200_91 : ∀ l, xpr 200 91 l = l := xpr_no (by decide +kernel)
theorem r_200_92 : xfetch 200 92 = some (.iload_n 2, 1) := by decide +kernel
theorem n_200_92 : ∀ l, xpr 200 92 l = l := xpr_no (by decide +kernel)
theorem r_200_93 : xfetch 200 93 = some (.invokestatic 102, 3) := by decide +kernel
theorem n_200_93 : ∀ l, xpr 200 93 l = l := xpr_no (by decide +kernel)
theorem r_200_96 : xfetch 200 96 = some (.iaload, 1) := by decide +kernel
theorem n_200_96 : ∀ l, xpr 200 96 l = l := xpr_no (by decide +kernel)
theorem r_200_97 : xfetch 200 97 = some (.invokevirtual 118, 3) := by decide +kernel
theorem n_200_97 : ∀ l, xpr 200 97 l = l := xpr_no (by decide +kernel)
theorem r_200_100 : xfetch 200 100 = some (.aload_n 0, 1) := by decide +kernel
theorem n_200_100 : ∀ l, xpr 200 100 l = l := xpr_no (by decide +kernel)
theorem r_200_101 : xfetch 200 101 = some (.getfield 7, 3) := by decide +kernel
theorem n_200_101 : ∀ l, xpr 200 101 l = l := xpr_no (by decide +kernel)
theorem r_200_104 : xfetch 200 104 = some (.iload_n 1, 1) := by decide +kernel
theorem n_200_104 : ∀ l, xpr 200 104 l = l := xpr_no (by decide +kernel)
theorem r_200_105 : xfetch 200 105 = some (.iload_n 2, 1) := by decide +kernel
theorem n_200_105 : ∀ l, xpr 200 105 l = l := xpr_no (by decide +kernel)
theorem r_200_106 : xfetch 200 106 = some (.invokestatic 102, 3) := by decide +kernel
theorem n_200_106 : ∀ l, xpr 200 106 l = l := xpr_no (by decide +kernel)
theorem r_200_109 : xfetch 200 109 = some (.iconst 2, 1) := by decide +kernel
theorem n_200_109 : ∀ l, xpr 200 109 l = l := xpr_no (by decide +kernel)
theorem r_200_110 : xfetch 200 110 = some (.iadd, 1) := by decide +kernel
theorem n_200_110 : ∀ l, xpr 200 110 l = l := xpr_no (by decide +kernel)
theorem r_200_111 : xfetch 200 111 = some (.iaload, 1) := by decide +kernel
theorem n_200_111 : ∀ l, xpr 200 111 l = l := xpr_no (by decide +kernel)
theorem r_200_112 : xfetch 200 112 = some (.iconst 1, 1) := by decide +kernel
theorem n_200_112 : ∀ l, xpr 200 112 l = l := xpr_no (by decide +kernel)
theorem r_200_113 : xfetch 200 113 = some (.if_icmp .le 26, 3) := by decide +kernel
theorem n_200_113 : ∀ l, xpr 200 113 l = l := xpr_no (by decide +kernel)
theorem r_200_116 : xfetch 200 116 = some (.aload_n 0, 1) := by decide +kernel
theorem n_200_116 : ∀ l, xpr 200 116 l = l := xpr_no (by decide +kernel)
theorem r_200_117 : xfetch 200 117 = some (.iload_n 1, 1) := by decide +kernel
theorem n_200_117 : ∀ l, xpr 200 117 l = l := xpr_no (by decide +kernel)
theorem r_200_118 : xfetch 200 118 = some (.bipush 91, 2) := by decide +kernel
theorem n_200_118 : ∀ l, xpr 200 118 l = l := xpr_no (by decide +kernel)
theorem r_200_120 : xfetch 200 120 = some (.invokevirtual 118, 3) := by decide +kernel
theorem n_200_120 : ∀ l, xpr 200 120 l = l := xpr_no (by decide +kernel)
theorem r_200_123 : xfetch 200 123 = some (.aload_n 0, 1) := by decide +kernel
theorem n_200_123 : ∀ l, xpr 200 123 l = l := xpr_no (by decide +kernel)
theorem r_200_124 : xfetch 200 124 = some (.iload_n 1, 1) := by decide +kernel
theorem n_200_124 : ∀ l, xpr 200 124 l = l := xpr_no (by decide +kernel)
theorem r_200_125 : xfetch 200 125 = some (.bipush 48, 2) := by decide +kernel
theorem n_200_125 : ∀ l, xpr 200 125 l = l := xpr_no (by decide +kernel)
theorem r_200_127 : xfetch 200 127 = some (.iload_n 3, 1) := by decide +kernel
theorem n_200_127 : ∀ l, xpr 200 127 l = l := xpr_no (by decide +kernel)
theorem r_200_128 : xfetch 200 128 = some (.iadd, 1) := by decide +kernel
theorem n_200_128 : ∀ l, xpr 200 128 l = l := xpr_no (by decide +kernel)
theorem r_200_129 : xfetch 200 129 = some (.invokevirtual 118, 3) := by decide +kernel
theorem n_200_129 : ∀ l, xpr 200 129 l = l := xpr_no (by decide +kernel)
theorem r_200_132 : xfetch 200 132 = some (.aload_n 0, 1) := by decide +kernel
theorem n_200_132 : ∀ l, xpr 200 132 l = l := xpr_no (by decide +kernel)
theorem r_200_133 : xfetch 200 133 = some (.iload_n 1, 1) := by decide +kernel
theorem n_200_133 : ∀ l, xpr 200 133 l = l := xpr_no (by decide +kernel)
theorem r_200_134 : xfetch 200 134 = some (.bipush 93, 2) := by decide +kernel
theorem n_200_134 : ∀ l, xpr 200 134 l = l := xpr_no (by decide +kernel)
theorem r_200_136 : xfetch 200 136 = some (.invokevirtual 118, 3) := by decide +kernel
theorem n_200_136 : ∀ l, xpr 200 136 l = l := xpr_no (by decide +kernel)
theorem r_200_139 : xfetch 200 139 = some (.aload_n 0, 1) := by decide +kernel
theorem n_200_139 : ∀ l, xpr 200 139 l = l := xpr_no (by decide +kernel)
theorem r_200_140 : xfetch 200 140 = some (.getfield 37, 3) := by decide +kernel
theorem n_200_140 : ∀ l, xpr 200 140 l = l := xpr_no (by decide +kernel)
theorem r_200_143 : xfetch 200 143 = some (.iload 7, 2) := by decide +kernel
theorem n_200_143 : ∀ l, xpr 200 143 l = l := xpr_no (by decide +kernel)
theorem r_200_145 : xfetch 200 145 = some (.iload_n 2, 1) := by decide +kernel
theorem n_200_145 : ∀ l, xpr 200 145 l = l := xpr_no (by decide +kernel)
theorem r_200_146 : xfetch 200 146 = some (.iastore, 1) := by decide +kernel
theorem n_200_146 : ∀ l, xpr 200 146 l = l := xpr_no (by decide +kernel)
theorem r_200_147 : xfetch 200 147 = some (.iload 4, 2) := by decide +kernel
theorem n_200_147 : ∀ l, xpr 200 147 l = l := xpr_no (by decide +kernel)
theorem r_200_149 : xfetch 200 149 = some (.bipush 100, 2) := by decide +kernel
theorem n_200_149 : ∀ l, xpr 200 149 l = l := xpr_no (by decide +kernel)
theorem r_200_151 : xfetch 200 151 = some (.if_icmp .lt 110, 3) := by decide +kernel
theorem n_200_151 : ∀ l, xpr 200 151 l = l := xpr_no (by decide +kernel)
theorem r_200_154 : xfetch 200 154 = some (.bipush 40, 2) := by decide +kernel
theorem n_200_154 : ∀ l, xpr 200 154 l = l := xpr_no (by decide +kernel)
theorem r_200_156 : xfetch 200 156 = some (.iload 4, 2) := by decide +kernel
theorem n_200_156 : ∀ l, xpr 200 156 l = l := xpr_no (by decide +kernel)
theorem r_200_158 : xfetch 200 158 = some (.bipush 100, 2) := by decide +kernel
theorem n_200_158 : ∀ l, xpr 200 158 l = l := xpr_no (by decide +kernel)
theorem r_200_160 : xfetch 200 160 = some (.isub, 1) := by decide +kernel
theorem n_200_160 : ∀ l, xpr 200 160 l = l := xpr_no (by decide +kernel)
theorem r_200_161 : xfetch 200 161 = some (.imul, 1) := by decide +kernel
theorem n_200_161 : ∀ l, xpr 200 161 l = l := xpr_no (by decide +kernel)
theorem r_200_162 : xfetch 200 162 = some (.iload 6, 2) := by decide +kernel
theorem n_200_162 : ∀ l, xpr 200 162 l = l := xpr_no (by decide +kernel)
theorem r_200_164 : xfetch 200 164 = some (.iadd, 1) := by decide +kernel
theorem n_200_164 : ∀ l, xpr 200 164 l = l := xpr_no (by decide +kernel)
theorem r_200_165 : xfetch 200 165 = some (.istore 9, 2) := by decide +kernel
theorem n_200_165 : ∀ l, xpr 200 165 l = l := xpr_no (by decide +kernel)
theorem r_200_167 : xfetch 200 167 = some (.aload_n 0, 1) := by decide +kernel
theorem n_200_167 : ∀ l, xpr 200 167 l = l := xpr_no (by decide +kernel)
theorem r_200_168 : xfetch 200 168 = some (.iload_n 1, 1) := by decide +kernel
theorem n_200_168 : ∀ l, xpr 200 168 l = l := xpr_no (by decide +kernel)
theorem r_200_169 : xfetch 200 169 = some (.bipush 46, 2) := by decide +kernel
theorem n_200_169 : ∀ l, xpr 200 169 l = l := xpr_no (by decide +kernel)
theorem r_200_171 : xfetch 200 171 = some (.invokevirtual 118, 3) := by decide +kernel
theorem n_200_171 : ∀ l, xpr 200 171 l = l := xpr_no (by decide +kernel)
theorem r_200_174 : xfetch 200 174 = some (.iconst 0, 1) := by decide +kernel
theorem n_200_174 : ∀ l, xpr 200 174 l = l := xpr_no (by decide +kernel)
theorem r_200_175 : xfetch 200 175 = some (.istore 10, 2) := by decide +kernel
theorem n_200_175 : ∀ l, xpr 200 175 l = l := xpr_no (by decide +kernel)
theorem r_200_177 : xfetch 200 177 = some (.iload 10, 2) := by decide +kernel
theorem r_200_179 : xfetch 200 179 = some (.aload_n 0, 1) := by decide +kernel
theorem n_200_179 : ∀ l, xpr 200 179 l = l := xpr_no (by decide +kernel)
theorem r_200_180 : xfetch 200 180 = some (.getfield 43, 3) := by decide +kernel
theorem n_200_180 : ∀ l, xpr 200 180 l = l := xpr_no (by decide +kernel)
theorem r_200_183 : xfetch 200 183 = some (.iload 9, 2) := by decide +kernel
theorem n_200_183 : ∀ l, xpr 200 183 l = l := xpr_no (by decide +kernel)
theorem r_200_185 : xfetch 200 185 = some (.iaload, 1) := by decide +kernel
theorem n_200_185 : ∀ l, xpr 200 185 l = l := xpr_no (by decide +kernel)
theorem r_200_186 : xfetch 200 186 = some (.if_icmp .ge 27, 3) := by decide +kernel
theorem n_200_186 : ∀ l, xpr 200 186 l = l := xpr_no (by decide +kernel)
theorem r_200_189 : xfetch 200 189 = some (.aload_n 0, 1) := by decide +kernel
theorem n_200_189 : ∀ l, xpr 200 189 l = l := xpr_no (by decide +kernel)
theorem r_200_190 : xfetch 200 190 = some (.iload_n 1, 1) := by decide +kernel
theorem n_200_190 : ∀ l, xpr 200 190 l = l := xpr_no (by decide +kernel)
theorem r_200_191 : xfetch 200 191 = some (.aload_n 0, 1) := by decide +kernel
theorem n_200_191 : ∀ l, xpr 200 191 l = l := xpr_no (by decide +kernel)
theorem r_200_192 : xfetch 200 192 = some (.getfield 40, 3) := by decide +kernel
theorem n_200_192 : ∀ l, xpr 200 192 l = l := xpr_no (by decide +kernel)
theorem r_200_195 : xfetch 200 195 = some (.bipush 32, 2) := by decide +kernel
theorem n_200_195 : ∀ l, xpr 200 195 l = l := xpr_no (by decide +kernel)
theorem r_200_197 : xfetch 200 197 = some (.iload 9, 2) := by decide +kernel
theorem n_200_197 : ∀ l, xpr 200 197 l = l := xpr_no (by decide +kernel)
theorem r_200_199 : xfetch 200 199 = some (.imul, 1) := by decide +kernel
theorem n_200_199 : ∀ l, xpr 200 199 l = l := xpr_no (by decide +kernel)
theorem r_200_200 : xfetch 200 200 = some (.iload 10, 2) := by decide +kernel
theorem n_200_200 : ∀ l, xpr 200 200 l = l := xpr_no (by decide +kernel)
theorem r_200_202 : xfetch 200 202 = some (.iadd, 1) := by decide +kernel
theorem n_200_202 : ∀ l, xpr 200 202 l = l := xpr_no (by decide +kernel)
theorem r_200_203 : xfetch 200 203 = some (.iaload, 1) := by decide +kernel
theorem n_200_203 : ∀ l, xpr 200 203 l = l := xpr_no (by decide +kernel)
theorem r_200_204 : xfetch 200 204 = some (.invokevirtual 118, 3) := by decide +kernel
theorem n_200_204 : ∀ l, xpr 200 204 l = l := xpr_no (by decide +kernel)
theorem r_200_207 : xfetch 200 207 = some (.iinc 10 1, 3) := by decide +kernel
theorem n_200_207 : ∀ l, xpr 200 207 l = l := xpr_no (by decide +kernel)
theorem r_200_210 : xfetch 200 210 = some (.goto (-33), 3) := by decide +kernel
theorem n_200_210 : ∀ l, xpr 200 210 l = l := xpr_no (by decide +kernel)
theorem r_200_213 : xfetch 200 213 = some (.aload_n 0, 1) := by decide +kernel
theorem n_200_213 : ∀ l, xpr 200 213 l = l := xpr_no (by decide +kernel)
theorem r_200_214 : xfetch 200 214 = some (.getfield 28, 3) := by decide +kernel
theorem n_200_214 : ∀ l, xpr 200 214 l = l := xpr_no (by decide +kernel)
theorem r_200_217 : xfetch 200 217 = some (.iload 7, 2) := by decide +kernel
theorem n_200_217 : ∀ l, xpr 200 217 l = l := xpr_no (by decide +kernel)
theorem r_200_219 : xfetch 200 219 = some (.aload_n 0, 1) := by decide +kernel
theorem n_200_219 : ∀ l, xpr 200 219 l = l := xpr_no (by decide +kernel)
theorem r_200_220 : xfetch 200 220 = some (.getfield 28, 3) := by decide +kernel
theorem n_200_220 : ∀ l, xpr 200 220 l = l := xpr_no (by decide +kernel)
theorem r_200_223 : xfetch 200 223 = some (.iload 9, 2) := by decide +kernel
theorem n_200_223 : ∀ l, xpr 200 223 l = l := xpr_no (by decide +kernel)
theorem r_200_225 : xfetch 200 225 = some (.iaload, 1) := by decide +kernel
theorem n_200_225 : ∀ l, xpr 200 225 l = l := xpr_no (by decide +kernel)
theorem r_200_226 : xfetch 200 226 = some (.iastore, 1) := by decide +kernel
theorem n_200_226 : ∀ l, xpr 200 226 l = l := xpr_no (by decide +kernel)
theorem r_200_227 : xfetch 200 227 = some (.aload_n 0, 1) := by decide +kernel
theorem n_200_227 : ∀ l, xpr 200 227 l = l := xpr_no (by decide +kernel)
theorem r_200_228 : xfetch 200 228 = some (.getfield 31, 3) := by decide +kernel
theorem n_200_228 : ∀ l, xpr 200 228 l = l := xpr_no (by decide +kernel)
theorem r_200_231 : xfetch 200 231 = some (.iload 7, 2) := by decide +kernel
theorem n_200_231 : ∀ l, xpr 200 231 l = l := xpr_no (by decide +kernel)
theorem r_200_233 : xfetch 200 233 = some (.iload 8, 2) := by decide +kernel
theorem n_200_233 : ∀ l, xpr 200 233 l = l := xpr_no (by decide +kernel)
theorem r_200_235 : xfetch 200 235 = some (.aload_n 0, 1) := by decide +kernel
theorem n_200_235 : ∀ l, xpr 200 235 l = l := xpr_no (by decide +kernel)
theorem r_200_236 : xfetch 200 236 = some (.getfield 31, 3) := by decide +kernel
theorem n_200_236 : ∀ l, xpr 200 236 l = l := xpr_no (by decide +kernel)
theorem r_200_239 : xfetch 200 239 = some (.iload 9, 2) := by decide +kernel
theorem n_200_239 : ∀ l, xpr 200 239 l = l := xpr_no (by decide +kernel)
theorem r_200_241 : xfetch 200 241 = some (.iaload, 1) := by decide +kernel
theorem n_200_241 : ∀ l, xpr 200 241 l = l := xpr_no (by decide +kernel)
theorem r_200_242 : xfetch 200 242 = some (.iadd, 1) := by decide +kernel
theorem n_200_242 : ∀ l, xpr 200 242 l = l := xpr_no (by decide +kernel)
theorem r_200_243 : xfetch 200 243 = some (.iastore, 1) := by decide +kernel
theorem n_200_243 : ∀ l, xpr 200 243 l = l := xpr_no (by decide +kernel)
theorem r_200_244 : xfetch 200 244 = some (.aload_n 0, 1) := by decide +kernel
theorem n_200_244 : ∀ l, xpr 200 244 l = l := xpr_no (by decide +kernel)
theorem r_200_245 : xfetch 200 245 = some (.getfield 34, 3) := by decide +kernel
theorem n_200_245 : ∀ l, xpr 200 245 l = l := xpr_no (by decide +kernel)
theorem r_200_248 : xfetch 200 248 = some (.iload 7, 2) := by decide +kernel
theorem n_200_248 : ∀ l, xpr 200 248 l = l := xpr_no (by decide +kernel)
theorem r_200_250 : xfetch 200 250 = some (.aload_n 0, 1) := by decide +kernel
theorem n_200_250 : ∀ l, xpr 200 250 l = l := xpr_no (by decide +kernel)
theorem r_200_251 : xfetch 200 251 = some (.getfield 34, 3) := by decide +kernel
theorem n_200_251 : ∀ l, xpr 200 251 l = l := xpr_no (by decide +kernel)
theorem r_200_254 : xfetch 200 254 = some (.iload 9, 2) := by decide +kernel
theorem n_200_254 : ∀ l, xpr 200 254 l = l := xpr_no (by decide +kernel)
theorem r_200_256 : xfetch 200 256 = some (.iaload, 1) := by decide +kernel
theorem n_200_256 : ∀ l, xpr 200 256 l = l := xpr_no (by decide +kernel)
theorem r_200_257 : xfetch 200 257 = some (.iastore, 1) := by decide +kernel
theorem n_200_257 : ∀ l, xpr 200 257 l = l := xpr_no (by decide +kernel)
theorem r_200_258 : xfetch 200 258 = some (.goto 34, 3) := by decide +kernel
theorem n_200_258 : ∀ l, xpr 200 258 l = l := xpr_no (by decide +kernel)
theorem r_200_261 : xfetch 200 261 = some (.aload_n 0, 1) := by decide +kernel
theorem n_200_261 : ∀ l, xpr 200 261 l = l := xpr_no (by decide +kernel)
theorem r_200_262 : xfetch 200 262 = some (.getfield 28, 3) := by decide +kernel
theorem n_200_262 : ∀ l, xpr 200 262 l = l := xpr_no (by decide +kernel)
theorem r_200_265 : xfetch 200 265 = some (.iload 7, 2) := by decide +kernel
theorem n_200_265 : ∀ l, xpr 200 265 l = l := xpr_no (by decide +kernel)
theorem r_200_267 : xfetch 200 267 = some (.iload 4, 2) := by decide +kernel
theorem n_200_267 : ∀ l, xpr 200 267 l = l := xpr_no (by decide +kernel)
theorem r_200_269 : xfetch 200 269 = some (.iastore, 1) := by decide +kernel
theorem n_200_269 : ∀ l, xpr 200 269 l = l := xpr_no (by decide +kernel)
theorem r_200_270 : xfetch 200 270 = some (.aload_n 0, 1) := by decide +kernel
theorem n_200_270 : ∀ l, xpr 200 270 l = l := xpr_no (by decide +kernel)
theorem r_200_271 : xfetch 200 271 = some (.getfield 31, 3) := by decide +kernel
theorem n_200_271 : ∀ l, xpr 200 271 l = l := xpr_no (by decide +kernel)
theorem r_200_274 : xfetch 200 274 = some (.iload 7, 2) := by decide +kernel
theorem n_200_274 : ∀ l, xpr 200 274 l = l := xpr_no (by decide +kernel)
theorem r_200_276 : xfetch 200 276 = some (.iload 8, 2) := by decide +kernel
theorem n_200_276 : ∀ l, xpr 200 276 l = l := xpr_no (by decide +kernel)
theorem r_200_278 : xfetch 200 278 = some (.iastore, 1) := by decide +kernel
theorem n_200_278 : ∀ l, xpr 200 278 l = l := xpr_no (by decide +kernel)
theorem r_200_279 : xfetch 200 279 = some (.aload_n 0, 1) := by decide +kernel
theorem n_200_279 : ∀ l, xpr 200 279 l = l := xpr_no (by decide +kernel)
theorem r_200_280 : xfetch 200 280 = some (.getfield 34, 3) := by decide +kernel
theorem n_200_280 : ∀ l, xpr 200 280 l = l := xpr_no (by decide +kernel)
theorem r_200_283 : xfetch 200 283 = some (.iload 7, 2) := by decide +kernel
theorem n_200_283 : ∀ l, xpr 200 283 l = l := xpr_no (by decide +kernel)
theorem r_200_285 : xfetch 200 285 = some (.aload_n 0, 1) := by decide +kernel
theorem n_200_285 : ∀ l, xpr 200 285 l = l := xpr_no (by decide +kernel)
theorem r_200_286 : xfetch 200 286 = some (.getfield 52, 3) := by decide +kernel
theorem n_200_286 : ∀ l, xpr 200 286 l = l := xpr_no (by decide +kernel)
theorem r_200_289 : xfetch 200 289 = some (.iload_n 2, 1) := by decide +kernel
theorem n_200_289 : ∀ l, xpr 200 289 l = l := xpr_no (by decide +kernel)
theorem r_200_290 : xfetch 200 290 = some (.iaload, 1) := by decide +kernel
theorem n_200_290 : ∀ l, xpr 200 290 l = l := xpr_no (by decide +kernel)
theorem r_200_291 : xfetch 200 291 = some (.iastore, 1) := by decide +kernel
theorem n_200_291 : ∀ l, xpr 200 291 l = l := xpr_no (by decide +kernel)
theorem r_200_292 : xfetch 200 292 = some (.aload_n 0, 1) := by decide +kernel
theorem n_200_292 : ∀ l, xpr 200 292 l = l := xpr_no (by decide +kernel)
theorem r_200_293 : xfetch 200 293 = some (.getfield 19, 3) := by decide +kernel
theorem n_200_293 : ∀ l, xpr 200 293 l = l := xpr_no (by decide +kernel)
theorem r_200_296 : xfetch 200 296 = some (.iload_n 1, 1) := by decide +kernel
theorem n_200_296 : ∀ l, xpr 200 296 l = l := xpr_no (by decide +kernel)
theorem r_200_297 : xfetch 200 297 = some (.dup2, 1) := by decide +kernel
theorem n_200_297 : ∀ l, xpr 200 297 l = l := xpr_no (by decide +kernel)
theorem r_200_298 : xfetch 200 298 = some (.iaload, 1) := by decide +kernel
theorem n_200_298 : ∀ l, xpr 200 298 l = l := xpr_no (by decide +kernel)
theorem r_200_299 : xfetch 200 299 = some (.iconst 1, 1) := by decide +kernel
theorem n_200_299 : ∀ l, xpr 200 299 l = l := xpr_no (by decide +kernel)
theorem r_200_300 : xfetch 200 300 = some (.iadd, 1) := by decide +kernel
theorem n_200_300 : ∀ l, xpr 200 300 l = l := xpr_no (by decide +kernel)
theorem r_200_301 : xfetch 200 301 = some (.iastore, 1) := by decide +kernel
theorem n_200_301 : ∀ l, xpr 200 301 l = l := xpr_no (by decide +kernel)
theorem r_200_302 : xfetch 200 302 = some (.iinc 6 1, 3) := by decide +kernel
theorem n_200_302 : ∀ l, xpr 200 302 l = l := xpr_no (by decide +kernel)
theorem r_200_305 : xfetch 200 305 = some (.goto (-265), 3) := by decide +kernel
theorem n_200_305 : ∀ l, xpr 200 305 l = l := xpr_no (by decide +kernel)
theorem r_200_308 : xfetch 200 308 = some (.return_, 1) := by decide +kernel
theorem n_200_308 : ∀ l, xpr 200 308 l = l := xpr_no (by decide +kernel)
theorem v_Model_addsLeaves_0 {S : Option (Nat × (Nat → Int32))} {s : zSt} {Q : Option Value ⊕ Nat → zSt → Prop} {x1 : Int} {x2 : Int} {x3 : Int} 
    (h : (0 ≤ ((((1 + (26 * x1)) + 2) + (3 * x2)) + 1) ∧ ((((1 + (26 * x1)) + 2) + (3 * x2)) + 1) < 1199) ∧ (((zI s 253 ((((1 + (26 * x1)) + 2) + (3 * x2)) + 1)) < 100 → wp S 200 40 [(0, rf 252), (1, iv x1), (2, iv x2), (3, iv x3), (4, iv (zI s 253 ((((1 + (26 * x1)) + 2) + (3 * x2)) + 1))), (5, iv 1), (6, iv 0)] [] s Q) ∧ (100 ≤ (zI s 253 ((((1 + (26 * x1)) + 2) + (3 * x2)) + 1)) → (0 ≤ ((zI s 253 ((((1 + (26 * x1)) + 2) + (3 * x2)) + 1)) - 100) ∧ ((zI s 253 ((((1 + (26 * x1)) + 2) + (3 * x2)) + 1)) - 100) < 6) ∧ (wp S 200 40 [(0, rf 252), (1, iv x1), (2, iv x2), (3, iv x3), (4, iv (zI s 253 ((((1 + (26 * x1)) + 2) + (3 * x2)) + 1))), (5, iv (zI s 256 ((zI s 253 ((((1 + (26 * x1)) + 2) + (3 * x2)) + 1)) - 100))), (6, iv 0)] [] s Q)))) :
    wp S 200 0 [(0, rf 252), (1, iv x1), (2, iv x2), (3, iv x3)] [] s Q := by
  refine i_aload_n (a := 252) r_200_0 (n_200_0 _) rfl ?_
  refine i_getR (a := 252) (b := 253) r_200_1 (n_200_1 _) rfl rfl rfl (by omega) lf_252 (by omega) ?_
  refine i_iload_n (x := x1) r_200_4 (n_200_4 _) rfl ?_
  refine i_iload_n (x := x2) r_200_5 (n_200_5 _) rfl ?_
  refine wp_stat (rest := [rf 253]) (Ls := [(0, iv x1), (1, iv x2)]) r_200_6 (n_200_6 _) rfl ⟨rfl, by decide, by decide, by decide⟩ rfl rfl ⟨rfl, Nat.le_of_ble_eq_true rfl, Nat.le_of_ble_eq_true rfl⟩ rfl K_Model_field ?_
  rintro _ _ ⟨rfl, rfl⟩
  refine .inl ⟨some (iv (((1 + (26 * x1)) + 2) + (3 * x2))), rfl, ?_⟩
  show wp S 200 9 [(0, rf 252), (1, iv x1), (2, iv x2), (3, iv x3)] [iv (((1 + (26 * x1)) + 2) + (3 * x2)), rf 253] s Q
  refine i_iconst r_200_9 (n_200_9 _) ?_
  refine i_iadd r_200_10 (n_200_10 _) ?_
  obtain ⟨g2, h⟩ := h
  refine i_iaload (a := 253) (j := (((1 + (26 * x1)) + 2) + (3 * x2)) + 1) r_200_11 (n_200_11 _) lf_253 ⟨by omega, by omega⟩ (by omega) (by omega) (fun q3 => ?_)
  refine i_istore (l' := [(0, rf 252), (1, iv x1), (2, iv x2), (3, iv x3), (4, iv (zI s 253 ((((1 + (26 * x1)) + 2) + (3 * x2)) + 1)))]) r_200_12 (n_200_12 _) (by decide) rfl ?_
  refine i_iload (x := zI s 253 ((((1 + (26 * x1)) + 2) + (3 * x2)) + 1)) r_200_14 (n_200_14 _) rfl ?_
  refine i_bipush r_200_16 (n_200_16 _) rfl ?_
  refine i_icmp (t := 34) r_200_18 (n_200_18 _) rfl (T_lt q3 ⟨by omega, by omega⟩) (fun c4 => ?_) (fun c4 => ?_)
  · replace h := h.1 c4
    refine i_iconst r_200_34 (n_200_34 _) ?_
    refine i_istore (l' := [(0, rf 252), (1, iv x1), (2, iv x2), (3, iv x3), (4, iv (zI s 253 ((((1 + (26 * x1)) + 2) + (3 * x2)) + 1))), (5, iv 1)]) r_200_35 (n_200_35 _) (by decide) rfl ?_
    refine i_iconst r_200_37 (n_200_37 _) ?_
    refine i_istore (l' := [(0, rf 252), (1, iv x1), (2, iv x2), (3, iv x3), (4, iv (zI s 253 ((((1 + (26 * x1)) + 2) + (3 * x2)) + 1))), (5, iv 1), (6, iv 0)]) r_200_38 (n_200_38 _) (by decide) rfl ?_
    exact wp_pr (l' := [(0, rf 252), (1, iv x1), (2, iv x2), (3, iv x3), (4, iv (zI s 253 ((((1 + (26 * x1)) + 2) + (3 * x2)) + 1))), (5, iv 1), (6, iv 0)]) rfl h
  · replace h := h.2 c4
    refine i_aload_n (a := 252) r_200_21 (n_200_21 _) rfl ?_
    refine i_getR (a := 252) (b := 256) r_200_22 (n_200_22 _) rfl rfl rfl (by omega) lf_252 (by omega) ?_
    refine i_iload (x := zI s 253 ((((1 + (26 * x1)) + 2) + (3 * x2)) + 1)) r_200_25 (n_200_25 _) rfl ?_
    refine i_bipush r_200_27 (n_200_27 _) rfl ?_
    refine i_isub r_200_29 (n_200_29 _) ?_
    obtain ⟨g5, h⟩ := h
    refine i_iaload (a := 256) (j := (zI s 253 ((((1 + (26 * x1)) + 2) + (3 * x2)) + 1)) - 100) r_200_30 (n_200_30 _) lf_256 ⟨by omega, by omega⟩ (by omega) (by omega) (fun q6 => ?_)
    refine i_goto (t := 35) r_200_31 (n_200_31 _) rfl ?_
    refine i_istore (l' := [(0, rf 252), (1, iv x1), (2, iv x2), (3, iv x3), (4, iv (zI s 253 ((((1 + (26 * x1)) + 2) + (3 * x2)) + 1))), (5, iv (zI s 256 ((zI s 253 ((((1 + (26 * x1)) + 2) + (3 * x2)) + 1)) - 100)))]) r_200_35 (n_200_35 _) (by decide) rfl ?_
    refine i_iconst r_200_37 (n_200_37 _) ?_
    refine i_istore (l' := [(0, rf 252), (1, iv x1), (2, iv x2), (3, iv x3), (4, iv (zI s 253 ((((1 + (26 * x1)) + 2) + (3 * x2)) + 1))), (5, iv (zI s 256 ((zI s 253 ((((1 + (26 * x1)) + 2) + (3 * x2)) + 1)) - 100))), (6, iv 0)]) r_200_38 (n_200_38 _) (by decide) rfl ?_
    exact wp_pr (l' := [(0, rf 252), (1, iv x1), (2, iv x2), (3, iv x3), (4, iv (zI s 253 ((((1 + (26 * x1)) + 2) + (3 * x2)) + 1))), (5, iv (zI s 256 ((zI s 253 ((((1 + (26 * x1)) + 2) + (3 * x2)) + 1)) - 100))), (6, iv 0)]) rfl h
theorem v_Model_addsLeaves_40 {S : Option (Nat × (Nat → Int32))} {s : zSt} {Q : Option Value ⊕ Nat → zSt → Prop} {x1 : Int} {x2 : Int} {x3 : Int} {x4 : Int} {x5 : Int} {x6 : Int} 
    (h : rng x6 ∧ (rng x5 ∧ ((x5 ≤ x6 → Q rU s) ∧ (x6 < x5 → (0 ≤ x1 ∧ x1 < 6) ∧ ((0 ≤ x2 ∧ x2 < 8) ∧ (rng x4 ∧ ((x4 < 106) ∧ ((0 ≤ ((40 * x1) + (zI s 256 x1)) ∧ ((40 * x1) + (zI s 256 x1)) < 240) ∧ ((0 ≤ (((1 + (26 * x1)) + 2) + (3 * x2)) ∧ (((1 + (26 * x1)) + 2) + (3 * x2)) < 1199) ∧ ((0 ≤ ((32 * ((40 * x1) + (zI s 256 x1))) + 0) ∧ ((32 * ((40 * x1) + (zI s 256 x1))) + 0) < 7680) ∧ (rng (0 + 1) ∧ ((0 ≤ ((((1 + (26 * x1)) + 2) + (3 * x2)) + 2) ∧ ((((1 + (26 * x1)) + 2) + (3 * x2)) + 2) < 1199) ∧ (((zI s 253 ((((1 + (26 * x1)) + 2) + (3 * x2)) + 2)) ≤ 1 → rng x2 ∧ ((x4 < 100 → rng ((zI s 266 x2) + (x3 * (zel x4 (zI s 257 (x4 - 100))))) ∧ (rng ((zI s 256 x1) + 1) ∧ (wp S 200 40 [(0, rf 252), (1, iv x1), (2, iv x2), (3, iv x3), (4, iv x4), (5, iv x5), (6, iv (x6 + 1))] [] (zwI (zwI (zwI (zwI (zwI (zwI (zwI (zwI s 264 ((40 * x1) + (zI s 256 x1)) 0) 263 ((32 * ((40 * x1) + (zI s 256 x1))) + 0) (zI s 253 (((1 + (26 * x1)) + 2) + (3 * x2)))) 264 ((40 * x1) + (zI s 256 x1)) (0 + 1)) 262 ((40 * x1) + (zI s 256 x1)) x2) 259 ((40 * x1) + (zI s 256 x1)) x4) 260 ((40 * x1) + (zI s 256 x1)) ((zI s 266 x2) + (x3 * (zel x4 (zI s 257 (x4 - 100)))))) 261 ((40 * x1) + (zI s 256 x1)) (zI s 267 x2)) 256 x1 ((zI s 256 x1) + 1)) Q))) ∧ (100 ≤ x4 → (0 ≤ ((32 * ((40 * x1) + (zI s 256 x1))) + (0 + 1)) ∧ ((32 * ((40 * x1) + (zI s 256 x1))) + (0 + 1)) < 7680) ∧ (rng ((0 + 1) + 1) ∧ (wp S 200 177 [(0, rf 252), (1, iv x1), (2, iv x2), (3, iv x3), (4, iv x4), (5, iv x5), (6, iv x6), (7, iv ((40 * x1) + (zI s 256 x1))), (8, iv ((zI s 266 x2) + (x3 * (zel x4 (zI s 257 (x4 - 100)))))), (9, iv ((40 * (x4 - 100)) + x6)), (10, iv 0)] [] (zwI (zwI (zwI (zwI (zwI (zwI s 264 ((40 * x1) + (zI s 256 x1)) 0) 263 ((32 * ((40 * x1) + (zI s 256 x1))) + 0) (zI s 253 (((1 + (26 * x1)) + 2) + (3 * x2)))) 264 ((40 * x1) + (zI s 256 x1)) (0 + 1)) 262 ((40 * x1) + (zI s 256 x1)) x2) 263 ((32 * ((40 * x1) + (zI s 256 x1))) + (0 + 1)) 46) 264 ((40 * x1) + (zI s 256 x1)) ((0 + 1) + 1)) Q))))) ∧ (1 < (zI s 253 ((((1 + (26 * x1)) + 2) + (3 * x2)) + 2)) → (0 ≤ ((32 * ((40 * x1) + (zI s 256 x1))) + (0 + 1)) ∧ ((32 * ((40 * x1) + (zI s 256 x1))) + (0 + 1)) < 7680) ∧ (rng ((0 + 1) + 1) ∧ ((0 ≤ ((32 * ((40 * x1) + (zI s 256 x1))) + ((0 + 1) + 1)) ∧ ((32 * ((40 * x1) + (zI s 256 x1))) + ((0 + 1) + 1)) < 7680) ∧ (rng (48 + x3) ∧ (rng (((0 + 1) + 1) + 1) ∧ ((0 ≤ ((32 * ((40 * x1) + (zI s 256 x1))) + (((0 + 1) + 1) + 1)) ∧ ((32 * ((40 * x1) + (zI s 256 x1))) + (((0 + 1) + 1) + 1)) < 7680) ∧ (rng ((((0 + 1) + 1) + 1) + 1) ∧ (rng x2 ∧ ((x4 < 100 → rng ((zI s 266 x2) + (x3 * (zel x4 (zI s 257 (x4 - 100))))) ∧ (rng ((zI s 256 x1) + 1) ∧ (wp S 200 40 [(0, rf 252), (1, iv x1), (2, iv x2), (3, iv x3), (4, iv x4), (5, iv x5), (6, iv (x6 + 1))] [] (zwI (zwI (zwI (zwI (zwI (zwI (zwI (zwI (zwI (zwI (zwI (zwI (zwI (zwI s 264 ((40 * x1) + (zI s 256 x1)) 0) 263 ((32 * ((40 * x1) + (zI s 256 x1))) + 0) (zI s 253 (((1 + (26 * x1)) + 2) + (3 * x2)))) 264 ((40 * x1) + (zI s 256 x1)) (0 + 1)) 263 ((32 * ((40 * x1) + (zI s 256 x1))) + (0 + 1)) 91) 264 ((40 * x1) + (zI s 256 x1)) ((0 + 1) + 1)) 263 ((32 * ((40 * x1) + (zI s 256 x1))) + ((0 + 1) + 1)) (48 + x3)) 264 ((40 * x1) + (zI s 256 x1)) (((0 + 1) + 1) + 1)) 263 ((32 * ((40 * x1) + (zI s 256 x1))) + (((0 + 1) + 1) + 1)) 93) 264 ((40 * x1) + (zI s 256 x1)) ((((0 + 1) + 1) + 1) + 1)) 262 ((40 * x1) + (zI s 256 x1)) x2) 259 ((40 * x1) + (zI s 256 x1)) x4) 260 ((40 * x1) + (zI s 256 x1)) ((zI s 266 x2) + (x3 * (zel x4 (zI s 257 (x4 - 100)))))) 261 ((40 * x1) + (zI s 256 x1)) (zI s 267 x2)) 256 x1 ((zI s 256 x1) + 1)) Q))) ∧ (100 ≤ x4 → (0 ≤ ((32 * ((40 * x1) + (zI s 256 x1))) + ((((0 + 1) + 1) + 1) + 1)) ∧ ((32 * ((40 * x1) + (zI s 256 x1))) + ((((0 + 1) + 1) + 1) + 1)) < 7680) ∧ (rng (((((0 + 1) + 1) + 1) + 1) + 1) ∧ (wp S 200 177 [(0, rf 252), (1, iv x1), (2, iv x2), (3, iv x3), (4, iv x4), (5, iv x5), (6, iv x6), (7, iv ((40 * x1) + (zI s 256 x1))), (8, iv ((zI s 266 x2) + (x3 * (zel x4 (zI s 257 (x4 - 100)))))), (9, iv ((40 * (x4 - 100)) + x6)), (10, iv 0)] [] (zwI (zwI (zwI (zwI (zwI (zwI (zwI (zwI (zwI (zwI (zwI (zwI s 264 ((40 * x1) + (zI s 256 x1)) 0) 263 ((32 * ((40 * x1) + (zI s 256 x1))) + 0) (zI s 253 (((1 + (26 * x1)) + 2) + (3 * x2)))) 264 ((40 * x1) + (zI s 256 x1)) (0 + 1)) 263 ((32 * ((40 * x1) + (zI s 256 x1))) + (0 + 1)) 91) 264 ((40 * x1) + (zI s 256 x1)) ((0 + 1) + 1)) 263 ((32 * ((40 * x1) + (zI s 256 x1))) + ((0 + 1) + 1)) (48 + x3)) 264 ((40 * x1) + (zI s 256 x1)) (((0 + 1) + 1) + 1)) 263 ((32 * ((40 * x1) + (zI s 256 x1))) + (((0 + 1) + 1) + 1)) 93) 264 ((40 * x1) + (zI s 256 x1)) ((((0 + 1) + 1) + 1) + 1)) 262 ((40 * x1) + (zI s 256 x1)) x2) 263 ((32 * ((40 * x1) + (zI s 256 x1))) + ((((0 + 1) + 1) + 1) + 1)) 46) 264 ((40 * x1) + (zI s 256 x1)) (((((0 + 1) + 1) + 1) + 1) + 1)) Q))))))))))))))))))))))))) :
    wp S 200 40 [(0, rf 252), (1, iv x1), (2, iv x2), (3, iv x3), (4, iv x4), (5, iv x5), (6, iv x6)] [] s Q := by
  refine i_iload (x := x6) r_200_40 rfl rfl ?_
  refine i_iload (x := x5) r_200_42 (n_200_42 _) rfl ?_
  obtain ⟨g1, h⟩ := h
  obtain ⟨g2, h⟩ := h
  refine i_icmp (t := 308) r_200_44 (n_200_44 _) rfl (T_ge g1 g2) (fun c3 => ?_) (fun c3 => ?_)
  · replace h := h.1 c3
    exact i_return r_200_308 (n_200_308 _) rfl h
  · replace h := h.2 c3
    refine i_bipush r_200_47 (n_200_47 _) rfl ?_
    refine i_iload_n (x := x1) r_200_49 (n_200_49 _) rfl ?_
    refine i_imul r_200_50 (n_200_50 _) ?_
    refine i_aload_n (a := 252) r_200_51 (n_200_51 _) rfl ?_
    refine i_getR (a := 252) (b := 256) r_200_52 (n_200_52 _) rfl rfl rfl (by omega) lf_252 (by omega) ?_
    refine i_iload_n (x := x1) r_200_55 (n_200_55 _) rfl ?_
    obtain ⟨g4, h⟩ := h
    refine i_iaload (a := 256) (j := x1) r_200_56 (n_200_56 _) lf_256 ⟨by omega, by omega⟩ (by omega) (by omega) (fun q5 => ?_)
    refine i_iadd r_200_57 (n_200_57 _) ?_
    refine i_istore (l' := [(0, rf 252), (1, iv x1), (2, iv x2), (3, iv x3), (4, iv x4), (5, iv x5), (6, iv x6), (7, iv ((40 * x1) + (zI s 256 x1)))]) r_200_58 (n_200_58 _) (by decide) rfl ?_
    refine i_aload_n (a := 252) r_200_60 (n_200_60 _) rfl ?_
    refine i_getR (a := 252) (b := 266) r_200_61 (n_200_61 _) rfl rfl rfl (by omega) lf_252 (by omega) ?_
    refine i_iload_n (x := x2) r_200_64 (n_200_64 _) rfl ?_
    obtain ⟨g6, h⟩ := h
    refine i_iaload (a := 266) (j := x2) r_200_65 (n_200_65 _) lf_266 ⟨by omega, by omega⟩ (by omega) (by omega) (fun q7 => ?_)
    refine i_iload_n (x := x3) r_200_66 (n_200_66 _) rfl ?_
    refine i_aload_n (a := 252) r_200_67 (n_200_67 _) rfl ?_
    refine i_iload (x := x4) r_200_68 (n_200_68 _) rfl ?_
    obtain ⟨g8, h⟩ := h
    obtain ⟨g9, h⟩ := h
    refine wp_virt (b := 252) (rest := [iv x3, iv (zI s 266 x2)]) (Ls := [(0, rf 252), (1, iv x4)]) r_200_70 (n_200_70 _) rfl ⟨rfl, rfl, by decide, by decide⟩ rfl rfl lf_252 ⟨rfl, Nat.le_of_ble_eq_true rfl, Nat.le_of_ble_eq_true rfl⟩ rfl (K_Model_elementSize g8 g9) ?_
    rintro _ _ ⟨rfl, rfl⟩
    refine .inl ⟨some (iv (zel x4 (zI s 257 (x4 - 100)))), rfl, ?_⟩
    show wp S 200 73 [(0, rf 252), (1, iv x1), (2, iv x2), (3, iv x3), (4, iv x4), (5, iv x5), (6, iv x6), (7, iv ((40 * x1) + (zI s 256 x1)))] [iv (zel x4 (zI s 257 (x4 - 100))), iv x3, iv (zI s 266 x2)] s Q
    refine i_imul r_200_73 (n_200_73 _) ?_
    refine i_iadd r_200_74 (n_200_74 _) ?_
    refine i_istore (l' := [(0, rf 252), (1, iv x1), (2, iv x2), (3, iv x3), (4, iv x4), (5, iv x5), (6, iv x6), (7, iv ((40 * x1) + (zI s 256 x1))), (8, iv ((zI s 266 x2) + (x3 * (zel x4 (zI s 257 (x4 - 100))))))]) r_200_75 (n_200_75 _) (by decide) rfl ?_
    refine i_aload_n (a := 252) r_200_77 (n_200_77 _) rfl ?_
    refine i_getR (a := 252) (b := 264) r_200_78 (n_200_78 _) rfl rfl rfl (by omega) lf_252 (by omega) ?_
    refine i_iload (x := (40 * x1) + (zI s 256 x1)) r_200_81 (n_200_81 _) rfl ?_
    refine i_iconst r_200_83 (n_200_83 _) ?_
    obtain ⟨g11, h⟩ := h
    refine i_iastore (a := 264) (j := (40 * x1) + (zI s 256 x1)) (x := 0) r_200_84 (n_200_84 _) lf_264 ⟨by omega, by omega⟩ (by omega) (by omega) ⟨by omega, by omega⟩ ?_
    refine i_aload_n (a := 252) r_200_85 (n_200_85 _) rfl ?_
    refine i_iload_n (x := x1) r_200_86 (n_200_86 _) rfl ?_
    refine i_aload_n (a := 252) r_200_87 (n_200_87 _) rfl ?_
    refine i_getR (a := 252) (b := 253) r_200_88 (n_200_88 _) rfl rfl rfl (by omega) lf_252 (by omega) ?_
    refine i_iload_n (x := x1) r_200_91 (n_200_91 _) rfl ?_
    refine i_iload_n (x := x2) r_200_92 (n_200_92 _) rfl ?_
    refine wp_stat (rest := [rf 253, iv x1, rf 252]) (Ls := [(0, iv x1), (1, iv x2)]) r_200_93 (n_200_93 _) rfl ⟨rfl, by decide, by decide, by decide⟩ rfl rfl ⟨rfl, Nat.le_of_ble_eq_true rfl, Nat.le_of_ble_eq_true rfl⟩ rfl K_Model_field ?_
    rintro _ _ ⟨rfl, rfl⟩
    refine .inl ⟨some (iv (((1 + (26 * x1)) + 2) + (3 * x2))), rfl, ?_⟩
    show wp S 200 96 [(0, rf 252), (1, iv x1), (2, iv x2), (3, iv x3), (4, iv x4), (5, iv x5), (6, iv x6), (7, iv ((40 * x1) + (zI s 256 x1))), (8, iv ((zI s 266 x2) + (x3 * (zel x4 (zI s 257 (x4 - 100))))))] [iv (((1 + (26 * x1)) + 2) + (3 * x2)), rf 253, iv x1, rf 252] (zwI s 264 ((40 * x1) + (zI s 256 x1)) 0) Q
    obtain ⟨g13, h⟩ := h
    have e15 : zI (zwI s 264 ((40 * x1) + (zI s 256 x1)) 0) 253 (((1 + (26 * x1)) + 2) + (3 * x2)) = zI s 253 (((1 + (26 * x1)) + 2) + (3 * x2)) := zI_ne (by omega)
    refine i_ialoade (a := 253) (j := ((1 + (26 * x1)) + 2) + (3 * x2)) (x := zI s 253 (((1 + (26 * x1)) + 2) + (3 * x2))) r_200_96 (n_200_96 _) lf_253 ⟨by omega, by omega⟩ (by omega) (by omega) e15 (fun q14 => ?_)
    have e16 : zI (zwI s 264 ((40 * x1) + (zI s 256 x1)) 0) 256 x1 = zI s 256 x1 := zI_ne (by omega)
    have e17 : zI (zwI s 264 ((40 * x1) + (zI s 256 x1)) 0) 264 ((40 * x1) + (zI s 256 x1)) = 0 := zI_eq
    obtain ⟨g18, h⟩ := h
    obtain ⟨g19, h⟩ := h
    refine wp_virt (b := 252) (rest := []) (Ls := [(0, rf 252), (1, iv x1), (2, iv (zI s 253 (((1 + (26 * x1)) + 2) + (3 * x2))))]) r_200_97 (n_200_97 _) rfl ⟨rfl, rfl, by decide, by decide⟩ rfl rfl lf_252 ⟨rfl, Nat.le_of_ble_eq_true rfl, Nat.le_of_ble_eq_true rfl⟩ rfl (K_Model_adds (by (try rw [e16]); (try rw [e17]); exact g4) (by (try rw [e16]); (try rw [e17]); exact g11) (by (try rw [e16]); (try rw [e17]); exact g18) (by (try rw [e16]); (try rw [e17]); exact q14) (by (try rw [e16]); (try rw [e17]); exact g19)) ?_
    rintro _ _ ⟨rfl, rfl⟩
    refine .inl ⟨none, rfl, ?_⟩
    (try rw [e16]); (try rw [e17])
    show wp S 200 100 [(0, rf 252), (1, iv x1), (2, iv x2), (3, iv x3), (4, iv x4), (5, iv x5), (6, iv x6), (7, iv ((40 * x1) + (zI s 256 x1))), (8, iv ((zI s 266 x2) + (x3 * (zel x4 (zI s 257 (x4 - 100))))))] [] (zwI (zwI (zwI s 264 ((40 * x1) + (zI s 256 x1)) 0) 263 ((32 * ((40 * x1) + (zI s 256 x1))) + 0) (zI s 253 (((1 + (26 * x1)) + 2) + (3 * x2)))) 264 ((40 * x1) + (zI s 256 x1)) (0 + 1)) Q
    refine i_aload_n (a := 252) r_200_100 (n_200_100 _) rfl ?_
    refine i_getR (a := 252) (b := 253) r_200_101 (n_200_101 _) rfl rfl rfl (by omega) lf_252 (by omega) ?_
    refine i_iload_n (x := x1) r_200_104 (n_200_104 _) rfl ?_
    refine i_iload_n (x := x2) r_200_105 (n_200_105 _) rfl ?_
    refine wp_stat (rest := [rf 253]) (Ls := [(0, iv x1), (1, iv x2)]) r_200_106 (n_200_106 _) rfl ⟨rfl, by decide, by decide, by decide⟩ rfl rfl ⟨rfl, Nat.le_of_ble_eq_true rfl, Nat.le_of_ble_eq_true rfl⟩ rfl K_Model_field ?_
    rintro _ _ ⟨rfl, rfl⟩
    refine .inl ⟨some (iv (((1 + (26 * x1)) + 2) + (3 * x2))), rfl, ?_⟩
    show wp S 200 109 [(0, rf 252), (1, iv x1), (2, iv x2), (3, iv x3), (4, iv x4), (5, iv x5), (6, iv x6), (7, iv ((40 * x1) + (zI s 256 x1))), (8, iv ((zI s 266 x2) + (x3 * (zel x4 (zI s 257 (x4 - 100))))))] [iv (((1 + (26 * x1)) + 2) + (3 * x2)), rf 253] (zwI (zwI (zwI s 264 ((40 * x1) + (zI s 256 x1)) 0) 263 ((32 * ((40 * x1) + (zI s 256 x1))) + 0) (zI s 253 (((1 + (26 * x1)) + 2) + (3 * x2)))) 264 ((40 * x1) + (zI s 256 x1)) (0 + 1)) Q
    refine i_iconst r_200_109 (n_200_109 _) ?_
    refine i_iadd r_200_110 (n_200_110 _) ?_
    obtain ⟨g22, h⟩ := h
    have e24 : zI (zwI (zwI (zwI s 264 ((40 * x1) + (zI s 256 x1)) 0) 263 ((32 * ((40 * x1) + (zI s 256 x1))) + 0) (zI s 253 (((1 + (26 * x1)) + 2) + (3 * x2)))) 264 ((40 * x1) + (zI s 256 x1)) (0 + 1)) 253 ((((1 + (26 * x1)) + 2) + (3 * x2)) + 2) = zI s 253 ((((1 + (26 * x1)) + 2) + (3 * x2)) + 2) := (zI_ne (by omega)).trans ((zI_ne (by omega)).trans (zI_ne (by omega)))
    refine i_ialoade (a := 253) (j := (((1 + (26 * x1)) + 2) + (3 * x2)) + 2) (x := zI s 253 ((((1 + (26 * x1)) + 2) + (3 * x2)) + 2)) r_200_111 (n_200_111 _) lf_253 ⟨by omega, by omega⟩ (by omega) (by omega) e24 (fun q23 => ?_)
    refine i_iconst r_200_112 (n_200_112 _) ?_
    refine i_icmp (t := 139) r_200_113 (n_200_113 _) rfl (T_le q23 ⟨by omega, by omega⟩) (fun c25 => ?_) (fun c25 => ?_)
    · replace h := h.1 c25
      refine i_aload_n (a := 252) r_200_139 (n_200_139 _) rfl ?_
      refine i_getR (a := 252) (b := 262) r_200_140 (n_200_140 _) rfl rfl rfl (by omega) lf_252 (by omega) ?_
      refine i_iload (x := (40 * x1) + (zI s 256 x1)) r_200_143 (n_200_143 _) rfl ?_
      refine i_iload_n (x := x2) r_200_145 (n_200_145 _) rfl ?_
      obtain ⟨g26, h⟩ := h
      refine i_iastore (a := 262) (j := (40 * x1) + (zI s 256 x1)) (x := x2) r_200_146 (n_200_146 _) lf_262 ⟨by omega, by omega⟩ (by omega) (by omega) g26 ?_
      refine i_iload (x := x4) r_200_147 (n_200_147 _) rfl ?_
      refine i_bipush r_200_149 (n_200_149 _) rfl ?_
      refine i_icmp (t := 261) r_200_151 (n_200_151 _) rfl (T_lt g8 ⟨by omega, by omega⟩) (fun c27 => ?_) (fun c27 => ?_)
      · replace h := h.1 c27
        refine i_aload_n (a := 252) r_200_261 (n_200_261 _) rfl ?_
        refine i_getR (a := 252) (b := 259) r_200_262 (n_200_262 _) rfl rfl rfl (by omega) lf_252 (by omega) ?_
        refine i_iload (x := (40 * x1) + (zI s 256 x1)) r_200_265 (n_200_265 _) rfl ?_
        refine i_iload (x := x4) r_200_267 (n_200_267 _) rfl ?_
        refine i_iastore (a := 259) (j := (40 * x1) + (zI s 256 x1)) (x := x4) r_200_269 (n_200_269 _) lf_259 ⟨by omega, by omega⟩ (by omega) (by omega) g8 ?_
        refine i_aload_n (a := 252) r_200_270 (n_200_270 _) rfl ?_
        refine i_getR (a := 252) (b := 260) r_200_271 (n_200_271 _) rfl rfl rfl (by omega) lf_252 (by omega) ?_
        refine i_iload (x := (40 * x1) + (zI s 256 x1)) r_200_274 (n_200_274 _) rfl ?_
        refine i_iload (x := (zI s 266 x2) + (x3 * (zel x4 (zI s 257 (x4 - 100))))) r_200_276 (n_200_276 _) rfl ?_
        obtain ⟨g28, h⟩ := h
        refine i_iastore (a := 260) (j := (40 * x1) + (zI s 256 x1)) (x := (zI s 266 x2) + (x3 * (zel x4 (zI s 257 (x4 - 100))))) r_200_278 (n_200_278 _) lf_260 ⟨by omega, by omega⟩ (by omega) (by omega) g28 ?_
        refine i_aload_n (a := 252) r_200_279 (n_200_279 _) rfl ?_
        refine i_getR (a := 252) (b := 261) r_200_280 (n_200_280 _) rfl rfl rfl (by omega) lf_252 (by omega) ?_
        refine i_iload (x := (40 * x1) + (zI s 256 x1)) r_200_283 (n_200_283 _) rfl ?_
        refine i_aload_n (a := 252) r_200_285 (n_200_285 _) rfl ?_
        refine i_getR (a := 252) (b := 267) r_200_286 (n_200_286 _) rfl rfl rfl (by omega) lf_252 (by omega) ?_
        refine i_iload_n (x := x2) r_200_289 (n_200_289 _) rfl ?_
        have e30 : zI (zwI (zwI (zwI (zwI (zwI (zwI s 264 ((40 * x1) + (zI s 256 x1)) 0) 263 ((32 * ((40 * x1) + (zI s 256 x1))) + 0) (zI s 253 (((1 + (26 * x1)) + 2) + (3 * x2)))) 264 ((40 * x1) + (zI s 256 x1)) (0 + 1)) 262 ((40 * x1) + (zI s 256 x1)) x2) 259 ((40 * x1) + (zI s 256 x1)) x4) 260 ((40 * x1) + (zI s 256 x1)) ((zI s 266 x2) + (x3 * (zel x4 (zI s 257 (x4 - 100)))))) 267 x2 = zI s 267 x2 := (zI_ne (by omega)).trans ((zI_ne (by omega)).trans ((zI_ne (by omega)).trans ((zI_ne (by omega)).trans ((zI_ne (by omega)).trans (zI_ne (by omega))))))
        refine i_ialoade (a := 267) (j := x2) (x := zI s 267 x2) r_200_290 (n_200_290 _) lf_267 ⟨by omega, by omega⟩ (by omega) (by omega) e30 (fun q29 => ?_)
        refine i_iastore (a := 261) (j := (40 * x1) + (zI s 256 x1)) (x := zI s 267 x2) r_200_291 (n_200_291 _) lf_261 ⟨by omega, by omega⟩ (by omega) (by omega) q29 ?_
        refine i_aload_n (a := 252) r_200_292 (n_200_292 _) rfl ?_
        refine i_getR (a := 252) (b := 256) r_200_293 (n_200_293 _) rfl rfl rfl (by omega) lf_252 (by omega) ?_
        refine i_iload_n (x := x1) r_200_296 (n_200_296 _) rfl ?_
        refine i_dup2 r_200_297 (n_200_297 _) rfl rfl ?_
        have e32 : zI (zwI (zwI (zwI (zwI (zwI (zwI (zwI s 264 ((40 * x1) + (zI s 256 x1)) 0) 263 ((32 * ((40 * x1) + (zI s 256 x1))) + 0) (zI s 253 (((1 + (26 * x1)) + 2) + (3 * x2)))) 264 ((40 * x1) + (zI s 256 x1)) (0 + 1)) 262 ((40 * x1) + (zI s 256 x1)) x2) 259 ((40 * x1) + (zI s 256 x1)) x4) 260 ((40 * x1) + (zI s 256 x1)) ((zI s 266 x2) + (x3 * (zel x4 (zI s 257 (x4 - 100)))))) 261 ((40 * x1) + (zI s 256 x1)) (zI s 267 x2)) 256 x1 = zI s 256 x1 := (zI_ne (by omega)).trans ((zI_ne (by omega)).trans ((zI_ne (by omega)).trans ((zI_ne (by omega)).trans ((zI_ne (by omega)).trans ((zI_ne (by omega)).trans (zI_ne (by omega)))))))
        refine i_ialoade (a := 256) (j := x1) (x := zI s 256 x1) r_200_298 (n_200_298 _) lf_256 ⟨by omega, by omega⟩ (by omega) (by omega) e32 (fun q31 => ?_)
        refine i_iconst r_200_299 (n_200_299 _) ?_
        refine i_iadd r_200_300 (n_200_300 _) ?_
        obtain ⟨g33, h⟩ := h
        refine i_iastore (a := 256) (j := x1) (x := (zI s 256 x1) + 1) r_200_301 (n_200_301 _) lf_256 ⟨by omega, by omega⟩ (by omega) (by omega) g33 ?_
        refine i_iinc (x := x6) (l' := [(0, rf 252), (1, iv x1), (2, iv x2), (3, iv x3), (4, iv x4), (5, iv x5), (6, iv (x6 + 1)), (7, iv ((40 * x1) + (zI s 256 x1))), (8, iv ((zI s 266 x2) + (x3 * (zel x4 (zI s 257 (x4 - 100))))))]) r_200_302 (n_200_302 _) (by decide) rfl rfl ?_
        refine i_goto (t := 40) r_200_305 (n_200_305 _) rfl ?_
        exact wp_pr (l' := [(0, rf 252), (1, iv x1), (2, iv x2), (3, iv x3), (4, iv x4), (5, iv x5), (6, iv (x6 + 1))]) rfl h
      · replace h := h.2 c27
        refine i_bipush r_200_154 (n_200_154 _) rfl ?_
        refine i_iload (x := x4) r_200_156 (n_200_156 _) rfl ?_
        refine i_bipush r_200_158 (n_200_158 _) rfl ?_
        refine i_isub r_200_160 (n_200_160 _) ?_
        refine i_imul r_200_161 (n_200_161 _) ?_
        refine i_iload (x := x6) r_200_162 (n_200_162 _) rfl ?_
        refine i_iadd r_200_164 (n_200_164 _) ?_
        refine i_istore (l' := [(0, rf 252), (1, iv x1), (2, iv x2), (3, iv x3), (4, iv x4), (5, iv x5), (6, iv x6), (7, iv ((40 * x1) + (zI s 256 x1))), (8, iv ((zI s 266 x2) + (x3 * (zel x4 (zI s 257 (x4 - 100)))))), (9, iv ((40 * (x4 - 100)) + x6))]) r_200_165 (n_200_165 _) (by decide) rfl ?_
        refine i_aload_n (a := 252) r_200_167 (n_200_167 _) rfl ?_
        refine i_iload_n (x := x1) r_200_168 (n_200_168 _) rfl ?_
        refine i_bipush r_200_169 (n_200_169 _) rfl ?_
        have e34 : zI (zwI (zwI (zwI (zwI s 264 ((40 * x1) + (zI s 256 x1)) 0) 263 ((32 * ((40 * x1) + (zI s 256 x1))) + 0) (zI s 253 (((1 + (26 * x1)) + 2) + (3 * x2)))) 264 ((40 * x1) + (zI s 256 x1)) (0 + 1)) 262 ((40 * x1) + (zI s 256 x1)) x2) 256 x1 = zI s 256 x1 := (zI_ne (by omega)).trans ((zI_ne (by omega)).trans ((zI_ne (by omega)).trans (zI_ne (by omega))))
        have e35 : zI (zwI (zwI (zwI (zwI s 264 ((40 * x1) + (zI s 256 x1)) 0) 263 ((32 * ((40 * x1) + (zI s 256 x1))) + 0) (zI s 253 (((1 + (26 * x1)) + 2) + (3 * x2)))) 264 ((40 * x1) + (zI s 256 x1)) (0 + 1)) 262 ((40 * x1) + (zI s 256 x1)) x2) 264 ((40 * x1) + (zI s 256 x1)) = 0 + 1 := (zI_ne (by omega)).trans (zI_eq)
        obtain ⟨g36, h⟩ := h
        obtain ⟨g37, h⟩ := h
        refine wp_virt (b := 252) (rest := []) (Ls := [(0, rf 252), (1, iv x1), (2, iv 46)]) r_200_171 (n_200_171 _) rfl ⟨rfl, rfl, by decide, by decide⟩ rfl rfl lf_252 ⟨rfl, Nat.le_of_ble_eq_true rfl, Nat.le_of_ble_eq_true rfl⟩ rfl (K_Model_adds (by (try rw [e34]); (try rw [e35]); exact g4) (by (try rw [e34]); (try rw [e35]); exact g11) (by (try rw [e34]); (try rw [e35]); exact g36) (by (try rw [e34]); (try rw [e35]); exact ⟨by omega, by omega⟩) (by (try rw [e34]); (try rw [e35]); exact g37)) ?_
        rintro _ _ ⟨rfl, rfl⟩
        refine .inl ⟨none, rfl, ?_⟩
        (try rw [e34]); (try rw [e35])
        show wp S 200 174 [(0, rf 252), (1, iv x1), (2, iv x2), (3, iv x3), (4, iv x4), (5, iv x5), (6, iv x6), (7, iv ((40 * x1) + (zI s 256 x1))), (8, iv ((zI s 266 x2) + (x3 * (zel x4 (zI s 257 (x4 - 100)))))), (9, iv ((40 * (x4 - 100)) + x6))] [] (zwI (zwI (zwI (zwI (zwI (zwI s 264 ((40 * x1) + (zI s 256 x1)) 0) 263 ((32 * ((40 * x1) + (zI s 256 x1))) + 0) (zI s 253 (((1 + (26 * x1)) + 2) + (3 * x2)))) 264 ((40 * x1) + (zI s 256 x1)) (0 + 1)) 262 ((40 * x1) + (zI s 256 x1)) x2) 263 ((32 * ((40 * x1) + (zI s 256 x1))) + (0 + 1)) 46) 264 ((40 * x1) + (zI s 256 x1)) ((0 + 1) + 1)) Q
        refine i_iconst r_200_174 (n_200_174 _) ?_
        refine i_istore (l' := [(0, rf 252), (1, iv x1), (2, iv x2), (3, iv x3), (4, iv x4), (5, iv x5), (6, iv x6), (7, iv ((40 * x1) + (zI s 256 x1))), (8, iv ((zI s 266 x2) + (x3 * (zel x4 (zI s 257 (x4 - 100)))))), (9, iv ((40 * (x4 - 100)) + x6)), (10, iv 0)]) r_200_175 (n_200_175 _) (by decide) rfl ?_
        exact wp_pr (l' := [(0, rf 252), (1, iv x1), (2, iv x2), (3, iv x3), (4, iv x4), (5, iv x5), (6, iv x6), (7, iv ((40 * x1) + (zI s 256 x1))), (8, iv ((zI s 266 x2) + (x3 * (zel x4 (zI s 257 (x4 - 100)))))), (9, iv ((40 * (x4 - 100)) + x6)), (10, iv 0)]) rfl h
    · replace h := h.2 c25
      refine i_aload_n (a := 252) r_200_116 (n_200_116 _) rfl ?_
      refine i_iload_n (x := x1) r_200_117 (n_200_117 _) rfl ?_
      refine i_bipush r_200_118 (n_200_118 _) rfl ?_
      have e39 : zI (zwI (zwI (zwI s 264 ((40 * x1) + (zI s 256 x1)) 0) 263 ((32 * ((40 * x1) + (zI s 256 x1))) + 0) (zI s 253 (((1 + (26 * x1)) + 2) + (3 * x2)))) 264 ((40 * x1) + (zI s 256 x1)) (0 + 1)) 256 x1 = zI s 256 x1 := (zI_ne (by omega)).trans ((zI_ne (by omega)).trans (zI_ne (by omega)))
      have e40 : zI (zwI (zwI (zwI s 264 ((40 * x1) + (zI s 256 x1)) 0) 263 ((32 * ((40 * x1) + (zI s 256 x1))) + 0) (zI s 253 (((1 + (26 * x1)) + 2) + (3 * x2)))) 264 ((40 * x1) + (zI s 256 x1)) (0 + 1)) 264 ((40 * x1) + (zI s 256 x1)) = 0 + 1 := zI_eq
      obtain ⟨g41, h⟩ := h
      obtain ⟨g42, h⟩ := h
      refine wp_virt (b := 252) (rest := []) (Ls := [(0, rf 252), (1, iv x1), (2, iv 91)]) r_200_120 (n_200_120 _) rfl ⟨rfl, rfl, by decide, by decide⟩ rfl rfl lf_252 ⟨rfl, Nat.le_of_ble_eq_true rfl, Nat.le_of_ble_eq_true rfl⟩ rfl (K_Model_adds (by (try rw [e39]); (try rw [e40]); exact g4) (by (try rw [e39]); (try rw [e40]); exact g11) (by (try rw [e39]); (try rw [e40]); exact g41) (by (try rw [e39]); (try rw [e40]); exact ⟨by omega, by omega⟩) (by (try rw [e39]); (try rw [e40]); exact g42)) ?_
      rintro _ _ ⟨rfl, rfl⟩
      refine .inl ⟨none, rfl, ?_⟩
      (try rw [e39]); (try rw [e40])
      show wp S 200 123 [(0, rf 252), (1, iv x1), (2, iv x2), (3, iv x3), (4, iv x4), (5, iv x5), (6, iv x6), (7, iv ((40 * x1) + (zI s 256 x1))), (8, iv ((zI s 266 x2) + (x3 * (zel x4 (zI s 257 (x4 - 100))))))] [] (zwI (zwI (zwI (zwI (zwI s 264 ((40 * x1) + (zI s 256 x1)) 0) 263 ((32 * ((40 * x1) + (zI s 256 x1))) + 0) (zI s 253 (((1 + (26 * x1)) + 2) + (3 * x2)))) 264 ((40 * x1) + (zI s 256 x1)) (0 + 1)) 263 ((32 * ((40 * x1) + (zI s 256 x1))) + (0 + 1)) 91) 264 ((40 * x1) + (zI s 256 x1)) ((0 + 1) + 1)) Q
      refine i_aload_n (a := 252) r_200_123 (n_200_123 _) rfl ?_
      refine i_iload_n (x := x1) r_200_124 (n_200_124 _) rfl ?_
      refine i_bipush r_200_125 (n_200_125 _) rfl ?_
      refine i_iload_n (x := x3) r_200_127 (n_200_127 _) rfl ?_
      refine i_iadd r_200_128 (n_200_128 _) ?_
      have e44 : zI (zwI (zwI (zwI (zwI (zwI s 264 ((40 * x1) + (zI s 256 x1)) 0) 263 ((32 * ((40 * x1) + (zI s 256 x1))) + 0) (zI s 253 (((1 + (26 * x1)) + 2) + (3 * x2)))) 264 ((40 * x1) + (zI s 256 x1)) (0 + 1)) 263 ((32 * ((40 * x1) + (zI s 256 x1))) + (0 + 1)) 91) 264 ((40 * x1) + (zI s 256 x1)) ((0 + 1) + 1)) 256 x1 = zI s 256 x1 := (zI_ne (by omega)).trans ((zI_ne (by omega)).trans ((zI_ne (by omega)).trans ((zI_ne (by omega)).trans (zI_ne (by omega)))))
      have e45 : zI (zwI (zwI (zwI (zwI (zwI s 264 ((40 * x1) + (zI s 256 x1)) 0) 263 ((32 * ((40 * x1) + (zI s 256 x1))) + 0) (zI s 253 (((1 + (26 * x1)) + 2) + (3 * x2)))) 264 ((40 * x1) + (zI s 256 x1)) (0 + 1)) 263 ((32 * ((40 * x1) + (zI s 256 x1))) + (0 + 1)) 91) 264 ((40 * x1) + (zI s 256 x1)) ((0 + 1) + 1)) 264 ((40 * x1) + (zI s 256 x1)) = (0 + 1) + 1 := zI_eq
      obtain ⟨g46, h⟩ := h
      obtain ⟨g47, h⟩ := h
      obtain ⟨g48, h⟩ := h
      refine wp_virt (b := 252) (rest := []) (Ls := [(0, rf 252), (1, iv x1), (2, iv (48 + x3))]) r_200_129 (n_200_129 _) rfl ⟨rfl, rfl, by decide, by decide⟩ rfl rfl lf_252 ⟨rfl, Nat.le_of_ble_eq_true rfl, Nat.le_of_ble_eq_true rfl⟩ rfl (K_Model_adds (by (try rw [e44]); (try rw [e45]); exact g4) (by (try rw [e44]); (try rw [e45]); exact g11) (by (try rw [e44]); (try rw [e45]); exact g46) (by (try rw [e44]); (try rw [e45]); exact g47) (by (try rw [e44]); (try rw [e45]); exact g48)) ?_
      rintro _ _ ⟨rfl, rfl⟩
      refine .inl ⟨none, rfl, ?_⟩
      (try rw [e44]); (try rw [e45])
      show wp S 200 132 [(0, rf 252), (1, iv x1), (2, iv x2), (3, iv x3), (4, iv x4), (5, iv x5), (6, iv x6), (7, iv ((40 * x1) + (zI s 256 x1))), (8, iv ((zI s 266 x2) + (x3 * (zel x4 (zI s 257 (x4 - 100))))))] [] (zwI (zwI (zwI (zwI (zwI (zwI (zwI s 264 ((40 * x1) + (zI s 256 x1)) 0) 263 ((32 * ((40 * x1) + (zI s 256 x1))) + 0) (zI s 253 (((1 + (26 * x1)) + 2) + (3 * x2)))) 264 ((40 * x1) + (zI s 256 x1)) (0 + 1)) 263 ((32 * ((40 * x1) + (zI s 256 x1))) + (0 + 1)) 91) 264 ((40 * x1) + (zI s 256 x1)) ((0 + 1) + 1)) 263 ((32 * ((40 * x1) + (zI s 256 x1))) + ((0 + 1) + 1)) (48 + x3)) 264 ((40 * x1) + (zI s 256 x1)) (((0 + 1) + 1) + 1)) Q
      refine i_aload_n (a := 252) r_200_132 (n_200_132 _) rfl ?_
      refine i_iload_n (x := x1) r_200_133 (n_200_133 _) rfl ?_
      refine i_bipush r_200_134 (n_200_134 _) rfl ?_
      have e50 : zI (zwI (zwI (zwI (zwI (zwI (zwI (zwI s 264 ((40 * x1) + (zI s 256 x1)) 0) 263 ((32 * ((40 * x1) + (zI s 256 x1))) + 0) (zI s 253 (((1 + (26 * x1)) + 2) + (3 * x2)))) 264 ((40 * x1) + (zI s 256 x1)) (0 + 1)) 263 ((32 * ((40 * x1) + (zI s 256 x1))) + (0 + 1)) 91) 264 ((40 * x1) + (zI s 256 x1)) ((0 + 1) + 1)) 263 ((32 * ((40 * x1) + (zI s 256 x1))) + ((0 + 1) + 1)) (48 + x3)) 264 ((40 * x1) + (zI s 256 x1)) (((0 + 1) + 1) + 1)) 256 x1 = zI s 256 x1 := (zI_ne (by omega)).trans ((zI_ne (by omega)).trans ((zI_ne (by omega)).trans ((zI_ne (by omega)).trans ((zI_ne (by omega)).trans ((zI_ne (by omega)).trans (zI_ne (by omega)))))))
      have e51 : zI (zwI (zwI (zwI (zwI (zwI (zwI (zwI s 264 ((40 * x1) + (zI s 256 x1)) 0) 263 ((32 * ((40 * x1) + (zI s 256 x1))) + 0) (zI s 253 (((1 + (26 * x1)) + 2) + (3 * x2)))) 264 ((40 * x1) + (zI s 256 x1)) (0 + 1)) 263 ((32 * ((40 * x1) + (zI s 256 x1))) + (0 + 1)) 91) 264 ((40 * x1) + (zI s 256 x1)) ((0 + 1) + 1)) 263 ((32 * ((40 * x1) + (zI s 256 x1))) + ((0 + 1) + 1)) (48 + x3)) 264 ((40 * x1) + (zI s 256 x1)) (((0 + 1) + 1) + 1)) 264 ((40 * x1) + (zI s 256 x1)) = ((0 + 1) + 1) + 1 := zI_eq
      obtain ⟨g52, h⟩ := h
      obtain ⟨g53, h⟩ := h
      refine wp_virt (b := 252) (rest := []) (Ls := [(0, rf 252), (1, iv x1), (2, iv 93)]) r_200_136 (n_200_136 _) rfl ⟨rfl, rfl, by decide, by decide⟩ rfl rfl lf_252 ⟨rfl, Nat.le_of_ble_eq_true rfl, Nat.le_of_ble_eq_true rfl⟩ rfl (K_Model_adds (by (try rw [e50]); (try rw [e51]); exact g4) (by (try rw [e50]); (try rw [e51]); exact g11) (by (try rw [e50]); (try rw [e51]); exact g52) (by (try rw [e50]); (try rw [e51]); exact ⟨by omega, by omega⟩) (by (try rw [e50]); (try rw [e51]); exact g53)) ?_
      rintro _ _ ⟨rfl, rfl⟩
      refine .inl ⟨none, rfl, ?_⟩
      (try rw [e50]); (try rw [e51])
      show wp S 200 139 [(0, rf 252), (1, iv x1), (2, iv x2), (3, iv x3), (4, iv x4), (5, iv x5), (6, iv x6), (7, iv ((40 * x1) + (zI s 256 x1))), (8, iv ((zI s 266 x2) + (x3 * (zel x4 (zI s 257 (x4 - 100))))))] [] (zwI (zwI (zwI (zwI (zwI (zwI (zwI (zwI (zwI s 264 ((40 * x1) + (zI s 256 x1)) 0) 263 ((32 * ((40 * x1) + (zI s 256 x1))) + 0) (zI s 253 (((1 + (26 * x1)) + 2) + (3 * x2)))) 264 ((40 * x1) + (zI s 256 x1)) (0 + 1)) 263 ((32 * ((40 * x1) + (zI s 256 x1))) + (0 + 1)) 91) 264 ((40 * x1) + (zI s 256 x1)) ((0 + 1) + 1)) 263 ((32 * ((40 * x1) + (zI s 256 x1))) + ((0 + 1) + 1)) (48 + x3)) 264 ((40 * x1) + (zI s 256 x1)) (((0 + 1) + 1) + 1)) 263 ((32 * ((40 * x1) + (zI s 256 x1))) + (((0 + 1) + 1) + 1)) 93) 264 ((40 * x1) + (zI s 256 x1)) ((((0 + 1) + 1) + 1) + 1)) Q
      refine i_aload_n (a := 252) r_200_139 (n_200_139 _) rfl ?_
      refine i_getR (a := 252) (b := 262) r_200_140 (n_200_140 _) rfl rfl rfl (by omega) lf_252 (by omega) ?_
      refine i_iload (x := (40 * x1) + (zI s 256 x1)) r_200_143 (n_200_143 _) rfl ?_
      refine i_iload_n (x := x2) r_200_145 (n_200_145 _) rfl ?_
      obtain ⟨g55, h⟩ := h
      refine i_iastore (a := 262) (j := (40 * x1) + (zI s 256 x1)) (x := x2) r_200_146 (n_200_146 _) lf_262 ⟨by omega, by omega⟩ (by omega) (by omega) g55 ?_
      refine i_iload (x := x4) r_200_147 (n_200_147 _) rfl ?_
      refine i_bipush r_200_149 (n_200_149 _) rfl ?_
      refine i_icmp (t := 261) r_200_151 (n_200_151 _) rfl (T_lt g8 ⟨by omega, by omega⟩) (fun c56 => ?_) (fun c56 => ?_)
      · replace h := h.1 c56
        refine i_aload_n (a := 252) r_200_261 (n_200_261 _) rfl ?_
        refine i_getR (a := 252) (b := 259) r_200_262 (n_200_262 _) rfl rfl rfl (by omega) lf_252 (by omega) ?_
        refine i_iload (x := (40 * x1) + (zI s 256 x1)) r_200_265 (n_200_265 _) rfl ?_
        refine i_iload (x := x4) r_200_267 (n_200_267 _) rfl ?_
        refine i_iastore (a := 259) (j := (40 * x1) + (zI s 256 x1)) (x := x4) r_200_269 (n_200_269 _) lf_259 ⟨by omega, by omega⟩ (by omega) (by omega) g8 ?_
        refine i_aload_n (a := 252) r_200_270 (n_200_270 _) rfl ?_
        refine i_getR (a := 252) (b := 260) r_200_271 (n_200_271 _) rfl rfl rfl (by omega) lf_252 (by omega) ?_
        refine i_iload (x := (40 * x1) + (zI s 256 x1)) r_200_274 (n_200_274 _) rfl ?_
        refine i_iload (x := (zI s 266 x2) + (x3 * (zel x4 (zI s 257 (x4 - 100))))) r_200_276 (n_200_276 _) rfl ?_
        obtain ⟨g57, h⟩ := h
        refine i_iastore (a := 260) (j := (40 * x1) + (zI s 256 x1)) (x := (zI s 266 x2) + (x3 * (zel x4 (zI s 257 (x4 - 100))))) r_200_278 (n_200_278 _) lf_260 ⟨by omega, by omega⟩ (by omega) (by omega) g57 ?_
        refine i_aload_n (a := 252) r_200_279 (n_200_279 _) rfl ?_
        refine i_getR (a := 252) (b := 261) r_200_280 (n_200_280 _) rfl rfl rfl (by omega) lf_252 (by omega) ?_
        refine i_iload (x := (40 * x1) + (zI s 256 x1)) r_200_283 (n_200_283 _) rfl ?_
        refine i_aload_n (a := 252) r_200_285 (n_200_285 _) rfl ?_
        refine i_getR (a := 252) (b := 267) r_200_286 (n_200_286 _) rfl rfl rfl (by omega) lf_252 (by omega) ?_
        refine i_iload_n (x := x2) r_200_289 (n_200_289 _) rfl ?_
        have e59 : zI (zwI (zwI (zwI (zwI (zwI (zwI (zwI (zwI (zwI (zwI (zwI (zwI s 264 ((40 * x1) + (zI s 256 x1)) 0) 263 ((32 * ((40 * x1) + (zI s 256 x1))) + 0) (zI s 253 (((1 + (26 * x1)) + 2) + (3 * x2)))) 264 ((40 * x1) + (zI s 256 x1)) (0 + 1)) 263 ((32 * ((40 * x1) + (zI s 256 x1))) + (0 + 1)) 91) 264 ((40 * x1) + (zI s 256 x1)) ((0 + 1) + 1)) 263 ((32 * ((40 * x1) + (zI s 256 x1))) + ((0 + 1) + 1)) (48 + x3)) 264 ((40 * x1) + (zI s 256 x1)) (((0 + 1) + 1) + 1)) 263 ((32 * ((40 * x1) + (zI s 256 x1))) + (((0 + 1) + 1) + 1)) 93) 264 ((40 * x1) + (zI s 256 x1)) ((((0 + 1) + 1) + 1) + 1)) 262 ((40 * x1) + (zI s 256 x1)) x2) 259 ((40 * x1) + (zI s 256 x1)) x4) 260 ((40 * x1) + (zI s 256 x1)) ((zI s 266 x2) + (x3 * (zel x4 (zI s 257 (x4 - 100)))))) 267 x2 = zI s 267 x2 := (zI_ne (by omega)).trans ((zI_ne (by omega)).trans ((zI_ne (by omega)).trans ((zI_ne (by omega)).trans ((zI_ne (by omega)).trans ((zI_ne (by omega)).trans ((zI_ne (by omega)).trans ((zI_ne (by omega)).trans ((zI_ne (by omega)).trans ((zI_ne (by omega)).trans ((zI_ne (by omega)).trans (zI_ne (by omega))))))))))))
        refine i_ialoade (a := 267) (j := x2) (x := zI s 267 x2) r_200_290 (n_200_290 _) lf_267 ⟨by omega, by omega⟩ (by omega) (by omega) e59 (fun q58 => ?_)
        refine i_iastore (a := 261) (j := (40 * x1) + (zI s 256 x1)) (x := zI s 267 x2) r_200_291 (n_200_291 _) lf_261 ⟨by omega, by omega⟩ (by omega) (by omega) q58 ?_
        refine i_aload_n (a := 252) r_200_292 (n_200_292 _) rfl ?_
        refine i_getR (a := 252) (b := 256) r_200_293 (n_200_293 _) rfl rfl rfl (by omega) lf_252 (by omega) ?_
        refine i_iload_n (x := x1) r_200_296 (n_200_296 _) rfl ?_
        refine i_dup2 r_200_297 (n_200_297 _) rfl rfl ?_
        have e61 : zI (zwI (zwI (zwI (zwI (zwI (zwI (zwI (zwI (zwI (zwI (zwI (zwI (zwI s 264 ((40 * x1) + (zI s 256 x1)) 0) 263 ((32 * ((40 * x1) + (zI s 256 x1))) + 0) (zI s 253 (((1 + (26 * x1)) + 2) + (3 * x2)))) 264 ((40 * x1) + (zI s 256 x1)) (0 + 1)) 263 ((32 * ((40 * x1) + (zI s 256 x1))) + (0 + 1)) 91) 264 ((40 * x1) + (zI s 256 x1)) ((0 + 1) + 1)) 263 ((32 * ((40 * x1) + (zI s 256 x1))) + ((0 + 1) + 1)) (48 + x3)) 264 ((40 * x1) + (zI s 256 x1)) (((0 + 1) + 1) + 1)) 263 ((32 * ((40 * x1) + (zI s 256 x1))) + (((0 + 1) + 1) + 1)) 93) 264 ((40 * x1) + (zI s 256 x1)) ((((0 + 1) + 1) + 1) + 1)) 262 ((40 * x1) + (zI s 256 x1)) x2) 259 ((40 * x1) + (zI s 256 x1)) x4) 260 ((40 * x1) + (zI s 256 x1)) ((zI s 266 x2) + (x3 * (zel x4 (zI s 257 (x4 - 100)))))) 261 ((40 * x1) + (zI s 256 x1)) (zI s 267 x2)) 256 x1 = zI s 256 x1 := (zI_ne (by omega)).trans ((zI_ne (by omega)).trans ((zI_ne (by omega)).trans ((zI_ne (by omega)).trans ((zI_ne (by omega)).trans ((zI_ne (by omega)).trans ((zI_ne (by omega)).trans ((zI_ne (by omega)).trans ((zI_ne (by omega)).trans ((zI_ne (by omega)).trans ((zI_ne (by omega)).trans ((zI_ne (by omega)).trans (zI_ne (by omega)))))))))))))
        refine i_ialoade (a := 256) (j := x1) (x := zI s 256 x1) r_200_298 (n_200_298 _) lf_256 ⟨by omega, by omega⟩ (by omega) (by omega) e61 (fun q60 => ?_)
        refine i_iconst r_200_299 (n_200_299 _) ?_
        refine i_iadd r_200_300 (n_200_300 _) ?_
        obtain ⟨g62, h⟩ := h
        refine i_iastore (a := 256) (j := x1) (x := (zI s 256 x1) + 1) r_200_301 (n_200_301 _) lf_256 ⟨by omega, by omega⟩ (by omega) (by omega) g62 ?_
        refine i_iinc (x := x6) (l' := [(0, rf 252), (1, iv x1), (2, iv x2), (3, iv x3), (4, iv x4), (5, iv x5), (6, iv (x6 + 1)), (7, iv ((40 * x1) + (zI s 256 x1))), (8, iv ((zI s 266 x2) + (x3 * (zel x4 (zI s 257 (x4 - 100))))))]) r_200_302 (n_200_302 _) (by decide) rfl rfl ?_
        refine i_goto (t := 40) r_200_305 (n_200_305 _) rfl ?_
        exact wp_pr (l' := [(0, rf 252), (1, iv x1), (2, iv x2), (3, iv x3), (4, iv x4), (5, iv x5), (6, iv (x6 + 1))]) rfl h
      · replace h := h.2 c56
        refine i_bipush r_200_154 (n_200_154 _) rfl ?_
        refine i_iload (x := x4) r_200_156 (n_200_156 _) rfl ?_
        refine i_bipush r_200_158 (n_200_158 _) rfl ?_
        refine i_isub r_200_160 (n_200_160 _) ?_
        refine i_imul r_200_161 (n_200_161 _) ?_
        refine i_iload (x := x6) r_200_162 (n_200_162 _) rfl ?_
        refine i_iadd r_200_164 (n_200_164 _) ?_
        refine i_istore (l' := [(0, rf 252), (1, iv x1), (2, iv x2), (3, iv x3), (4, iv x4), (5, iv x5), (6, iv x6), (7, iv ((40 * x1) + (zI s 256 x1))), (8, iv ((zI s 266 x2) + (x3 * (zel x4 (zI s 257 (x4 - 100)))))), (9, iv ((40 * (x4 - 100)) + x6))]) r_200_165 (n_200_165 _) (by decide) rfl ?_
        refine i_aload_n (a := 252) r_200_167 (n_200_167 _) rfl ?_
        refine i_iload_n (x := x1) r_200_168 (n_200_168 _) rfl ?_
        refine i_bipush r_200_169 (n_200_169 _) rfl ?_
        have e63 : zI (zwI (zwI (zwI (zwI (zwI (zwI (zwI (zwI (zwI (zwI s 264 ((40 * x1) + (zI s 256 x1)) 0) 263 ((32 * ((40 * x1) + (zI s 256 x1))) + 0) (zI s 253 (((1 + (26 * x1)) + 2) + (3 * x2)))) 264 ((40 * x1) + (zI s 256 x1)) (0 + 1)) 263 ((32 * ((40 * x1) + (zI s 256 x1))) + (0 + 1)) 91) 264 ((40 * x1) + (zI s 256 x1)) ((0 + 1) + 1)) 263 ((32 * ((40 * x1) + (zI s 256 x1))) + ((0 + 1) + 1)) (48 + x3)) 264 ((40 * x1) + (zI s 256 x1)) (((0 + 1) + 1) + 1)) 263 ((32 * ((40 * x1) + (zI s 256 x1))) + (((0 + 1) + 1) + 1)) 93) 264 ((40 * x1) + (zI s 256 x1)) ((((0 + 1) + 1) + 1) + 1)) 262 ((40 * x1) + (zI s 256 x1)) x2) 256 x1 = zI s 256 x1 := (zI_ne (by omega)).trans ((zI_ne (by omega)).trans ((zI_ne (by omega)).trans ((zI_ne (by omega)).trans ((zI_ne (by omega)).trans ((zI_ne (by omega)).trans ((zI_ne (by omega)).trans ((zI_ne (by omega)).trans ((zI_ne (by omega)).trans (zI_ne (by omega))))))))))
        have e64 : zI (zwI (zwI (zwI (zwI (zwI (zwI (zwI (zwI (zwI (zwI s 264 ((40 * x1) + (zI s 256 x1)) 0) 263 ((32 * ((40 * x1) + (zI s 256 x1))) + 0) (zI s 253 (((1 + (26 * x1)) + 2) + (3 * x2)))) 264 ((40 * x1) + (zI s 256 x1)) (0 + 1)) 263 ((32 * ((40 * x1) + (zI s 256 x1))) + (0 + 1)) 91) 264 ((40 * x1) + (zI s 256 x1)) ((0 + 1) + 1)) 263 ((32 * ((40 * x1) + (zI s 256 x1))) + ((0 + 1) + 1)) (48 + x3)) 264 ((40 * x1) + (zI s 256 x1)) (((0 + 1) + 1) + 1)) 263 ((32 * ((40 * x1) + (zI s 256 x1))) + (((0 + 1) + 1) + 1)) 93) 264 ((40 * x1) + (zI s 256 x1)) ((((0 + 1) + 1) + 1) + 1)) 262 ((40 * x1) + (zI s 256 x1)) x2) 264 ((40 * x1) + (zI s 256 x1)) = (((0 + 1) + 1) + 1) + 1 := (zI_ne (by omega)).trans (zI_eq)
        obtain ⟨g65, h⟩ := h
        obtain ⟨g66, h⟩ := h
        refine wp_virt (b := 252) (rest := []) (Ls := [(0, rf 252), (1, iv x1), (2, iv 46)]) r_200_171 (n_200_171 _) rfl ⟨rfl, rfl, by decide, by decide⟩ rfl rfl lf_252 ⟨rfl, Nat.le_of_ble_eq_true rfl, Nat.le_of_ble_eq_true rfl⟩ rfl (K_Model_adds (by (try rw [e63]); (try rw [e64]); exact g4) (by (try rw [e63]); (try rw [e64]); exact g11) (by (try rw [e63]); (try rw [e64]); exact g65) (by (try rw [e63]); (try rw [e64]); exact ⟨by omega, by omega⟩) (by (try rw [e63]); (try rw [e64]); exact g66)) ?_
        rintro _ _ ⟨rfl, rfl⟩
        refine .inl ⟨none, rfl, ?_⟩
        (try rw [e63]); (try rw [e64])
        show wp S 200 174 [(0, rf 252), (1, iv x1), (2, iv x2), (3, iv x3), (4, iv x4), (5, iv x5), (6, iv x6), (7, iv ((40 * x1) + (zI s 256 x1))), (8, iv ((zI s 266 x2) + (x3 * (zel x4 (zI s 257 (x4 - 100)))))), (9, iv ((40 * (x4 - 100)) + x6))] [] (zwI (zwI (zwI (zwI (zwI (zwI (zwI (zwI (zwI (zwI (zwI (zwI s 264 ((40 * x1) + (zI s 256 x1)) 0) 263 ((32 * ((40 * x1) + (zI s 256 x1))) + 0) (zI s 253 (((1 + (26 * x1)) + 2) + (3 * x2)))) 264 ((40 * x1) + (zI s 256 x1)) (0 + 1)) 263 ((32 * ((40 * x1) + (zI s 256 x1))) + (0 + 1)) 91) 264 ((40 * x1) + (zI s 256 x1)) ((0 + 1) + 1)) 263 ((32 * ((40 * x1) + (zI s 256 x1))) + ((0 + 1) + 1)) (48 + x3)) 264 ((40 * x1) + (zI s 256 x1)) (((0 + 1) + 1) + 1)) 263 ((32 * ((40 * x1) + (zI s 256 x1))) + (((0 + 1) + 1) + 1)) 93) 264 ((40 * x1) + (zI s 256 x1)) ((((0 + 1) + 1) + 1) + 1)) 262 ((40 * x1) + (zI s 256 x1)) x2) 263 ((32 * ((40 * x1) + (zI s 256 x1))) + ((((0 + 1) + 1) + 1) + 1)) 46) 264 ((40 * x1) + (zI s 256 x1)) (((((0 + 1) + 1) + 1) + 1) + 1)) Q
        refine i_iconst r_200_174 (n_200_174 _) ?_
        refine i_istore (l' := [(0, rf 252), (1, iv x1), (2, iv x2), (3, iv x3), (4, iv x4), (5, iv x5), (6, iv x6), (7, iv ((40 * x1) + (zI s 256 x1))), (8, iv ((zI s 266 x2) + (x3 * (zel x4 (zI s 257 (x4 - 100)))))), (9, iv ((40 * (x4 - 100)) + x6)), (10, iv 0)]) r_200_175 (n_200_175 _) (by decide) rfl ?_
        exact wp_pr (l' := [(0, rf 252), (1, iv x1), (2, iv x2), (3, iv x3), (4, iv x4), (5, iv x5), (6, iv x6), (7, iv ((40 * x1) + (zI s 256 x1))), (8, iv ((zI s 266 x2) + (x3 * (zel x4 (zI s 257 (x4 - 100)))))), (9, iv ((40 * (x4 - 100)) + x6)), (10, iv 0)]) rfl h
theorem v_Model_addsLeaves_177 {S : Option (Nat × (Nat → Int32))} {s : zSt} {Q : Option Value ⊕ Nat → zSt → Prop} {x1 : Int} {x2 : Int} {x3 : Int} {x4 : Int} {x5 : Int} {x6 : Int} {x7 : Int} {x8 : Int} {x9 : Int} {x10 : Int} 
    (h : (0 ≤ x9 ∧ x9 < 240) ∧ (rng x10 ∧ (((zI s 264 x9) ≤ x10 → (0 ≤ x7 ∧ x7 < 240) ∧ (rng (x8 + (zI s 260 x9)) ∧ ((0 ≤ x1 ∧ x1 < 6) ∧ (rng ((zI s 256 x1) + 1) ∧ (wp S 200 40 [(0, rf 252), (1, iv x1), (2, iv x2), (3, iv x3), (4, iv x4), (5, iv x5), (6, iv (x6 + 1))] [] (zwI (zwI (zwI (zwI s 259 x7 (zI s 259 x9)) 260 x7 (x8 + (zI s 260 x9))) 261 x7 (zI s 261 x9)) 256 x1 ((zI s 256 x1) + 1)) Q))))) ∧ (x10 < (zI s 264 x9) → (0 ≤ ((32 * x9) + x10) ∧ ((32 * x9) + x10) < 7680) ∧ ((0 ≤ x1 ∧ x1 < 6) ∧ ((0 ≤ ((40 * x1) + (zI s 256 x1)) ∧ ((40 * x1) + (zI s 256 x1)) < 240) ∧ ((0 ≤ ((32 * ((40 * x1) + (zI s 256 x1))) + (zI s 264 ((40 * x1) + (zI s 256 x1)))) ∧ ((32 * ((40 * x1) + (zI s 256 x1))) + (zI s 264 ((40 * x1) + (zI s 256 x1)))) < 7680) ∧ (rng ((zI s 264 ((40 * x1) + (zI s 256 x1))) + 1) ∧ (wp S 200 177 [(0, rf 252), (1, iv x1), (2, iv x2), (3, iv x3), (4, iv x4), (5, iv x5), (6, iv x6), (7, iv x7), (8, iv x8), (9, iv x9), (10, iv (x10 + 1))] [] (zwI (zwI s 263 ((32 * ((40 * x1) + (zI s 256 x1))) + (zI s 264 ((40 * x1) + (zI s 256 x1)))) (zI s 263 ((32 * x9) + x10))) 264 ((40 * x1) + (zI s 256 x1)) ((zI s 264 ((40 * x1) + (zI s 256 x1))) + 1)) Q))))))))) :
    wp S 200 177 [(0, rf 252), (1, iv x1), (2, iv x2), (3, iv x3), (4, iv x4), (5, iv x5), (6, iv x6), (7, iv x7), (8, iv x8), (9, iv x9), (10, iv x10)] [] s Q := by
  refine i_iload (x := x10) r_200_177 rfl rfl ?_
  refine i_aload_n (a := 252) r_200_179 (n_200_179 _) rfl ?_
  refine i_getR (a := 252) (b := 264) r_200_180 (n_200_180 _) rfl rfl rfl (by omega) lf_252 (by omega) ?_
  refine i_iload (x := x9) r_200_183 (n_200_183 _) rfl ?_
  obtain ⟨g1, h⟩ := h
  refine i_iaload (a := 264) (j := x9) r_200_185 (n_200_185 _) lf_264 ⟨by omega, by omega⟩ (by omega) (by omega) (fun q2 => ?_)
  obtain ⟨g3, h⟩ := h
  refine i_icmp (t := 213) r_200_186 (n_200_186 _) rfl (T_ge g3 q2) (fun c4 => ?_) (fun c4 => ?_)
  · replace h := h.1 c4
    refine i_aload_n (a := 252) r_200_213 (n_200_213 _) rfl ?_
    refine i_getR (a := 252) (b := 259) r_200_214 (n_200_214 _) rfl rfl rfl (by omega) lf_252 (by omega) ?_
    refine i_iload (x := x7) r_200_217 (n_200_217 _) rfl ?_
    refine i_aload_n (a := 252) r_200_219 (n_200_219 _) rfl ?_
    refine i_getR (a := 252) (b := 259) r_200_220 (n_200_220 _) rfl rfl rfl (by omega) lf_252 (by omega) ?_
    refine i_iload (x := x9) r_200_223 (n_200_223 _) rfl ?_
    refine i_iaload (a := 259) (j := x9) r_200_225 (n_200_225 _) lf_259 ⟨by omega, by omega⟩ (by omega) (by omega) (fun q5 => ?_)
    obtain ⟨g6, h⟩ := h
    refine i_iastore (a := 259) (j := x7) (x := zI s 259 x9) r_200_226 (n_200_226 _) lf_259 ⟨by omega, by omega⟩ (by omega) (by omega) q5 ?_
    refine i_aload_n (a := 252) r_200_227 (n_200_227 _) rfl ?_
    refine i_getR (a := 252) (b := 260) r_200_228 (n_200_228 _) rfl rfl rfl (by omega) lf_252 (by omega) ?_
    refine i_iload (x := x7) r_200_231 (n_200_231 _) rfl ?_
    refine i_iload (x := x8) r_200_233 (n_200_233 _) rfl ?_
    refine i_aload_n (a := 252) r_200_235 (n_200_235 _) rfl ?_
    refine i_getR (a := 252) (b := 260) r_200_236 (n_200_236 _) rfl rfl rfl (by omega) lf_252 (by omega) ?_
    refine i_iload (x := x9) r_200_239 (n_200_239 _) rfl ?_
    have e8 : zI (zwI s 259 x7 (zI s 259 x9)) 260 x9 = zI s 260 x9 := zI_ne (by omega)
    refine i_ialoade (a := 260) (j := x9) (x := zI s 260 x9) r_200_241 (n_200_241 _) lf_260 ⟨by omega, by omega⟩ (by omega) (by omega) e8 (fun q7 => ?_)
    refine i_iadd r_200_242 (n_200_242 _) ?_
    obtain ⟨g9, h⟩ := h
    refine i_iastore (a := 260) (j := x7) (x := x8 + (zI s 260 x9)) r_200_243 (n_200_243 _) lf_260 ⟨by omega, by omega⟩ (by omega) (by omega) g9 ?_
    refine i_aload_n (a := 252) r_200_244 (n_200_244 _) rfl ?_
    refine i_getR (a := 252) (b := 261) r_200_245 (n_200_245 _) rfl rfl rfl (by omega) lf_252 (by omega) ?_
    refine i_iload (x := x7) r_200_248 (n_200_248 _) rfl ?_
    refine i_aload_n (a := 252) r_200_250 (n_200_250 _) rfl ?_
    refine i_getR (a := 252) (b := 261) r_200_251 (n_200_251 _) rfl rfl rfl (by omega) lf_252 (by omega) ?_
    refine i_iload (x := x9) r_200_254 (n_200_254 _) rfl ?_
    have e11 : zI (zwI (zwI s 259 x7 (zI s 259 x9)) 260 x7 (x8 + (zI s 260 x9))) 261 x9 = zI s 261 x9 := (zI_ne (by omega)).trans (zI_ne (by omega))
    refine i_ialoade (a := 261) (j := x9) (x := zI s 261 x9) r_200_256 (n_200_256 _) lf_261 ⟨by omega, by omega⟩ (by omega) (by omega) e11 (fun q10 => ?_)
    refine i_iastore (a := 261) (j := x7) (x := zI s 261 x9) r_200_257 (n_200_257 _) lf_261 ⟨by omega, by omega⟩ (by omega) (by omega) q10 ?_
    refine i_goto (t := 292) r_200_258 (n_200_258 _) rfl ?_
    refine i_aload_n (a := 252) r_200_292 (n_200_292 _) rfl ?_
    refine i_getR (a := 252) (b := 256) r_200_293 (n_200_293 _) rfl rfl rfl (by omega) lf_252 (by omega) ?_
    refine i_iload_n (x := x1) r_200_296 (n_200_296 _) rfl ?_
    refine i_dup2 r_200_297 (n_200_297 _) rfl rfl ?_
    obtain ⟨g12, h⟩ := h
    have e14 : zI (zwI (zwI (zwI s 259 x7 (zI s 259 x9)) 260 x7 (x8 + (zI s 260 x9))) 261 x7 (zI s 261 x9)) 256 x1 = zI s 256 x1 := (zI_ne (by omega)).trans ((zI_ne (by omega)).trans (zI_ne (by omega)))
    refine i_ialoade (a := 256) (j := x1) (x := zI s 256 x1) r_200_298 (n_200_298 _) lf_256 ⟨by omega, by omega⟩ (by omega) (by omega) e14 (fun q13 => ?_)
    refine i_iconst r_200_299 (n_200_299 _) ?_
    refine i_iadd r_200_300 (n_200_300 _) ?_
    obtain ⟨g15, h⟩ := h
    refine i_iastore (a := 256) (j := x1) (x := (zI s 256 x1) + 1) r_200_301 (n_200_301 _) lf_256 ⟨by omega, by omega⟩ (by omega) (by omega) g15 ?_
    refine i_iinc (x := x6) (l' := [(0, rf 252), (1, iv x1), (2, iv x2), (3, iv x3), (4, iv x4), (5, iv x5), (6, iv (x6 + 1)), (7, iv x7), (8, iv x8), (9, iv x9), (10, iv x10)]) r_200_302 (n_200_302 _) (by decide) rfl rfl ?_
    refine i_goto (t := 40) r_200_305 (n_200_305 _) rfl ?_
    exact wp_pr (l' := [(0, rf 252), (1, iv x1), (2, iv x2), (3, iv x3), (4, iv x4), (5, iv x5), (6, iv (x6 + 1))]) rfl h
  · replace h := h.2 c4
    refine i_aload_n (a := 252) r_200_189 (n_200_189 _) rfl ?_
    refine i_iload_n (x := x1) r_200_190 (n_200_190 _) rfl ?_
    refine i_aload_n (a := 252) r_200_191 (n_200_191 _) rfl ?_
    refine i_getR (a := 252) (b := 263) r_200_192 (n_200_192 _) rfl rfl rfl (by omega) lf_252 (by omega) ?_
    refine i_bipush r_200_195 (n_200_195 _) rfl ?_
    refine i_iload (x := x9) r_200_197 (n_200_197 _) rfl ?_
    refine i_imul r_200_199 (n_200_199 _) ?_
    refine i_iload (x := x10) r_200_200 (n_200_200 _) rfl ?_
    refine i_iadd r_200_202 (n_200_202 _) ?_
    obtain ⟨g16, h⟩ := h
    refine i_iaload (a := 263) (j := (32 * x9) + x10) r_200_203 (n_200_203 _) lf_263 ⟨by omega, by omega⟩ (by omega) (by omega) (fun q17 => ?_)
    obtain ⟨g18, h⟩ := h
    obtain ⟨g19, h⟩ := h
    obtain ⟨g20, h⟩ := h
    obtain ⟨g21, h⟩ := h
    refine wp_virt (b := 252) (rest := []) (Ls := [(0, rf 252), (1, iv x1), (2, iv (zI s 263 ((32 * x9) + x10)))]) r_200_204 (n_200_204 _) rfl ⟨rfl, rfl, by decide, by decide⟩ rfl rfl lf_252 ⟨rfl, Nat.le_of_ble_eq_true rfl, Nat.le_of_ble_eq_true rfl⟩ rfl (K_Model_adds g18 g19 g20 q17 g21) ?_
    rintro _ _ ⟨rfl, rfl⟩
    refine .inl ⟨none, rfl, ?_⟩
    show wp S 200 207 [(0, rf 252), (1, iv x1), (2, iv x2), (3, iv x3), (4, iv x4), (5, iv x5), (6, iv x6), (7, iv x7), (8, iv x8), (9, iv x9), (10, iv x10)] [] (zwI (zwI s 263 ((32 * ((40 * x1) + (zI s 256 x1))) + (zI s 264 ((40 * x1) + (zI s 256 x1)))) (zI s 263 ((32 * x9) + x10))) 264 ((40 * x1) + (zI s 256 x1)) ((zI s 264 ((40 * x1) + (zI s 256 x1))) + 1)) Q
    refine i_iinc (x := x10) (l' := [(0, rf 252), (1, iv x1), (2, iv x2), (3, iv x3), (4, iv x4), (5, iv x5), (6, iv x6), (7, iv x7), (8, iv x8), (9, iv x9), (10, iv (x10 + 1))]) r_200_207 (n_200_207 _) (by decide) rfl rfl ?_
    refine i_goto (t := 177) r_200_210 (n_200_210 _) rfl ?_
    exact wp_pr (l' := [(0, rf 252), (1, iv x1), (2, iv x2), (3, iv x3), (4, iv x4), (5, iv x5), (6, iv x6), (7, iv x7), (8, iv x8), (9, iv x9), (10, iv (x10 + 1))]) rfl h
theorem r_202_0 : xfetch 202 0 = some (.iconst 0, 1) := by decide +kernel
theorem n_202_0 : ∀ l, xpr 202 0 l = l := xpr_no (by decide +kernel)
theorem r_202_1 : xfetch 202 1 = some (.istore_n 2, 1) := by decide +kernel
theorem n_202_1 : ∀ l, xpr 202 1 l = l := xpr_no (by decide +kernel)
theorem r_202_2 : xfetch 202 2 = some (.iconst 0, 1) := by decide +kernel
theorem n_202_2 : ∀ l, xpr 202 2 l = l := xpr_no (by decide +kernel)
theorem r_202_3 : xfetch 202 3 = some (.istore_n 3, 1) := by decide +kernel
theorem n_202_3 : ∀ l, xpr 202 3 l = l := xpr_no (by decide +kernel)
theorem r_202_4 : xfetch 202 4 = some (.iload_n 3, 1) := by decide +kernel
theorem r_202_5 : xfetch 202 5 = some (.aload_n 0, 1) := by decide +kernel
theorem n_202_5 : ∀ l, xpr 202 5 l = l := xpr_no (by decide +kernel)
theorem r_202_6 : xfetch 202 6 = some (.getfield 7, 3) := by decide +kernel
theorem n_202_6 : ∀ l, xpr 202 6 l = l := xpr_no (by decide +kernel)
theorem r_202_9 : xfetch 202 9 = some (.iconst 0, 1) := by decide +kernel
theorem n_202_9 : ∀ l, xpr 202 9 l = l := xpr_no (by decide +kernel)
theorem r_202_10 : xfetch 202 10 = some (.iaload, 1) := by decide +kernel
theorem n_202_10 : ∀ l, xpr 202 10 l = l := xpr_no (by decide +kernel)
theorem r_202_11 : xfetch 202 11 = some (.if_icmp .ge 58, 3) := by decide +kernel
theorem n_202_11 : ∀ l, xpr 202 11 l = l := xpr_no (by decide +kernel)
theorem r_202_14 : xfetch 202 14 = some (.iconst 0, 1) := by decide +kernel
theorem n_202_14 : ∀ l, xpr 202 14 l = l := xpr_no (by decide +kernel)
theorem r_202_15 : xfetch 202 15 = some (.istore 4, 2) := by decide +kernel
theorem n_202_15 : ∀ l, xpr 202 15 l = l := xpr_no (by decide +kernel)
theorem r_202_17 : xfetch 202 17 = some (.iload 4, 2) := by decide +kernel
theorem r_202_19 : xfetch 202 19 = some (.aload_n 0, 1) := by decide +kernel
theorem n_202_19 : ∀ l, xpr 202 19 l = l := xpr_no (by decide +kernel)
theorem r_202_20 : xfetch 202 20 = some (.iload_n 3, 1) := by decide +kernel
theorem n_202_20 : ∀ l, xpr 202 20 l = l := xpr_no (by decide +kernel)
theorem r_202_21 : xfetch 202 21 = some (.invokevirtual 99, 3) := by decide +kernel
theorem n_202_21 : ∀ l, xpr 202 21 l = l := xpr_no (by decide +kernel)
theorem r_202_24 : xfetch 202 24 = some (.if_icmp .ge 39, 3) := by decide +kernel
theorem n_202_24 : ∀ l, xpr 202 24 l = l := xpr_no (by decide +kernel)
theorem r_202_27 : xfetch 202 27 = some (.iload_n 2, 1) := by decide +kernel
theorem n_202_27 : ∀ l, xpr 202 27 l = l := xpr_no (by decide +kernel)
theorem r_202_28 : xfetch 202 28 = some (.ifCond .ne 23, 3) := by decide +kernel
theorem n_202_28 : ∀ l, xpr 202 28 l = l := xpr_no (by decide +kernel)
theorem r_202_31 : xfetch 202 31 = some (.aload_n 0, 1) := by decide +kernel
theorem n_202_31 : ∀ l, xpr 202 31 l = l := xpr_no (by decide +kernel)
theorem r_202_32 : xfetch 202 32 = some (.getfield 7, 3) := by decide +kernel
theorem n_202_32 : ∀ l, xpr 202 32 l = l := xpr_no (by decide +kernel)
theorem r_202_35 : xfetch 202 35 = some (.iload_n 3, 1) := by decide +kernel
theorem n_202_35 : ∀ l, xpr 202 35 l = l := xpr_no (by decide +kernel)
theorem r_202_36 : xfetch 202 36 = some (.iload 4, 2) := by decide +kernel
theorem n_202_36 : ∀ l, xpr 202 36 l = l := xpr_no (by decide +kernel)
theorem r_202_38 : xfetch 202 38 = some (.invokestatic 102, 3) := by decide +kernel
theorem n_202_38 : ∀ l, xpr 202 38 l = l := xpr_no (by decide +kernel)
theorem r_202_41 : xfetch 202 41 = some (.iconst 1, 1) := by decide +kernel
theorem n_202_41 : ∀ l, xpr 202 41 l = l := xpr_no (by decide +kernel)
theorem r_202_42 : xfetch 202 42 = some (.iadd, 1) := by decide +kernel
theorem n_202_42 : ∀ l, xpr 202 42 l = l := xpr_no (by decide +kernel)
theorem r_202_43 : xfetch 202 43 = some (.iaload, 1) := by decide +kernel
theorem n_202_43 : ∀ l, xpr 202 43 l = l := xpr_no (by decide +kernel)
theorem r_202_44 : xfetch 202 44 = some (.bipush 100, 2) := by decide +kernel
theorem n_202_44 : ∀ l, xpr 202 44 l = l := xpr_no (by decide +kernel)
theorem r_202_46 : xfetch 202 46 = some (.iload_n 1, 1) := by decide +kernel
theorem n_202_46 : ∀ l, xpr 202 46 l = l := xpr_no (by decide +kernel)
theorem r_202_47 : xfetch 202 47 = some (.iadd, 1) := by decide +kernel
theorem n_202_47 : ∀ l, xpr 202 47 l = l := xpr_no (by decide +kernel)
theorem r_202_48 : xfetch 202 48 = some (.if_icmp .ne 7, 3) := by decide +kernel
theorem n_202_48 : ∀ l, xpr 202 48 l = l := xpr_no (by decide +kernel)
theorem r_202_51 : xfetch 202 51 = some (.iconst 1, 1) := by decide +kernel
theorem n_202_51 : ∀ l, xpr 202 51 l = l := xpr_no (by decide +kernel)
theorem r_202_52 : xfetch 202 52 = some (.goto 4, 3) := by decide +kernel
theorem n_202_52 : ∀ l, xpr 202 52 l = l := xpr_no (by decide +kernel)
theorem r_202_55 : xfetch 202 55 = some (.iconst 0, 1) := by decide +kernel
theorem n_202_55 : ∀ l, xpr 202 55 l = l := xpr_no (by decide +kernel)
theorem r_202_56 : xfetch 202 56 = some (.istore_n 2, 1) := by decide +kernel
theorem n_202_56 : ∀ l, xpr 202 56 l = l := xpr_no (by decide +kernel)
theorem r_202_57 : xfetch 202 57 = some (.iinc 4 1, 3) := by decide +kernel
theorem n_202_57 : ∀ l, xpr 202 57 l = l := xpr_no (by decide +kernel)
theorem r_202_60 : xfetch 202 60 = some (.goto (-43), 3) := by decide +kernel
theorem n_202_60 : ∀ l, xpr 202 60 l = l := xpr_no (by decide +kernel)
theorem r_202_63 : xfetch 202 63 = some (.iinc 3 1, 3) := by decide +kernel
theorem n_202_63 : ∀ l, xpr 202 63 l = l := xpr_no (by decide +kernel)
theorem r_202_66 : xfetch 202 66 = some (.goto (-62), 3) := by decide +kernel
theorem n_202_66 : ∀ l, xpr 202 66 l = l := xpr_no (by decide +kernel)
theorem r_202_69 : xfetch 202 69 = some (.iconst 0, 1) := by decide +kernel
theorem n_202_69 : ∀ l, xpr 202 69 l = l := xpr_no (by decide +kernel)
theorem r_202_70 : xfetch 202 70 = some (.istore_n 3, 1) := by decide +kernel
theorem n_202_70 : ∀ l, xpr 202 70 l = l := xpr_no (by decide +kernel)
theorem r_202_71 : xfetch 202 71 = some (.iload_n 3, 1) := by decide +kernel
theorem r_202_72 : xfetch 202 72 = some (.iconst 3, 1) := by decide +kernel
theorem n_202_72 : ∀ l, xpr 202 72 l = l := xpr_no (by decide +kernel)
theorem r_202_73 : xfetch 202 73 = some (.if_icmp .ge 36, 3) := by decide +kernel
theorem n_202_73 : ∀ l, xpr 202 73 l = l := xpr_no (by decide +kernel)
theorem r_202_76 : xfetch 202 76 = some (.iload_n 2, 1) := by decide +kernel
theorem n_202_76 : ∀ l, xpr 202 76 l = l := xpr_no (by decide +kernel)
theorem r_202_77 : xfetch 202 77 = some (.ifCond .ne 20, 3) := by decide +kernel
theorem n_202_77 : ∀ l, xpr 202 77 l = l := xpr_no (by decide +kernel)
theorem r_202_80 : xfetch 202 80 = some (.aload_n 0, 1) := by decide +kernel
theorem n_202_80 : ∀ l, xpr 202 80 l = l := xpr_no (by decide +kernel)
theorem r_202_81 : xfetch 202 81 = some (.getfield 7, 3) := by decide +kernel
theorem n_202_81 : ∀ l, xpr 202 81 l = l := xpr_no (by decide +kernel)
theorem r_202_84 : xfetch 202 84 = some (.sipush 157, 3) := by decide +kernel
theorem n_202_84 : ∀ l, xpr 202 84 l = l := xpr_no (by decide +kernel)
theorem r_202_87 : xfetch 202 87 = some (.bipush 6, 2) := by decide +kernel
theorem n_202_87 : ∀ l, xpr 202 87 l = l := xpr_no (by decide +kernel)
theorem r_202_89 : xfetch 202 89 = some (.iload_n 3, 1) := by decide +kernel
theorem n_202_89 : ∀ l, xpr 202 89 l = l := xpr_no (by decide +kernel)
theorem r_202_90 : xfetch 202 90 = some (.imul, 1) := by decide +kernel
theorem n_202_90 : ∀ l, xpr 202 90 l = l := xpr_no (by decide +kernel)
theorem r_202_91 : xfetch 202 91 = some (.iadd, 1) := by decide +kernel
theorem n_202_91 : ∀ l, xpr 202 91 l = l := xpr_no (by decide +kernel)
theorem r_202_92 : xfetch 202 92 = some (.iaload, 1) := by decide +kernel
theorem n_202_92 : ∀ l, xpr 202 92 l = l := xpr_no (by decide +kernel)
theorem r_202_93 : xfetch 202 93 = some (.iload_n 1, 1) := by decide +kernel
theorem n_202_93 : ∀ l, xpr 202 93 l = l := xpr_no (by decide +kernel)
theorem r_202_94 : xfetch 202 94 = some (.if_icmp .ne 7, 3) := by decide +kernel
theorem n_202_94 : ∀ l, xpr 202 94 l = l := xpr_no (by decide +kernel)
theorem r_202_97 : xfetch 202 97 = some (.iconst 1, 1) := by decide +kernel
theorem n_202_97 : ∀ l, xpr 202 97 l = l := xpr_no (by decide +kernel)
theorem r_202_98 : xfetch 202 98 = some (.goto 4, 3) := by decide +kernel
theorem n_202_98 : ∀ l, xpr 202 98 l = l := xpr_no (by decide +kernel)
theorem r_202_101 : xfetch 202 101 = some (.iconst 0, 1) := by decide +kernel
theorem n_202_101 : ∀ l, xpr 202 101 l = l := xpr_no (by decide +kernel)
theorem r_202_102 : xfetch 202 102 = some (.istore_n 2, 1) := by decide +kernel
theorem n_202_102 : ∀ l, xpr 202 102 l = l := xpr_no (by decide +kernel)
theorem r_202_103 : xfetch 202 103 = some (.iinc 3 1, 3) := by decide +kernel
theorem n_202_103 : ∀ l, xpr 202 103 l = l := xpr_no (by decide +kernel)
theorem r_202_106 : xfetch 202 106 = some (.goto (-35), 3) := by decide +kernel
theorem n_202_106 : ∀ l, xpr 202 106 l = l := xpr_no (by decide +kernel)
theorem r_202_109 : xfetch 202 109 = some (.iload_n 2, 1) := by decide +kernel
theorem n_202_109 : ∀ l, xpr 202 109 l = l := xpr_no (by decide +kernel)
theorem r_202_110 : xfetch 202 110 = some (.ireturn, 1) := by decide +kernel
theorem n_202_110 : ∀ l, xpr 202 110 l = l := xpr_no (by decide +kernel)
theorem v_Model_isUsed_0 {S : Option (Nat × (Nat → Int32))} {s : zSt} {Q : Option Value ⊕ Nat → zSt → Prop} {x1 : Int} 
    (h : wp S 202 4 [(0, rf 252), (1, iv x1), (2, iv 0), (3, iv 0)] [] s Q) :
    wp S 202 0 [(0, rf 252), (1, iv x1)] [] s Q := by
  refine i_iconst r_202_0 (n_202_0 _) ?_
  refine i_istore_n (l' := [(0, rf 252), (1, iv x1), (2, iv 0)]) r_202_1 (n_202_1 _) (by decide) rfl ?_
  refine i_iconst r_202_2 (n_202_2 _) ?_
  refine i_istore_n (l' := [(0, rf 252), (1, iv x1), (2, iv 0), (3, iv 0)]) r_202_3 (n_202_3 _) (by decide) rfl ?_
  exact wp_pr (l' := [(0, rf 252), (1, iv x1), (2, iv 0), (3, iv 0)]) rfl h
theorem v_Model_isUsed_4 {S : Option (Nat × (Nat → Int32))} {s : zSt} {Q : Option Value ⊕ Nat → zSt → Prop} {x1 : Int} {x2 : Int} {x3 : Int} 
    (h : rng x3 ∧ (((zI s 253 0) ≤ x3 → wp S 202 71 [(0, rf 252), (1, iv x1), (2, iv x2), (3, iv 0)] [] s Q) ∧ (x3 < (zI s 253 0) → wp S 202 17 [(0, rf 252), (1, iv x1), (2, iv x2), (3, iv x3), (4, iv 0)] [] s Q))) :
    wp S 202 4 [(0, rf 252), (1, iv x1), (2, iv x2), (3, iv x3)] [] s Q := by
  refine i_iload_n (x := x3) r_202_4 rfl rfl ?_
  refine i_aload_n (a := 252) r_202_5 (n_202_5 _) rfl ?_
  refine i_getR (a := 252) (b := 253) r_202_6 (n_202_6 _) rfl rfl rfl (by omega) lf_252 (by omega) ?_
  refine i_iconst r_202_9 (n_202_9 _) ?_
  refine i_iaload (a := 253) (j := 0) r_202_10 (n_202_10 _) lf_253 ⟨by omega, by omega⟩ (by omega) (by omega) (fun q1 => ?_)
  obtain ⟨g2, h⟩ := h
  refine i_icmp (t := 69) r_202_11 (n_202_11 _) rfl (T_ge g2 q1) (fun c3 => ?_) (fun c3 => ?_)
  · replace h := h.1 c3
    refine i_iconst r_202_69 (n_202_69 _) ?_
    refine i_istore_n (l' := [(0, rf 252), (1, iv x1), (2, iv x2), (3, iv 0)]) r_202_70 (n_202_70 _) (by decide) rfl ?_
    exact wp_pr (l' := [(0, rf 252), (1, iv x1), (2, iv x2), (3, iv 0)]) rfl h
  · replace h := h.2 c3
    refine i_iconst r_202_14 (n_202_14 _) ?_
    refine i_istore (l' := [(0, rf 252), (1, iv x1), (2, iv x2), (3, iv x3), (4, iv 0)]) r_202_15 (n_202_15 _) (by decide) rfl ?_
    exact wp_pr (l' := [(0, rf 252), (1, iv x1), (2, iv x2), (3, iv x3), (4, iv 0)]) rfl h
theorem v_Model_isUsed_17 {S : Option (Nat × (Nat → Int32))} {s : zSt} {Q : Option Value ⊕ Nat → zSt → Prop} {x1 : Int} {x2 : Int} {x3 : Int} {x4 : Int} 
    (h : (0 ≤ ((1 + (26 * x3)) + 1) ∧ ((1 + (26 * x3)) + 1) < 1199) ∧ (rng x4 ∧ (((zI s 253 ((1 + (26 * x3)) + 1)) ≤ x4 → wp S 202 4 [(0, rf 252), (1, iv x1), (2, iv x2), (3, iv (x3 + 1))] [] s Q) ∧ (x4 < (zI s 253 ((1 + (26 * x3)) + 1)) → rng x2 ∧ ((x2 ≠ 0 → wp S 202 17 [(0, rf 252), (1, iv x1), (2, iv 1), (3, iv x3), (4, iv (x4 + 1))] [] s Q) ∧ (x2 = 0 → (0 ≤ ((((1 + (26 * x3)) + 2) + (3 * x4)) + 1) ∧ ((((1 + (26 * x3)) + 2) + (3 * x4)) + 1) < 1199) ∧ (rng (100 + x1) ∧ (((zI s 253 ((((1 + (26 * x3)) + 2) + (3 * x4)) + 1)) ≠ (100 + x1) → wp S 202 17 [(0, rf 252), (1, iv x1), (2, iv 0), (3, iv x3), (4, iv (x4 + 1))] [] s Q) ∧ ((zI s 253 ((((1 + (26 * x3)) + 2) + (3 * x4)) + 1)) = (100 + x1) → wp S 202 17 [(0, rf 252), (1, iv x1), (2, iv 1), (3, iv x3), (4, iv (x4 + 1))] [] s Q))))))))) :
    wp S 202 17 [(0, rf 252), (1, iv x1), (2, iv x2), (3, iv x3), (4, iv x4)] [] s Q := by
  refine i_iload (x := x4) r_202_17 rfl rfl ?_
  refine i_aload_n (a := 252) r_202_19 (n_202_19 _) rfl ?_
  refine i_iload_n (x := x3) r_202_20 (n_202_20 _) rfl ?_
  obtain ⟨g1, h⟩ := h
  refine wp_virt (b := 252) (rest := [iv x4]) (Ls := [(0, rf 252), (1, iv x3)]) r_202_21 (n_202_21 _) rfl ⟨rfl, rfl, by decide, by decide⟩ rfl rfl lf_252 ⟨rfl, Nat.le_of_ble_eq_true rfl, Nat.le_of_ble_eq_true rfl⟩ rfl (K_Model_fieldsOf g1) ?_
  rintro _ _ ⟨rfl, rfl⟩
  refine .inl ⟨some (iv (zI s 253 ((1 + (26 * x3)) + 1))), rfl, ?_⟩
  show wp S 202 24 [(0, rf 252), (1, iv x1), (2, iv x2), (3, iv x3), (4, iv x4)] [iv (zI s 253 ((1 + (26 * x3)) + 1)), iv x4] s Q
  refine wp_rd (a := 253) (j := ((1 + (26 * x3)) + 1)) (fun q3 => ?_)
  obtain ⟨g4, h⟩ := h
  refine i_icmp (t := 63) r_202_24 (n_202_24 _) rfl (T_ge g4 q3) (fun c5 => ?_) (fun c5 => ?_)
  · replace h := h.1 c5
    refine i_iinc (x := x3) (l' := [(0, rf 252), (1, iv x1), (2, iv x2), (3, iv (x3 + 1)), (4, iv x4)]) r_202_63 (n_202_63 _) (by decide) rfl rfl ?_
    refine i_goto (t := 4) r_202_66 (n_202_66 _) rfl ?_
    exact wp_pr (l' := [(0, rf 252), (1, iv x1), (2, iv x2), (3, iv (x3 + 1))]) rfl h
  · replace h := h.2 c5
    refine i_iload_n (x := x2) r_202_27 (n_202_27 _) rfl ?_
    obtain ⟨g6, h⟩ := h
    refine i_if (t := 51) r_202_28 (n_202_28 _) rfl (T_ne g6 ⟨by omega, by omega⟩) (fun c7 => ?_) (fun c7 => ?_)
    · replace h := h.1 c7
      refine i_iconst r_202_51 (n_202_51 _) ?_
      refine i_goto (t := 56) r_202_52 (n_202_52 _) rfl ?_
      refine i_istore_n (l' := [(0, rf 252), (1, iv x1), (2, iv 1), (3, iv x3), (4, iv x4)]) r_202_56 (n_202_56 _) (by decide) rfl ?_
      refine i_iinc (x := x4) (l' := [(0, rf 252), (1, iv x1), (2, iv 1), (3, iv x3), (4, iv (x4 + 1))]) r_202_57 (n_202_57 _) (by decide) rfl rfl ?_
      refine i_goto (t := 17) r_202_60 (n_202_60 _) rfl ?_
      exact wp_pr (l' := [(0, rf 252), (1, iv x1), (2, iv 1), (3, iv x3), (4, iv (x4 + 1))]) rfl h
    · replace h := h.2 c7
      refine i_aload_n (a := 252) r_202_31 (n_202_31 _) rfl ?_
      refine i_getR (a := 252) (b := 253) r_202_32 (n_202_32 _) rfl rfl rfl (by omega) lf_252 (by omega) ?_
      refine i_iload_n (x := x3) r_202_35 (n_202_35 _) rfl ?_
      refine i_iload (x := x4) r_202_36 (n_202_36 _) rfl ?_
      refine wp_stat (rest := [rf 253]) (Ls := [(0, iv x3), (1, iv x4)]) r_202_38 (n_202_38 _) rfl ⟨rfl, by decide, by decide, by decide⟩ rfl rfl ⟨rfl, Nat.le_of_ble_eq_true rfl, Nat.le_of_ble_eq_true rfl⟩ rfl K_Model_field ?_
      rintro _ _ ⟨rfl, rfl⟩
      refine .inl ⟨some (iv (((1 + (26 * x3)) + 2) + (3 * x4))), rfl, ?_⟩
      show wp S 202 41 [(0, rf 252), (1, iv x1), (2, iv x2), (3, iv x3), (4, iv x4)] [iv (((1 + (26 * x3)) + 2) + (3 * x4)), rf 253] s Q
      refine i_iconst r_202_41 (n_202_41 _) ?_
      refine i_iadd r_202_42 (n_202_42 _) ?_
      obtain ⟨g9, h⟩ := h
      refine i_iaload (a := 253) (j := (((1 + (26 * x3)) + 2) + (3 * x4)) + 1) r_202_43 (n_202_43 _) lf_253 ⟨by omega, by omega⟩ (by omega) (by omega) (fun q10 => ?_)
      refine i_bipush r_202_44 (n_202_44 _) rfl ?_
      refine i_iload_n (x := x1) r_202_46 (n_202_46 _) rfl ?_
      refine i_iadd r_202_47 (n_202_47 _) ?_
      obtain ⟨g11, h⟩ := h
      refine i_icmp (t := 55) r_202_48 (n_202_48 _) rfl (T_ne q10 g11) (fun c12 => ?_) (fun c12 => ?_)
      · replace h := h.1 c12
        refine i_iconst r_202_55 (n_202_55 _) ?_
        refine i_istore_n (l' := [(0, rf 252), (1, iv x1), (2, iv 0), (3, iv x3), (4, iv x4)]) r_202_56 (n_202_56 _) (by decide) rfl ?_
        refine i_iinc (x := x4) (l' := [(0, rf 252), (1, iv x1), (2, iv 0), (3, iv x3), (4, iv (x4 + 1))]) r_202_57 (n_202_57 _) (by decide) rfl rfl ?_
        refine i_goto (t := 17) r_202_60 (n_202_60 _) rfl ?_
        exact wp_pr (l' := [(0, rf 252), (1, iv x1), (2, iv 0), (3, iv x3), (4, iv (x4 + 1))]) rfl h
      · replace h := h.2 c12
        refine i_iconst r_202_51 (n_202_51 _) ?_
        refine i_goto (t := 56) r_202_52 (n_202_52 _) rfl ?_
        refine i_istore_n (l' := [(0, rf 252), (1, iv x1), (2, iv 1), (3, iv x3), (4, iv x4)]) r_202_56 (n_202_56 _) (by decide) rfl ?_
        refine i_iinc (x := x4) (l' := [(0, rf 252), (1, iv x1), (2, iv 1), (3, iv x3), (4, iv (x4 + 1))]) r_202_57 (n_202_57 _) (by decide) rfl rfl ?_
        refine i_goto (t := 17) r_202_60 (n_202_60 _) rfl ?_
        exact wp_pr (l' := [(0, rf 252), (1, iv x1), (2, iv 1), (3, iv x3), (4, iv (x4 + 1))]) rfl h
theorem v_Model_isUsed_71 {S : Option (Nat × (Nat → Int32))} {s : zSt} {Q : Option Value ⊕ Nat → zSt → Prop} {x1 : Int} {x2 : Int} {x3 : Int} 
    (h : rng x3 ∧ ((3 ≤ x3 → (x2 = 0 ∨ x2 = 1) ∧ (Q (rI x2) s)) ∧ (x3 < 3 → rng x2 ∧ ((x2 ≠ 0 → wp S 202 71 [(0, rf 252), (1, iv x1), (2, iv 1), (3, iv (x3 + 1))] [] s Q) ∧ (x2 = 0 → (0 ≤ (157 + (6 * x3)) ∧ (157 + (6 * x3)) < 1199) ∧ (rng x1 ∧ (((zI s 253 (157 + (6 * x3))) ≠ x1 → wp S 202 71 [(0, rf 252), (1, iv x1), (2, iv 0), (3, iv (x3 + 1))] [] s Q) ∧ ((zI s 253 (157 + (6 * x3))) = x1 → wp S 202 71 [(0, rf 252), (1, iv x1), (2, iv 1), (3, iv (x3 + 1))] [] s Q)))))))) :
    wp S 202 71 [(0, rf 252), (1, iv x1), (2, iv x2), (3, iv x3)] [] s Q := by
  refine i_iload_n (x := x3) r_202_71 rfl rfl ?_
  refine i_iconst r_202_72 (n_202_72 _) ?_
  obtain ⟨g1, h⟩ := h
  refine i_icmp (t := 109) r_202_73 (n_202_73 _) rfl (T_ge g1 ⟨by omega, by omega⟩) (fun c2 => ?_) (fun c2 => ?_)
  · replace h := h.1 c2
    refine i_iload_n (x := x2) r_202_109 (n_202_109 _) rfl ?_
    obtain ⟨g3, h⟩ := h
    exact i_zreturn r_202_110 (n_202_110 _) rfl g3 h
  · replace h := h.2 c2
    refine i_iload_n (x := x2) r_202_76 (n_202_76 _) rfl ?_
    obtain ⟨g4, h⟩ := h
    refine i_if (t := 97) r_202_77 (n_202_77 _) rfl (T_ne g4 ⟨by omega, by omega⟩) (fun c5 => ?_) (fun c5 => ?_)
    · replace h := h.1 c5
      refine i_iconst r_202_97 (n_202_97 _) ?_
      refine i_goto (t := 102) r_202_98 (n_202_98 _) rfl ?_
      refine i_istore_n (l' := [(0, rf 252), (1, iv x1), (2, iv 1), (3, iv x3)]) r_202_102 (n_202_102 _) (by decide) rfl ?_
      refine i_iinc (x := x3) (l' := [(0, rf 252), (1, iv x1), (2, iv 1), (3, iv (x3 + 1))]) r_202_103 (n_202_103 _) (by decide) rfl rfl ?_
      refine i_goto (t := 71) r_202_106 (n_202_106 _) rfl ?_
      exact wp_pr (l' := [(0, rf 252), (1, iv x1), (2, iv 1), (3, iv (x3 + 1))]) rfl h
    · replace h := h.2 c5
      refine i_aload_n (a := 252) r_202_80 (n_202_80 _) rfl ?_
      refine i_getR (a := 252) (b := 253) r_202_81 (n_202_81 _) rfl rfl rfl (by omega) lf_252 (by omega) ?_
      refine i_sipush r_202_84 (n_202_84 _) rfl ?_
      refine i_bipush r_202_87 (n_202_87 _) rfl ?_
      refine i_iload_n (x := x3) r_202_89 (n_202_89 _) rfl ?_
      refine i_imul r_202_90 (n_202_90 _) ?_
      refine i_iadd r_202_91 (n_202_91 _) ?_
      obtain ⟨g6, h⟩ := h
      refine i_iaload (a := 253) (j := 157 + (6 * x3)) r_202_92 (n_202_92 _) lf_253 ⟨by omega, by omega⟩ (by omega) (by omega) (fun q7 => ?_)
      refine i_iload_n (x := x1) r_202_93 (n_202_93 _) rfl ?_
      obtain ⟨g8, h⟩ := h
      refine i_icmp (t := 101) r_202_94 (n_202_94 _) rfl (T_ne q7 g8) (fun c9 => ?_) (fun c9 => ?_)
      · replace h := h.1 c9
        refine i_iconst r_202_101 (n_202_101 _) ?_
        refine i_istore_n (l' := [(0, rf 252), (1, iv x1), (2, iv 0), (3, iv x3)]) r_202_102 (n_202_102 _) (by decide) rfl ?_
        refine i_iinc (x := x3) (l' := [(0, rf 252), (1, iv x1), (2, iv 0), (3, iv (x3 + 1))]) r_202_103 (n_202_103 _) (by decide) rfl rfl ?_
        refine i_goto (t := 71) r_202_106 (n_202_106 _) rfl ?_
        exact wp_pr (l' := [(0, rf 252), (1, iv x1), (2, iv 0), (3, iv (x3 + 1))]) rfl h
      · replace h := h.2 c9
        refine i_iconst r_202_97 (n_202_97 _) ?_
        refine i_goto (t := 102) r_202_98 (n_202_98 _) rfl ?_
        refine i_istore_n (l' := [(0, rf 252), (1, iv x1), (2, iv 1), (3, iv x3)]) r_202_102 (n_202_102 _) (by decide) rfl ?_
        refine i_iinc (x := x3) (l' := [(0, rf 252), (1, iv x1), (2, iv 1), (3, iv (x3 + 1))]) r_202_103 (n_202_103 _) (by decide) rfl rfl ?_
        refine i_goto (t := 71) r_202_106 (n_202_106 _) rfl ?_
        exact wp_pr (l' := [(0, rf 252), (1, iv x1), (2, iv 1), (3, iv (x3 + 1))]) rfl h
theorem r_203_0 : xfetch 203 0 = some (.iload_n 1, 1) := by decide +kernel
theorem n_203_0 : ∀ l, xpr 203 0 l = l := xpr_no (by decide +kernel)
theorem r_203_1 : xfetch 203 1 = some (.aload_n 0, 1) := by decide +kernel
theorem n_203_1 : ∀ l, xpr 203 1 l = l := xpr_no (by decide +kernel)
theorem r_203_2 : xfetch 203 2 = some (.iload_n 1, 1) := by decide +kernel
theorem n_203_2 : ∀ l, xpr 203 2 l = l := xpr_no (by decide +kernel)
theorem r_203_3 : xfetch 203 3 = some (.invokevirtual 99, 3) := by decide +kernel
theorem n_203_3 : ∀ l, xpr 203 3 l = l := xpr_no (by decide +kernel)
theorem r_203_6 : xfetch 203 6 = some (.invokestatic 102, 3) := by decide +kernel
theorem n_203_6 : ∀ l, xpr 203 6 l = l := xpr_no (by decide +kernel)
theorem r_203_9 : xfetch 203 9 = some (.istore 5, 2) := by decide +kernel
theorem n_203_9 : ∀ l, xpr 203 9 l = l := xpr_no (by decide +kernel)
theorem r_203_11 : xfetch 203 11 = some (.aload_n 0, 1) := by decide +kernel
theorem n_203_11 : ∀ l, xpr 203 11 l = l := xpr_no (by decide +kernel)
theorem r_203_12 : xfetch 203 12 = some (.getfield 7, 3) := by decide +kernel
theorem n_203_12 : ∀ l, xpr 203 12 l = l := xpr_no (by decide +kernel)
theorem r_203_15 : xfetch 203 15 = some (.iload 5, 2) := by decide +kernel
theorem n_203_15 : ∀ l, xpr 203 15 l = l := xpr_no (by decide +kernel)
theorem r_203_17 : xfetch 203 17 = some (.iload_n 2, 1) := by decide +kernel
theorem n_203_17 : ∀ l, xpr 203 17 l = l := xpr_no (by decide +kernel)
theorem r_203_18 : xfetch 203 18 = some (.iastore, 1) := by decide +kernel
theorem n_203_18 : ∀ l, xpr 203 18 l = l := xpr_no (by decide +kernel)
theorem r_203_19 : xfetch 203 19 = some (.aload_n 0, 1) := by decide +kernel
theorem n_203_19 : ∀ l, xpr 203 19 l = l := xpr_no (by decide +kernel)
theorem r_203_20 : xfetch 203 20 = some (.getfield 7, 3) := by decide +kernel
theorem n_203_20 : ∀ l, xpr 203 20 l = l := xpr_no (by decide +kernel)
theorem r_203_23 : xfetch 203 23 = some (.iload 5, 2) := by decide +kernel
theorem n_203_23 : ∀ l, xpr 203 23 l = l := xpr_no (by decide +kernel)
theorem r_203_25 : xfetch 203 25 = some (.iconst 1, 1) := by decide +kernel
theorem n_203_25 : ∀ l, xpr 203 25 l = l := xpr_no (by decide +kernel)
theorem r_203_26 : xfetch 203 26 = some (.iadd, 1) := by decide +kernel
theorem n_203_26 : ∀ l, xpr 203 26 l = l := xpr_no (by decide +kernel)
theorem r_203_27 : xfetch 203 27 = some (.iload_n 3, 1) := by decide +kernel
theorem n_203_27 : ∀ l, xpr 203 27 l = l := xpr_no (by decide +kernel)
theorem r_203_28 : xfetch 203 28 = some (.iastore, 1) := by decide +kernel
theorem n_203_28 : ∀ l, xpr 203 28 l = l := xpr_no (by decide +kernel)
theorem r_203_29 : xfetch 203 29 = some (.aload_n 0, 1) := by decide +kernel
theorem n_203_29 : ∀ l, xpr 203 29 l = l := xpr_no (by decide +kernel)
theorem r_203_30 : xfetch 203 30 = some (.getfield 7, 3) := by decide +kernel
theorem n_203_30 : ∀ l, xpr 203 30 l = l := xpr_no (by decide +kernel)
theorem r_203_33 : xfetch 203 33 = some (.iload 5, 2) := by decide +kernel
theorem n_203_33 : ∀ l, xpr 203 33 l = l := xpr_no (by decide +kernel)
theorem r_203_35 : xfetch 203 35 = some (.iconst 2, 1) := by decide +kernel
theorem n_203_35 : ∀ l, xpr 203 35 l = l := xpr_no (by decide +kernel)
theorem r_203_36 : xfetch 203 36 = some (.iadd, 1) := by decide +kernel
theorem n_203_36 : ∀ l, xpr 203 36 l = l := xpr_no (by decide +kernel)
theorem r_203_37 : xfetch 203 37 = some (.iload 4, 2) := by decide +kernel
theorem n_203_37 : ∀ l, xpr 203 37 l = l := xpr_no (by decide +kernel)
theorem r_203_39 : xfetch 203 39 = some (.iastore, 1) := by decide +kernel
theorem n_203_39 : ∀ l, xpr 203 39 l = l := xpr_no (by decide +kernel)
theorem r_203_40 : xfetch 203 40 = some (.aload_n 0, 1) := by decide +kernel
theorem n_203_40 : ∀ l, xpr 203 40 l = l := xpr_no (by decide +kernel)
theorem r_203_41 : xfetch 203 41 = some (.getfield 7, 3) := by decide +kernel
theorem n_203_41 : ∀ l, xpr 203 41 l = l := xpr_no (by decide +kernel)
theorem r_203_44 : xfetch 203 44 = some (.iload_n 1, 1) := by decide +kernel
theorem n_203_44 : ∀ l, xpr 203 44 l = l := xpr_no (by decide +kernel)
theorem r_203_45 : xfetch 203 45 = some (.invokestatic 92, 3) := by decide +kernel
theorem n_203_45 : ∀ l, xpr 203 45 l = l := xpr_no (by decide +kernel)
theorem r_203_48 : xfetch 203 48 = some (.iconst 1, 1) := by decide +kernel
theorem n_203_48 : ∀ l, xpr 203 48 l = l := xpr_no (by decide +kernel)
theorem r_203_49 : xfetch 203 49 = some (.iadd, 1) := by decide +kernel
theorem n_203_49 : ∀ l, xpr 203 49 l = l := xpr_no (by decide +kernel)
theorem r_203_50 : xfetch 203 50 = some (.dup2, 1) := by decide +kernel
theorem n_203_50 : ∀ l, xpr 203 50 l = l := xpr_no (by decide +kernel)
theorem r_203_51 : xfetch 203 51 = some (.iaload, 1) := by decide +kernel
theorem n_203_51 : ∀ l, xpr 203 51 l = l := xpr_no (by decide +kernel)
theorem r_203_52 : xfetch 203 52 = some (.iconst 1, 1) := by decide +kernel
theorem n_203_52 : ∀ l, xpr 203 52 l = l := xpr_no (by decide +kernel)
theorem r_203_53 : xfetch 203 53 = some (.iadd, 1) := by decide +kernel
theorem n_203_53 : ∀ l, xpr 203 53 l = l := xpr_no (by decide +kernel)
theorem r_203_54 : xfetch 203 54 = some (.iastore, 1) := by decide +kernel
theorem n_203_54 : ∀ l, xpr 203 54 l = l := xpr_no (by decide +kernel)
theorem r_203_55 : xfetch 203 55 = some (.return_, 1) := by decide +kernel
theorem n_203_55 : ∀ l, xpr 203 55 l = l := xpr_no (by decide +kernel)
theorem v_Model_appends_0 {S : Option (Nat × (Nat → Int32))} {s : zSt} {Q : Option Value ⊕ Nat → zSt → Prop} {x1 : Int} {x2 : Int} {x3 : Int} {x4 : Int} 
    (h : (0 ≤ ((1 + (26 * x1)) + 1) ∧ ((1 + (26 * x1)) + 1) < 1199) ∧ ((0 ≤ (((1 + (26 * x1)) + 2) + (3 * (zI s 253 ((1 + (26 * x1)) + 1)))) ∧ (((1 + (26 * x1)) + 2) + (3 * (zI s 253 ((1 + (26 * x1)) + 1)))) < 1199) ∧ (rng x2 ∧ ((0 ≤ ((((1 + (26 * x1)) + 2) + (3 * (zI s 253 ((1 + (26 * x1)) + 1)))) + 1) ∧ ((((1 + (26 * x1)) + 2) + (3 * (zI s 253 ((1 + (26 * x1)) + 1)))) + 1) < 1199) ∧ (rng x3 ∧ ((0 ≤ ((((1 + (26 * x1)) + 2) + (3 * (zI s 253 ((1 + (26 * x1)) + 1)))) + 2) ∧ ((((1 + (26 * x1)) + 2) + (3 * (zI s 253 ((1 + (26 * x1)) + 1)))) + 2) < 1199) ∧ (rng x4 ∧ (rng ((zI (zwI (zwI (zwI s 253 (((1 + (26 * x1)) + 2) + (3 * (zI s 253 ((1 + (26 * x1)) + 1)))) x2) 253 ((((1 + (26 * x1)) + 2) + (3 * (zI s 253 ((1 + (26 * x1)) + 1)))) + 1) x3) 253 ((((1 + (26 * x1)) + 2) + (3 * (zI s 253 ((1 + (26 * x1)) + 1)))) + 2) x4) 253 ((1 + (26 * x1)) + 1)) + 1) ∧ (Q rU (zwI (zwI (zwI (zwI s 253 (((1 + (26 * x1)) + 2) + (3 * (zI s 253 ((1 + (26 * x1)) + 1)))) x2) 253 ((((1 + (26 * x1)) + 2) + (3 * (zI s 253 ((1 + (26 * x1)) + 1)))) + 1) x3) 253 ((((1 + (26 * x1)) + 2) + (3 * (zI s 253 ((1 + (26 * x1)) + 1)))) + 2) x4) 253 ((1 + (26 * x1)) + 1) ((zI (zwI (zwI (zwI s 253 (((1 + (26 * x1)) + 2) + (3 * (zI s 253 ((1 + (26 * x1)) + 1)))) x2) 253 ((((1 + (26 * x1)) + 2) + (3 * (zI s 253 ((1 + (26 * x1)) + 1)))) + 1) x3) 253 ((((1 + (26 * x1)) + 2) + (3 * (zI s 253 ((1 + (26 * x1)) + 1)))) + 2) x4) 253 ((1 + (26 * x1)) + 1)) + 1))))))))))) :
    wp S 203 0 [(0, rf 252), (1, iv x1), (2, iv x2), (3, iv x3), (4, iv x4)] [] s Q := by
  refine i_iload_n (x := x1) r_203_0 (n_203_0 _) rfl ?_
  refine i_aload_n (a := 252) r_203_1 (n_203_1 _) rfl ?_
  refine i_iload_n (x := x1) r_203_2 (n_203_2 _) rfl ?_
  obtain ⟨g1, h⟩ := h
  refine wp_virt (b := 252) (rest := [iv x1]) (Ls := [(0, rf 252), (1, iv x1)]) r_203_3 (n_203_3 _) rfl ⟨rfl, rfl, by decide, by decide⟩ rfl rfl lf_252 ⟨rfl, Nat.le_of_ble_eq_true rfl, Nat.le_of_ble_eq_true rfl⟩ rfl (K_Model_fieldsOf g1) ?_
  rintro _ _ ⟨rfl, rfl⟩
  refine .inl ⟨some (iv (zI s 253 ((1 + (26 * x1)) + 1))), rfl, ?_⟩
  show wp S 203 6 [(0, rf 252), (1, iv x1), (2, iv x2), (3, iv x3), (4, iv x4)] [iv (zI s 253 ((1 + (26 * x1)) + 1)), iv x1] s Q
  refine wp_rd (a := 253) (j := ((1 + (26 * x1)) + 1)) (fun q3 => ?_)
  refine wp_stat (rest := []) (Ls := [(0, iv x1), (1, iv (zI s 253 ((1 + (26 * x1)) + 1)))]) r_203_6 (n_203_6 _) rfl ⟨rfl, by decide, by decide, by decide⟩ rfl rfl ⟨rfl, Nat.le_of_ble_eq_true rfl, Nat.le_of_ble_eq_true rfl⟩ rfl K_Model_field ?_
  rintro _ _ ⟨rfl, rfl⟩
  refine .inl ⟨some (iv (((1 + (26 * x1)) + 2) + (3 * (zI s 253 ((1 + (26 * x1)) + 1))))), rfl, ?_⟩
  show wp S 203 9 [(0, rf 252), (1, iv x1), (2, iv x2), (3, iv x3), (4, iv x4)] [iv (((1 + (26 * x1)) + 2) + (3 * (zI s 253 ((1 + (26 * x1)) + 1))))] s Q
  refine i_istore (l' := [(0, rf 252), (1, iv x1), (2, iv x2), (3, iv x3), (4, iv x4), (5, iv (((1 + (26 * x1)) + 2) + (3 * (zI s 253 ((1 + (26 * x1)) + 1)))))]) r_203_9 (n_203_9 _) (by decide) rfl ?_
  refine i_aload_n (a := 252) r_203_11 (n_203_11 _) rfl ?_
  refine i_getR (a := 252) (b := 253) r_203_12 (n_203_12 _) rfl rfl rfl (by omega) lf_252 (by omega) ?_
  refine i_iload (x := ((1 + (26 * x1)) + 2) + (3 * (zI s 253 ((1 + (26 * x1)) + 1)))) r_203_15 (n_203_15 _) rfl ?_
  refine i_iload_n (x := x2) r_203_17 (n_203_17 _) rfl ?_
  obtain ⟨g5, h⟩ := h
  obtain ⟨g6, h⟩ := h
  refine i_iastore (a := 253) (j := ((1 + (26 * x1)) + 2) + (3 * (zI s 253 ((1 + (26 * x1)) + 1)))) (x := x2) r_203_18 (n_203_18 _) lf_253 ⟨by omega, by omega⟩ (by omega) (by omega) g6 ?_
  refine i_aload_n (a := 252) r_203_19 (n_203_19 _) rfl ?_
  refine i_getR (a := 252) (b := 253) r_203_20 (n_203_20 _) rfl rfl rfl (by omega) lf_252 (by omega) ?_
  refine i_iload (x := ((1 + (26 * x1)) + 2) + (3 * (zI s 253 ((1 + (26 * x1)) + 1)))) r_203_23 (n_203_23 _) rfl ?_
  refine i_iconst r_203_25 (n_203_25 _) ?_
  refine i_iadd r_203_26 (n_203_26 _) ?_
  refine i_iload_n (x := x3) r_203_27 (n_203_27 _) rfl ?_
  obtain ⟨g7, h⟩ := h
  obtain ⟨g8, h⟩ := h
  refine i_iastore (a := 253) (j := (((1 + (26 * x1)) + 2) + (3 * (zI s 253 ((1 + (26 * x1)) + 1)))) + 1) (x := x3) r_203_28 (n_203_28 _) lf_253 ⟨by omega, by omega⟩ (by omega) (by omega) g8 ?_
  refine i_aload_n (a := 252) r_203_29 (n_203_29 _) rfl ?_
  refine i_getR (a := 252) (b := 253) r_203_30 (n_203_30 _) rfl rfl rfl (by omega) lf_252 (by omega) ?_
  refine i_iload (x := ((1 + (26 * x1)) + 2) + (3 * (zI s 253 ((1 + (26 * x1)) + 1)))) r_203_33 (n_203_33 _) rfl ?_
  refine i_iconst r_203_35 (n_203_35 _) ?_
  refine i_iadd r_203_36 (n_203_36 _) ?_
  refine i_iload (x := x4) r_203_37 (n_203_37 _) rfl ?_
  obtain ⟨g9, h⟩ := h
  obtain ⟨g10, h⟩ := h
  refine i_iastore (a := 253) (j := (((1 + (26 * x1)) + 2) + (3 * (zI s 253 ((1 + (26 * x1)) + 1)))) + 2) (x := x4) r_203_39 (n_203_39 _) lf_253 ⟨by omega, by omega⟩ (by omega) (by omega) g10 ?_
  refine i_aload_n (a := 252) r_203_40 (n_203_40 _) rfl ?_
  refine i_getR (a := 252) (b := 253) r_203_41 (n_203_41 _) rfl rfl rfl (by omega) lf_252 (by omega) ?_
  refine i_iload_n (x := x1) r_203_44 (n_203_44 _) rfl ?_
  refine wp_stat (rest := [rf 253]) (Ls := [(0, iv x1)]) r_203_45 (n_203_45 _) rfl ⟨rfl, by decide, by decide, by decide⟩ rfl rfl ⟨rfl, Nat.le_of_ble_eq_true rfl, Nat.le_of_ble_eq_true rfl⟩ rfl K_Model_record ?_
  rintro _ _ ⟨rfl, rfl⟩
  refine .inl ⟨some (iv (1 + (26 * x1))), rfl, ?_⟩
  show wp S 203 48 [(0, rf 252), (1, iv x1), (2, iv x2), (3, iv x3), (4, iv x4), (5, iv (((1 + (26 * x1)) + 2) + (3 * (zI s 253 ((1 + (26 * x1)) + 1)))))] [iv (1 + (26 * x1)), rf 253] (zwI (zwI (zwI s 253 (((1 + (26 * x1)) + 2) + (3 * (zI s 253 ((1 + (26 * x1)) + 1)))) x2) 253 ((((1 + (26 * x1)) + 2) + (3 * (zI s 253 ((1 + (26 * x1)) + 1)))) + 1) x3) 253 ((((1 + (26 * x1)) + 2) + (3 * (zI s 253 ((1 + (26 * x1)) + 1)))) + 2) x4) Q
  refine i_iconst r_203_48 (n_203_48 _) ?_
  refine i_iadd r_203_49 (n_203_49 _) ?_
  refine i_dup2 r_203_50 (n_203_50 _) rfl rfl ?_
  refine i_iaload (a := 253) (j := (1 + (26 * x1)) + 1) r_203_51 (n_203_51 _) lf_253 ⟨by omega, by omega⟩ (by omega) (by omega) (fun q12 => ?_)
  refine i_iconst r_203_52 (n_203_52 _) ?_
  refine i_iadd r_203_53 (n_203_53 _) ?_
  obtain ⟨g13, h⟩ := h
  refine i_iastore (a := 253) (j := (1 + (26 * x1)) + 1) (x := (zI (zwI (zwI (zwI s 253 (((1 + (26 * x1)) + 2) + (3 * (zI s 253 ((1 + (26 * x1)) + 1)))) x2) 253 ((((1 + (26 * x1)) + 2) + (3 * (zI s 253 ((1 + (26 * x1)) + 1)))) + 1) x3) 253 ((((1 + (26 * x1)) + 2) + (3 * (zI s 253 ((1 + (26 * x1)) + 1)))) + 2) x4) 253 ((1 + (26 * x1)) + 1)) + 1) r_203_54 (n_203_54 _) lf_253 ⟨by omega, by omega⟩ (by omega) (by omega) g13 ?_
  exact i_return r_203_55 (n_203_55 _) rfl h
theorem r_204_0 : xfetch 204 0 = some (.aload_n 0, 1) := by decide +kernel
theorem n_204_0 : ∀ l, xpr 204 0 l = l := xpr_no (by decide +kernel)
theorem r_204_1 : xfetch 204 1 = some (.iconst 0, 1) := by decide +kernel
theorem n_204_1 : ∀ l, xpr 204 1 l = l := xpr_no (by decide +kernel)
theorem r_204_2 : xfetch 204 2 = some (.putfield 77, 3) := by decide +kernel
theorem n_204_2 : ∀ l, xpr 204 2 l = l := xpr_no (by decide +kernel)
theorem r_204_5 : xfetch 204 5 = some (.aload_n 0, 1) := by decide +kernel
theorem n_204_5 : ∀ l, xpr 204 5 l = l := xpr_no (by decide +kernel)
theorem r_204_6 : xfetch 204 6 = some (.getfield 7, 3) := by decide +kernel
theorem n_204_6 : ∀ l, xpr 204 6 l = l := xpr_no (by decide +kernel)
theorem r_204_9 : xfetch 204 9 = some (.iconst 0, 1) := by decide +kernel
theorem n_204_9 : ∀ l, xpr 204 9 l = l := xpr_no (by decide +kernel)
theorem r_204_10 : xfetch 204 10 = some (.iaload, 1) := by decide +kernel
theorem n_204_10 : ∀ l, xpr 204 10 l = l := xpr_no (by decide +kernel)
theorem r_204_11 : xfetch 204 11 = some (.ireturn, 1) := by decide +kernel
theorem n_204_11 : ∀ l, xpr 204 11 l = l := xpr_no (by decide +kernel)
theorem v_Model_records_0 {S : Option (Nat × (Nat → Int32))} {s : zSt} {Q : Option Value ⊕ Nat → zSt → Prop}  
    (h : Q (rI (zI s 253 0)) (zwI s 252 3 0)) :
    wp S 204 0 [(0, rf 252)] [] s Q := by
  refine i_aload_n (a := 252) r_204_0 (n_204_0 _) rfl ?_
  refine i_iconst r_204_1 (n_204_1 _) ?_
  refine i_putI (a := 252) (x := 0) r_204_2 (n_204_2 _) rfl (.inl rfl) rfl lf_252 ⟨by omega, by omega⟩ ?_
  refine i_aload_n (a := 252) r_204_5 (n_204_5 _) rfl ?_
  refine i_getR (a := 252) (b := 253) r_204_6 (n_204_6 _) rfl rfl rfl (by omega) lf_252 (by omega) ?_
  refine i_iconst r_204_9 (n_204_9 _) ?_
  have e2 : zI (zwI s 252 3 0) 253 0 = zI s 253 0 := zI_ne (by omega)
  refine i_ialoade (a := 253) (j := 0) (x := zI s 253 0) r_204_10 (n_204_10 _) lf_253 ⟨by omega, by omega⟩ (by omega) (by omega) e2 (fun q1 => ?_)
  exact i_ireturn r_204_11 (n_204_11 _) rfl h
theorem r_205_0 : xfetch 205 0 = some (.aload_n 0, 1) := by decide +kernel
theorem n_205_0 : ∀ l, xpr 205 0 l = l := xpr_no (by decide +kernel)
theorem r_205_1 : xfetch 205 1 = some (.aload_n 0, 1) := by decide +kernel
theorem n_205_1 : ∀ l, xpr 205 1 l = l := xpr_no (by decide +kernel)
theorem r_205_2 : xfetch 205 2 = some (.iload_n 1, 1) := by decide +kernel
theorem n_205_2 : ∀ l, xpr 205 2 l = l := xpr_no (by decide +kernel)
theorem r_205_3 : xfetch 205 3 = some (.invokevirtual 142, 3) := by decide +kernel
theorem n_205_3 : ∀ l, xpr 205 3 l = l := xpr_no (by decide +kernel)
theorem r_205_6 : xfetch 205 6 = some (.ifCond .ne 7, 3) := by decide +kernel
theorem n_205_6 : ∀ l, xpr 205 6 l = l := xpr_no (by decide +kernel)
theorem r_205_9 : xfetch 205 9 = some (.iconst 1, 1) := by decide +kernel
theorem n_205_9 : ∀ l, xpr 205 9 l = l := xpr_no (by decide +kernel)
theorem r_205_10 : xfetch 205 10 = some (.goto 18, 3) := by decide +kernel
theorem n_205_10 : ∀ l, xpr 205 10 l = l := xpr_no (by decide +kernel)
theorem r_205_13 : xfetch 205 13 = some (.iload_n 2, 1) := by decide +kernel
theorem n_205_13 : ∀ l, xpr 205 13 l = l := xpr_no (by decide +kernel)
theorem r_205_14 : xfetch 205 14 = some (.iconst 0, 1) := by decide +kernel
theorem n_205_14 : ∀ l, xpr 205 14 l = l := xpr_no (by decide +kernel)
theorem r_205_15 : xfetch 205 15 = some (.bipush 6, 2) := by decide +kernel
theorem n_205_15 : ∀ l, xpr 205 15 l = l := xpr_no (by decide +kernel)
theorem r_205_17 : xfetch 205 17 = some (.invokestatic 88, 3) := by decide +kernel
theorem n_205_17 : ∀ l, xpr 205 17 l = l := xpr_no (by decide +kernel)
theorem r_205_20 : xfetch 205 20 = some (.ifCond .ne 7, 3) := by decide +kernel
theorem n_205_20 : ∀ l, xpr 205 20 l = l := xpr_no (by decide +kernel)
theorem r_205_23 : xfetch 205 23 = some (.iconst 2, 1) := by decide +kernel
theorem n_205_23 : ∀ l, xpr 205 23 l = l := xpr_no (by decide +kernel)
theorem r_205_24 : xfetch 205 24 = some (.goto 4, 3) := by decide +kernel
theorem n_205_24 : ∀ l, xpr 205 24 l = l := xpr_no (by decide +kernel)
theorem r_205_27 : xfetch 205 27 = some (.iconst 0, 1) := by decide +kernel
theorem n_205_27 : ∀ l, xpr 205 27 l = l := xpr_no (by decide +kernel)
theorem r_205_28 : xfetch 205 28 = some (.invokevirtual 84, 3) := by decide +kernel
theorem n_205_28 : ∀ l, xpr 205 28 l = l := xpr_no (by decide +kernel)
theorem r_205_31 : xfetch 205 31 = some (.ifCond .eq 5, 3) := by decide +kernel
theorem n_205_31 : ∀ l, xpr 205 31 l = l := xpr_no (by decide +kernel)
theorem r_205_34 : xfetch 205 34 = some (.iconst 0, 1) := by decide +kernel
theorem n_205_34 : ∀ l, xpr 205 34 l = l := xpr_no (by decide +kernel)
theorem r_205_35 : xfetch 205 35 = some (.ireturn, 1) := by decide +kernel
theorem n_205_35 : ∀ l, xpr 205 35 l = l := xpr_no (by decide +kernel)
theorem r_205_36 : xfetch 205 36 = some (.aload_n 0, 1) := by decide +kernel
theorem n_205_36 : ∀ l, xpr 205 36 l = l := xpr_no (by decide +kernel)
theorem r_205_37 : xfetch 205 37 = some (.invokevirtual 152, 3) := by decide +kernel
theorem n_205_37 : ∀ l, xpr 205 37 l = l := xpr_no (by decide +kernel)
theorem r_205_40 : xfetch 205 40 = some (.aload_n 0, 1) := by decide +kernel
theorem n_205_40 : ∀ l, xpr 205 40 l = l := xpr_no (by decide +kernel)
theorem r_205_41 : xfetch 205 41 = some (.iload_n 1, 1) := by decide +kernel
theorem n_205_41 : ∀ l, xpr 205 41 l = l := xpr_no (by decide +kernel)
theorem r_205_42 : xfetch 205 42 = some (.iload_n 2, 1) := by decide +kernel
theorem n_205_42 : ∀ l, xpr 205 42 l = l := xpr_no (by decide +kernel)
theorem r_205_43 : xfetch 205 43 = some (.invokevirtual 165, 3) := by decide +kernel
theorem n_205_43 : ∀ l, xpr 205 43 l = l := xpr_no (by decide +kernel)
theorem r_205_46 : xfetch 205 46 = some (.ireturn, 1) := by decide +kernel
theorem n_205_46 : ∀ l, xpr 205 46 l = l := xpr_no (by decide +kernel)
theorem v_Model_recordInfo_0 {S : Option (Nat × (Nat → Int32))} {s : zSt} {Q : Option Value ⊕ Nat → zSt → Prop} {x1 : Int} {x2 : Int} 
    (h : rng x1 ∧ (rng ((zI s 253 0) - 1) ∧ ((0 ≤ x1 ∧ x1 ≤ ((zI s 253 0) - 1) → rng x2 ∧ ((0 ≤ x2 ∧ x2 ≤ 6 → wp S 193 0 [(0, rf 252)] [] (zwI s 252 3 0) (fun o9 s9 => zkU (wp S 206 0 [(0, rf 252), (1, iv x1), (2, iv x2)] [] s9 (fun o11 s11 => zkI (fun y11 => Q (rI y11) s11) (fun e11 => False) o11)) (fun e9 => False) o9)) ∧ (¬ (0 ≤ x2 ∧ x2 ≤ 6) → Q (rI 0) (zwI s 252 3 2)))) ∧ (¬ (0 ≤ x1 ∧ x1 ≤ ((zI s 253 0) - 1)) → Q (rI 0) (zwI s 252 3 1))))) :
    wp S 205 0 [(0, rf 252), (1, iv x1), (2, iv x2)] [] s Q := by
  refine i_aload_n (a := 252) r_205_0 (n_205_0 _) rfl ?_
  refine i_aload_n (a := 252) r_205_1 (n_205_1 _) rfl ?_
  refine i_iload_n (x := x1) r_205_2 (n_205_2 _) rfl ?_
  obtain ⟨g1, h⟩ := h
  obtain ⟨g2, h⟩ := h
  refine wp_virt (b := 252) (rest := [rf 252]) (Ls := [(0, rf 252), (1, iv x1)]) r_205_3 (n_205_3 _) rfl ⟨rfl, rfl, by decide, by decide⟩ rfl rfl lf_252 ⟨rfl, Nat.le_of_ble_eq_true rfl, Nat.le_of_ble_eq_true rfl⟩ rfl (K_Model_isRecord g1 g2) ?_
  rintro _ _ ⟨rfl, rfl⟩
  refine .inl ⟨some (iv (bi (0 ≤ x1 ∧ x1 ≤ ((zI s 253 0) - 1)))), rfl, ?_⟩
  show wp S 205 6 [(0, rf 252), (1, iv x1), (2, iv x2)] [iv (bi (0 ≤ x1 ∧ x1 ≤ ((zI s 253 0) - 1))), rf 252] s Q
  refine i_if (t := 13) r_205_6 (n_205_6 _) rfl (TB_ne) (fun c4 => ?_) (fun c4 => ?_)
  · replace h := h.1 c4
    refine i_iload_n (x := x2) r_205_13 (n_205_13 _) rfl ?_
    refine i_iconst r_205_14 (n_205_14 _) ?_
    refine i_bipush r_205_15 (n_205_15 _) rfl ?_
    obtain ⟨g5, h⟩ := h
    refine wp_stat (rest := [rf 252]) (Ls := [(0, iv x2), (1, iv 0), (2, iv 6)]) r_205_17 (n_205_17 _) rfl ⟨rfl, by decide, by decide, by decide⟩ rfl rfl ⟨rfl, Nat.le_of_ble_eq_true rfl, Nat.le_of_ble_eq_true rfl⟩ rfl (K_Model_within g5 ⟨by omega, by omega⟩ ⟨by omega, by omega⟩) ?_
    rintro _ _ ⟨rfl, rfl⟩
    refine .inl ⟨some (iv (bi (0 ≤ x2 ∧ x2 ≤ 6))), rfl, ?_⟩
    show wp S 205 20 [(0, rf 252), (1, iv x1), (2, iv x2)] [iv (bi (0 ≤ x2 ∧ x2 ≤ 6)), rf 252] s Q
    refine i_if (t := 27) r_205_20 (n_205_20 _) rfl (TB_ne) (fun c7 => ?_) (fun c7 => ?_)
    · replace h := h.1 c7
      refine i_iconst r_205_27 (n_205_27 _) ?_
      refine wp_virt (b := 252) (rest := []) (Ls := [(0, rf 252), (1, iv 0)]) r_205_28 (n_205_28 _) rfl ⟨rfl, rfl, by decide, by decide⟩ rfl rfl lf_252 ⟨rfl, Nat.le_of_ble_eq_true rfl, Nat.le_of_ble_eq_true rfl⟩ rfl K_Model_refused0 ?_
      rintro _ _ ⟨rfl, rfl⟩
      refine .inl ⟨some (iv 0), rfl, ?_⟩
      show wp S 205 31 [(0, rf 252), (1, iv x1), (2, iv x2)] [iv 0] (zwI s 252 3 0) Q
      refine i_if (t := 36) r_205_31 (n_205_31 _) rfl (T_eq ⟨by omega, by omega⟩ ⟨by omega, by omega⟩) (fun _ => ?_) (fun z => absurd z (by omega))
      refine i_aload_n (a := 252) r_205_36 (n_205_36 _) rfl ?_
      refine wp_virt (b := 252) (rest := []) (Ls := [(0, rf 252)]) r_205_37 (n_205_37 _) rfl ⟨rfl, rfl, by decide, by decide⟩ rfl rfl lf_252 ⟨rfl, Nat.le_of_ble_eq_true rfl, Nat.le_of_ble_eq_true rfl⟩ rfl h ?_
      intro o9 s9 h
      rcases h with ⟨rfl, h⟩ | ⟨e9, rfl, h⟩
      · refine .inl ⟨none, rfl, ?_⟩
        refine i_aload_n (a := 252) r_205_40 (n_205_40 _) rfl ?_
        refine i_iload_n (x := x1) r_205_41 (n_205_41 _) rfl ?_
        refine i_iload_n (x := x2) r_205_42 (n_205_42 _) rfl ?_
        refine wp_virt (b := 252) (rest := []) (Ls := [(0, rf 252), (1, iv x1), (2, iv x2)]) r_205_43 (n_205_43 _) rfl ⟨rfl, rfl, by decide, by decide⟩ rfl rfl lf_252 ⟨rfl, Nat.le_of_ble_eq_true rfl, Nat.le_of_ble_eq_true rfl⟩ rfl h ?_
        intro o11 s11 h
        rcases h with ⟨y11, q12, rfl, h⟩ | ⟨e11, rfl, h⟩
        · refine .inl ⟨some (iv y11), rfl, ?_⟩
          show wp S 205 46 [(0, rf 252), (1, iv x1), (2, iv x2)] [iv y11] s11 Q
          exact i_ireturn r_205_46 (n_205_46 _) rfl h
        · skip
          exact h.elim
      · skip
        exact h.elim
    · replace h := h.2 c7
      refine i_iconst r_205_23 (n_205_23 _) ?_
      refine i_goto (t := 28) r_205_24 (n_205_24 _) rfl ?_
      refine wp_virt (b := 252) (rest := []) (Ls := [(0, rf 252), (1, iv 2)]) r_205_28 (n_205_28 _) rfl ⟨rfl, rfl, by decide, by decide⟩ rfl rfl lf_252 ⟨rfl, Nat.le_of_ble_eq_true rfl, Nat.le_of_ble_eq_true rfl⟩ rfl (K_Model_refused1 ⟨by omega, by omega⟩ (by omega)) ?_
      rintro _ _ ⟨rfl, rfl⟩
      refine .inl ⟨some (iv 1), rfl, ?_⟩
      show wp S 205 31 [(0, rf 252), (1, iv x1), (2, iv x2)] [iv 1] (zwI s 252 3 2) Q
      refine i_if (t := 36) r_205_31 (n_205_31 _) rfl (T_eq ⟨by omega, by omega⟩ ⟨by omega, by omega⟩) (fun z => absurd z (by omega)) (fun _ => ?_)
      refine i_iconst r_205_34 (n_205_34 _) ?_
      exact i_ireturn r_205_35 (n_205_35 _) rfl h
  · replace h := h.2 c4
    refine i_iconst r_205_9 (n_205_9 _) ?_
    refine i_goto (t := 28) r_205_10 (n_205_10 _) rfl ?_
    refine wp_virt (b := 252) (rest := []) (Ls := [(0, rf 252), (1, iv 1)]) r_205_28 (n_205_28 _) rfl ⟨rfl, rfl, by decide, by decide⟩ rfl rfl lf_252 ⟨rfl, Nat.le_of_ble_eq_true rfl, Nat.le_of_ble_eq_true rfl⟩ rfl (K_Model_refused1 ⟨by omega, by omega⟩ (by omega)) ?_
    rintro _ _ ⟨rfl, rfl⟩
    refine .inl ⟨some (iv 1), rfl, ?_⟩
    show wp S 205 31 [(0, rf 252), (1, iv x1), (2, iv x2)] [iv 1] (zwI s 252 3 1) Q
    refine i_if (t := 36) r_205_31 (n_205_31 _) rfl (T_eq ⟨by omega, by omega⟩ ⟨by omega, by omega⟩) (fun z => absurd z (by omega)) (fun _ => ?_)
    refine i_iconst r_205_34 (n_205_34 _) ?_
    exact i_ireturn r_205_35 (n_205_35 _) rfl h
theorem r_206_0 : xfetch 206 0 = some (.iload_n 2, 1) := by decide +kernel
theorem n_206_0 : ∀ l, xpr 206 0 l = l := xpr_no (by decide +kernel)
theorem r_206_1 : xfetch 206 1 = some (.tableswitch 89 0 5 #[39, 49, 55, 62, 69, 82], 39) := by decide +kernel
theorem n_206_1 : ∀ l, xpr 206 1 l = l := xpr_no (by decide +kernel)
theorem r_206_40 : xfetch 206 40 = some (.aload_n 0, 1) := by decide +kernel
theorem n_206_40 : ∀ l, xpr 206 40 l = l := xpr_no (by decide +kernel)
theorem r_206_41 : xfetch 206 41 = some (.getfield 7, 3) := by decide +kernel
theorem n_206_41 : ∀ l, xpr 206 41 l = l := xpr_no (by decide +kernel)
theorem r_206_44 : xfetch 206 44 = some (.iload_n 1, 1) := by decide +kernel
theorem n_206_44 : ∀ l, xpr 206 44 l = l := xpr_no (by decide +kernel)
theorem r_206_45 : xfetch 206 45 = some (.invokestatic 92, 3) := by decide +kernel
theorem n_206_45 : ∀ l, xpr 206 45 l = l := xpr_no (by decide +kernel)
theorem r_206_48 : xfetch 206 48 = some (.iaload, 1) := by decide +kernel
theorem n_206_48 : ∀ l, xpr 206 48 l = l := xpr_no (by decide +kernel)
theorem r_206_49 : xfetch 206 49 = some (.ireturn, 1) := by decide +kernel
theorem n_206_49 : ∀ l, xpr 206 49 l = l := xpr_no (by decide +kernel)
theorem r_206_50 : xfetch 206 50 = some (.aload_n 0, 1) := by decide +kernel
theorem n_206_50 : ∀ l, xpr 206 50 l = l := xpr_no (by decide +kernel)
theorem r_206_51 : xfetch 206 51 = some (.iload_n 1, 1) := by decide +kernel
theorem n_206_51 : ∀ l, xpr 206 51 l = l := xpr_no (by decide +kernel)
theorem r_206_52 : xfetch 206 52 = some (.invokevirtual 99, 3) := by decide +kernel
theorem n_206_52 : ∀ l, xpr 206 52 l = l := xpr_no (by decide +kernel)
theorem r_206_55 : xfetch 206 55 = some (.ireturn, 1) := by decide +kernel
theorem n_206_55 : ∀ l, xpr 206 55 l = l := xpr_no (by decide +kernel)
theorem r_206_56 : xfetch 206 56 = some (.aload_n 0, 1) := by decide +kernel
theorem n_206_56 : ∀ l, xpr 206 56 l = l := xpr_no (by decide +kernel)
theorem r_206_57 : xfetch 206 57 = some (.getfield 22, 3) := by decide +kernel
theorem n_206_57 : ∀ l, xpr 206 57 l = l := xpr_no (by decide +kernel)
theorem r_206_60 : xfetch 206 60 = some (.iload_n 1, 1) := by decide +kernel
theorem n_206_60 : ∀ l, xpr 206 60 l = l := xpr_no (by decide +kernel)
theorem r_206_61 : xfetch 206 61 = some (.iaload, 1) := by decide +kernel
theorem n_206_61 : ∀ l, xpr 206 61 l = l := xpr_no (by decide +kernel)
theorem r_206_62 : xfetch 206 62 = some (.ireturn, 1) := by decide +kernel
theorem n_206_62 : ∀ l, xpr 206 62 l = l := xpr_no (by decide +kernel)
theorem r_206_63 : xfetch 206 63 = some (.aload_n 0, 1) := by decide +kernel
theorem n_206_63 : ∀ l, xpr 206 63 l = l := xpr_no (by decide +kernel)
theorem r_206_64 : xfetch 206 64 = some (.getfield 25, 3) := by decide +kernel
theorem n_206_64 : ∀ l, xpr 206 64 l = l := xpr_no (by decide +kernel)
theorem r_206_67 : xfetch 206 67 = some (.iload_n 1, 1) := by decide +kernel
theorem n_206_67 : ∀ l, xpr 206 67 l = l := xpr_no (by decide +kernel)
theorem r_206_68 : xfetch 206 68 = some (.iaload, 1) := by decide +kernel
theorem n_206_68 : ∀ l, xpr 206 68 l = l := xpr_no (by decide +kernel)
theorem r_206_69 : xfetch 206 69 = some (.ireturn, 1) := by decide +kernel
theorem n_206_69 : ∀ l, xpr 206 69 l = l := xpr_no (by decide +kernel)
theorem r_206_70 : xfetch 206 70 = some (.aload_n 0, 1) := by decide +kernel
theorem n_206_70 : ∀ l, xpr 206 70 l = l := xpr_no (by decide +kernel)
theorem r_206_71 : xfetch 206 71 = some (.getfield 22, 3) := by decide +kernel
theorem n_206_71 : ∀ l, xpr 206 71 l = l := xpr_no (by decide +kernel)
theorem r_206_74 : xfetch 206 74 = some (.iload_n 1, 1) := by decide +kernel
theorem n_206_74 : ∀ l, xpr 206 74 l = l := xpr_no (by decide +kernel)
theorem r_206_75 : xfetch 206 75 = some (.iaload, 1) := by decide +kernel
theorem n_206_75 : ∀ l, xpr 206 75 l = l := xpr_no (by decide +kernel)
theorem r_206_76 : xfetch 206 76 = some (.aload_n 0, 1) := by decide +kernel
theorem n_206_76 : ∀ l, xpr 206 76 l = l := xpr_no (by decide +kernel)
theorem r_206_77 : xfetch 206 77 = some (.iload_n 1, 1) := by decide +kernel
theorem n_206_77 : ∀ l, xpr 206 77 l = l := xpr_no (by decide +kernel)
theorem r_206_78 : xfetch 206 78 = some (.invokevirtual 162, 3) := by decide +kernel
theorem n_206_78 : ∀ l, xpr 206 78 l = l := xpr_no (by decide +kernel)
theorem r_206_81 : xfetch 206 81 = some (.isub, 1) := by decide +kernel
theorem n_206_81 : ∀ l, xpr 206 81 l = l := xpr_no (by decide +kernel)
theorem r_206_82 : xfetch 206 82 = some (.ireturn, 1) := by decide +kernel
theorem n_206_82 : ∀ l, xpr 206 82 l = l := xpr_no (by decide +kernel)
theorem r_206_83 : xfetch 206 83 = some (.aload_n 0, 1) := by decide +kernel
theorem n_206_83 : ∀ l, xpr 206 83 l = l := xpr_no (by decide +kernel)
theorem r_206_84 : xfetch 206 84 = some (.getfield 19, 3) := by decide +kernel
theorem n_206_84 : ∀ l, xpr 206 84 l = l := xpr_no (by decide +kernel)
theorem r_206_87 : xfetch 206 87 = some (.iload_n 1, 1) := by decide +kernel
theorem n_206_87 : ∀ l, xpr 206 87 l = l := xpr_no (by decide +kernel)
theorem r_206_88 : xfetch 206 88 = some (.iaload, 1) := by decide +kernel
theorem n_206_88 : ∀ l, xpr 206 88 l = l := xpr_no (by decide +kernel)
theorem r_206_89 : xfetch 206 89 = some (.ireturn, 1) := by decide +kernel
theorem n_206_89 : ∀ l, xpr 206 89 l = l := xpr_no (by decide +kernel)
theorem r_206_90 : xfetch 206 90 = some (.aload_n 0, 1) := by decide +kernel
theorem n_206_90 : ∀ l, xpr 206 90 l = l := xpr_no (by decide +kernel)
theorem r_206_91 : xfetch 206 91 = some (.iload_n 1, 1) := by decide +kernel
theorem n_206_91 : ∀ l, xpr 206 91 l = l := xpr_no (by decide +kernel)
theorem r_206_92 : xfetch 206 92 = some (.invokevirtual 155, 3) := by decide +kernel
theorem n_206_92 : ∀ l, xpr 206 92 l = l := xpr_no (by decide +kernel)
theorem r_206_95 : xfetch 206 95 = some (.ifCond .eq 7, 3) := by decide +kernel
theorem n_206_95 : ∀ l, xpr 206 95 l = l := xpr_no (by decide +kernel)
theorem r_206_98 : xfetch 206 98 = some (.iconst 1, 1) := by decide +kernel
theorem n_206_98 : ∀ l, xpr 206 98 l = l := xpr_no (by decide +kernel)
theorem r_206_99 : xfetch 206 99 = some (.goto 4, 3) := by decide +kernel
theorem n_206_99 : ∀ l, xpr 206 99 l = l := xpr_no (by decide +kernel)
theorem r_206_102 : xfetch 206 102 = some (.iconst 0, 1) := by decide +kernel
theorem n_206_102 : ∀ l, xpr 206 102 l = l := xpr_no (by decide +kernel)
theorem r_206_103 : xfetch 206 103 = some (.ireturn, 1) := by decide +kernel
theorem n_206_103 : ∀ l, xpr 206 103 l = l := xpr_no (by decide +kernel)
theorem v_Model_recordBy_0 {S : Option (Nat × (Nat → Int32))} {s : zSt} {Q : Option Value ⊕ Nat → zSt → Prop} {x1 : Int} {x2 : Int} 
    (h : rng x2 ∧ ((x2 = 0 → (0 ≤ (1 + (26 * x1)) ∧ (1 + (26 * x1)) < 1199) ∧ (Q (rI (zI s 253 (1 + (26 * x1)))) s)) ∧ ((x2 = 1 → (0 ≤ ((1 + (26 * x1)) + 1) ∧ ((1 + (26 * x1)) + 1) < 1199) ∧ (Q (rI (zI s 253 ((1 + (26 * x1)) + 1))) s)) ∧ ((x2 = 2 → (0 ≤ x1 ∧ x1 < 6) ∧ (Q (rI (zI s 257 x1)) s)) ∧ ((x2 = 3 → (0 ≤ x1 ∧ x1 < 6) ∧ (Q (rI (zI s 258 x1)) s)) ∧ ((x2 = 4 → (0 ≤ x1 ∧ x1 < 6) ∧ (wp S 207 0 [(0, rf 252), (1, iv x1)] [] s (fun o15 s15 => zkI (fun y15 => Q (rI ((zI s 257 x1) - y15)) s15) (fun e15 => False) o15))) ∧ ((x2 = 5 → (0 ≤ x1 ∧ x1 < 6) ∧ (Q (rI (zI s 256 x1)) s)) ∧ (((x2 < 0 ∨ 5 < x2) → wp S 202 0 [(0, rf 252), (1, iv x1)] [] s (fun o19 s19 => zkI (fun y19 => (y19 = 0 → Q (rI 0) s19) ∧ (y19 ≠ 0 → Q (rI 1) s19)) (fun e19 => False) o19)))))))))) :
    wp S 206 0 [(0, rf 252), (1, iv x1), (2, iv x2)] [] s Q := by
  refine i_iload_n (x := x2) r_206_0 (n_206_0 _) rfl ?_
  obtain ⟨g1, h⟩ := h
  rcases (by omega : x2 = 0 ∨ x2 = 1 ∨ x2 = 2 ∨ x2 = 3 ∨ x2 = 4 ∨ x2 = 5 ∨ (x2 < 0 ∨ 5 < x2)) with c2 | c2 | c2 | c2 | c2 | c2 | c2
  · replace h := h.1 c2
    refine i_sw_hit (kk := 0) (t := 40) r_206_1 (n_206_1 _) (by omega) g1 (by omega) rfl rfl ?_
    refine i_aload_n (a := 252) r_206_40 (n_206_40 _) rfl ?_
    refine i_getR (a := 252) (b := 253) r_206_41 (n_206_41 _) rfl rfl rfl (by omega) lf_252 (by omega) ?_
    refine i_iload_n (x := x1) r_206_44 (n_206_44 _) rfl ?_
    refine wp_stat (rest := [rf 253]) (Ls := [(0, iv x1)]) r_206_45 (n_206_45 _) rfl ⟨rfl, by decide, by decide, by decide⟩ rfl rfl ⟨rfl, Nat.le_of_ble_eq_true rfl, Nat.le_of_ble_eq_true rfl⟩ rfl K_Model_record ?_
    rintro _ _ ⟨rfl, rfl⟩
    refine .inl ⟨some (iv (1 + (26 * x1))), rfl, ?_⟩
    show wp S 206 48 [(0, rf 252), (1, iv x1), (2, iv x2)] [iv (1 + (26 * x1)), rf 253] s Q
    obtain ⟨g4, h⟩ := h
    refine i_iaload (a := 253) (j := 1 + (26 * x1)) r_206_48 (n_206_48 _) lf_253 ⟨by omega, by omega⟩ (by omega) (by omega) (fun q5 => ?_)
    exact i_ireturn r_206_49 (n_206_49 _) rfl h
  · replace h := h.2.1 c2
    refine i_sw_hit (kk := 1) (t := 50) r_206_1 (n_206_1 _) (by omega) g1 (by omega) rfl rfl ?_
    refine i_aload_n (a := 252) r_206_50 (n_206_50 _) rfl ?_
    refine i_iload_n (x := x1) r_206_51 (n_206_51 _) rfl ?_
    obtain ⟨g6, h⟩ := h
    refine wp_virt (b := 252) (rest := []) (Ls := [(0, rf 252), (1, iv x1)]) r_206_52 (n_206_52 _) rfl ⟨rfl, rfl, by decide, by decide⟩ rfl rfl lf_252 ⟨rfl, Nat.le_of_ble_eq_true rfl, Nat.le_of_ble_eq_true rfl⟩ rfl (K_Model_fieldsOf g6) ?_
    rintro _ _ ⟨rfl, rfl⟩
    refine .inl ⟨some (iv (zI s 253 ((1 + (26 * x1)) + 1))), rfl, ?_⟩
    show wp S 206 55 [(0, rf 252), (1, iv x1), (2, iv x2)] [iv (zI s 253 ((1 + (26 * x1)) + 1))] s Q
    refine wp_rd (a := 253) (j := ((1 + (26 * x1)) + 1)) (fun q8 => ?_)
    exact i_ireturn r_206_55 (n_206_55 _) rfl h
  · replace h := h.2.2.1 c2
    refine i_sw_hit (kk := 2) (t := 56) r_206_1 (n_206_1 _) (by omega) g1 (by omega) rfl rfl ?_
    refine i_aload_n (a := 252) r_206_56 (n_206_56 _) rfl ?_
    refine i_getR (a := 252) (b := 257) r_206_57 (n_206_57 _) rfl rfl rfl (by omega) lf_252 (by omega) ?_
    refine i_iload_n (x := x1) r_206_60 (n_206_60 _) rfl ?_
    obtain ⟨g9, h⟩ := h
    refine i_iaload (a := 257) (j := x1) r_206_61 (n_206_61 _) lf_257 ⟨by omega, by omega⟩ (by omega) (by omega) (fun q10 => ?_)
    exact i_ireturn r_206_62 (n_206_62 _) rfl h
  · replace h := h.2.2.2.1 c2
    refine i_sw_hit (kk := 3) (t := 63) r_206_1 (n_206_1 _) (by omega) g1 (by omega) rfl rfl ?_
    refine i_aload_n (a := 252) r_206_63 (n_206_63 _) rfl ?_
    refine i_getR (a := 252) (b := 258) r_206_64 (n_206_64 _) rfl rfl rfl (by omega) lf_252 (by omega) ?_
    refine i_iload_n (x := x1) r_206_67 (n_206_67 _) rfl ?_
    obtain ⟨g11, h⟩ := h
    refine i_iaload (a := 258) (j := x1) r_206_68 (n_206_68 _) lf_258 ⟨by omega, by omega⟩ (by omega) (by omega) (fun q12 => ?_)
    exact i_ireturn r_206_69 (n_206_69 _) rfl h
  · replace h := h.2.2.2.2.1 c2
    refine i_sw_hit (kk := 4) (t := 70) r_206_1 (n_206_1 _) (by omega) g1 (by omega) rfl rfl ?_
    refine i_aload_n (a := 252) r_206_70 (n_206_70 _) rfl ?_
    refine i_getR (a := 252) (b := 257) r_206_71 (n_206_71 _) rfl rfl rfl (by omega) lf_252 (by omega) ?_
    refine i_iload_n (x := x1) r_206_74 (n_206_74 _) rfl ?_
    obtain ⟨g13, h⟩ := h
    refine i_iaload (a := 257) (j := x1) r_206_75 (n_206_75 _) lf_257 ⟨by omega, by omega⟩ (by omega) (by omega) (fun q14 => ?_)
    refine i_aload_n (a := 252) r_206_76 (n_206_76 _) rfl ?_
    refine i_iload_n (x := x1) r_206_77 (n_206_77 _) rfl ?_
    refine wp_virt (b := 252) (rest := [iv (zI s 257 x1)]) (Ls := [(0, rf 252), (1, iv x1)]) r_206_78 (n_206_78 _) rfl ⟨rfl, rfl, by decide, by decide⟩ rfl rfl lf_252 ⟨rfl, Nat.le_of_ble_eq_true rfl, Nat.le_of_ble_eq_true rfl⟩ rfl h ?_
    intro o15 s15 h
    rcases h with ⟨y15, q16, rfl, h⟩ | ⟨e15, rfl, h⟩
    · refine .inl ⟨some (iv y15), rfl, ?_⟩
      show wp S 206 81 [(0, rf 252), (1, iv x1), (2, iv x2)] [iv y15, iv (zI s 257 x1)] s15 Q
      refine i_isub r_206_81 (n_206_81 _) ?_
      exact i_ireturn r_206_82 (n_206_82 _) rfl h
    · skip
      exact h.elim
  · replace h := h.2.2.2.2.2.1 c2
    refine i_sw_hit (kk := 5) (t := 83) r_206_1 (n_206_1 _) (by omega) g1 (by omega) rfl rfl ?_
    refine i_aload_n (a := 252) r_206_83 (n_206_83 _) rfl ?_
    refine i_getR (a := 252) (b := 256) r_206_84 (n_206_84 _) rfl rfl rfl (by omega) lf_252 (by omega) ?_
    refine i_iload_n (x := x1) r_206_87 (n_206_87 _) rfl ?_
    obtain ⟨g17, h⟩ := h
    refine i_iaload (a := 256) (j := x1) r_206_88 (n_206_88 _) lf_256 ⟨by omega, by omega⟩ (by omega) (by omega) (fun q18 => ?_)
    exact i_ireturn r_206_89 (n_206_89 _) rfl h
  · replace h := h.2.2.2.2.2.2 c2
    refine i_sw_out (t := 90) r_206_1 (n_206_1 _) c2 g1 rfl ?_
    refine i_aload_n (a := 252) r_206_90 (n_206_90 _) rfl ?_
    refine i_iload_n (x := x1) r_206_91 (n_206_91 _) rfl ?_
    refine wp_virt (b := 252) (rest := []) (Ls := [(0, rf 252), (1, iv x1)]) r_206_92 (n_206_92 _) rfl ⟨rfl, rfl, by decide, by decide⟩ rfl rfl lf_252 ⟨rfl, Nat.le_of_ble_eq_true rfl, Nat.le_of_ble_eq_true rfl⟩ rfl h ?_
    intro o19 s19 h
    rcases h with ⟨y19, q20, rfl, h⟩ | ⟨e19, rfl, h⟩
    · refine .inl ⟨some (iv y19), rfl, ?_⟩
      show wp S 206 95 [(0, rf 252), (1, iv x1), (2, iv x2)] [iv y19] s19 Q
      refine i_if (t := 102) r_206_95 (n_206_95 _) rfl (T_eq q20 ⟨by omega, by omega⟩) (fun c21 => ?_) (fun c21 => ?_)
      · replace h := h.1 c21
        refine i_iconst r_206_102 (n_206_102 _) ?_
        exact i_ireturn r_206_103 (n_206_103 _) rfl h
      · replace h := h.2 c21
        refine i_iconst r_206_98 (n_206_98 _) ?_
        refine i_goto (t := 103) r_206_99 (n_206_99 _) rfl ?_
        exact i_ireturn r_206_103 (n_206_103 _) rfl h
    · skip
      exact h.elim
theorem r_207_0 : xfetch 207 0 = some (.iconst 0, 1) := by decide +kernel
theorem n_207_0 : ∀ l, xpr 207 0 l = l := xpr_no (by decide +kernel)
theorem r_207_1 : xfetch 207 1 = some (.istore_n 2, 1) := by decide +kernel
theorem n_207_1 : ∀ l, xpr 207 1 l = l := xpr_no (by decide +kernel)
theorem r_207_2 : xfetch 207 2 = some (.iconst 0, 1) := by decide +kernel
theorem n_207_2 : ∀ l, xpr 207 2 l = l := xpr_no (by decide +kernel)
theorem r_207_3 : xfetch 207 3 = some (.istore_n 3, 1) := by decide +kernel
theorem n_207_3 : ∀ l, xpr 207 3 l = l := xpr_no (by decide +kernel)
theorem r_207_4 : xfetch 207 4 = some (.iload_n 3, 1) := by decide +kernel
theorem r_207_5 : xfetch 207 5 = some (.aload_n 0, 1) := by decide +kernel
theorem n_207_5 : ∀ l, xpr 207 5 l = l := xpr_no (by decide +kernel)
theorem r_207_6 : xfetch 207 6 = some (.getfield 19, 3) := by decide +kernel
theorem n_207_6 : ∀ l, xpr 207 6 l = l := xpr_no (by decide +kernel)
theorem r_207_9 : xfetch 207 9 = some (.iload_n 1, 1) := by decide +kernel
theorem n_207_9 : ∀ l, xpr 207 9 l = l := xpr_no (by decide +kernel)
theorem r_207_10 : xfetch 207 10 = some (.iaload, 1) := by decide +kernel
theorem n_207_10 : ∀ l, xpr 207 10 l = l := xpr_no (by decide +kernel)
theorem r_207_11 : xfetch 207 11 = some (.if_icmp .ge 57, 3) := by decide +kernel
theorem n_207_11 : ∀ l, xpr 207 11 l = l := xpr_no (by decide +kernel)
theorem r_207_14 : xfetch 207 14 = some (.bipush 40, 2) := by decide +kernel
theorem n_207_14 : ∀ l, xpr 207 14 l = l := xpr_no (by decide +kernel)
theorem r_207_16 : xfetch 207 16 = some (.iload_n 1, 1) := by decide +kernel
theorem n_207_16 : ∀ l, xpr 207 16 l = l := xpr_no (by decide +kernel)
theorem r_207_17 : xfetch 207 17 = some (.imul, 1) := by decide +kernel
theorem n_207_17 : ∀ l, xpr 207 17 l = l := xpr_no (by decide +kernel)
theorem r_207_18 : xfetch 207 18 = some (.iload_n 3, 1) := by decide +kernel
theorem n_207_18 : ∀ l, xpr 207 18 l = l := xpr_no (by decide +kernel)
theorem r_207_19 : xfetch 207 19 = some (.iadd, 1) := by decide +kernel
theorem n_207_19 : ∀ l, xpr 207 19 l = l := xpr_no (by decide +kernel)
theorem r_207_20 : xfetch 207 20 = some (.istore 4, 2) := by decide +kernel
theorem n_207_20 : ∀ l, xpr 207 20 l = l := xpr_no (by decide +kernel)
theorem r_207_22 : xfetch 207 22 = some (.iload_n 2, 1) := by decide +kernel
theorem n_207_22 : ∀ l, xpr 207 22 l = l := xpr_no (by decide +kernel)
theorem r_207_23 : xfetch 207 23 = some (.aload_n 0, 1) := by decide +kernel
theorem n_207_23 : ∀ l, xpr 207 23 l = l := xpr_no (by decide +kernel)
theorem r_207_24 : xfetch 207 24 = some (.getfield 28, 3) := by decide +kernel
theorem n_207_24 : ∀ l, xpr 207 24 l = l := xpr_no (by decide +kernel)
theorem r_207_27 : xfetch 207 27 = some (.iload 4, 2) := by decide +kernel
theorem n_207_27 : ∀ l, xpr 207 27 l = l := xpr_no (by decide +kernel)
theorem r_207_29 : xfetch 207 29 = some (.iaload, 1) := by decide +kernel
theorem n_207_29 : ∀ l, xpr 207 29 l = l := xpr_no (by decide +kernel)
theorem r_207_30 : xfetch 207 30 = some (.invokestatic 109, 3) := by decide +kernel
theorem n_207_30 : ∀ l, xpr 207 30 l = l := xpr_no (by decide +kernel)
theorem r_207_33 : xfetch 207 33 = some (.ifCond .eq 17, 3) := by decide +kernel
theorem n_207_33 : ∀ l, xpr 207 33 l = l := xpr_no (by decide +kernel)
theorem r_207_36 : xfetch 207 36 = some (.aload_n 0, 1) := by decide +kernel
theorem n_207_36 : ∀ l, xpr 207 36 l = l := xpr_no (by decide +kernel)
theorem r_207_37 : xfetch 207 37 = some (.getfield 34, 3) := by decide +kernel
theorem n_207_37 : ∀ l, xpr 207 37 l = l := xpr_no (by decide +kernel)
theorem r_207_40 : xfetch 207 40 = some (.iload 4, 2) := by decide +kernel
theorem n_207_40 : ∀ l, xpr 207 40 l = l := xpr_no (by decide +kernel)
theorem r_207_42 : xfetch 207 42 = some (.iaload, 1) := by decide +kernel
theorem n_207_42 : ∀ l, xpr 207 42 l = l := xpr_no (by decide +kernel)
theorem r_207_43 : xfetch 207 43 = some (.ifCond .le 7, 3) := by decide +kernel
theorem n_207_43 : ∀ l, xpr 207 43 l = l := xpr_no (by decide +kernel)
theorem r_207_46 : xfetch 207 46 = some (.iconst 0, 1) := by decide +kernel
theorem n_207_46 : ∀ l, xpr 207 46 l = l := xpr_no (by decide +kernel)
theorem r_207_47 : xfetch 207 47 = some (.goto 13, 3) := by decide +kernel
theorem n_207_47 : ∀ l, xpr 207 47 l = l := xpr_no (by decide +kernel)
theorem r_207_50 : xfetch 207 50 = some (.aload_n 0, 1) := by decide +kernel
theorem n_207_50 : ∀ l, xpr 207 50 l = l := xpr_no (by decide +kernel)
theorem r_207_51 : xfetch 207 51 = some (.getfield 28, 3) := by decide +kernel
theorem n_207_51 : ∀ l, xpr 207 51 l = l := xpr_no (by decide +kernel)
theorem r_207_54 : xfetch 207 54 = some (.iload 4, 2) := by decide +kernel
theorem n_207_54 : ∀ l, xpr 207 54 l = l := xpr_no (by decide +kernel)
theorem r_207_56 : xfetch 207 56 = some (.iaload, 1) := by decide +kernel
theorem n_207_56 : ∀ l, xpr 207 56 l = l := xpr_no (by decide +kernel)
theorem r_207_57 : xfetch 207 57 = some (.invokestatic 96, 3) := by decide +kernel
theorem n_207_57 : ∀ l, xpr 207 57 l = l := xpr_no (by decide +kernel)
theorem r_207_60 : xfetch 207 60 = some (.iadd, 1) := by decide +kernel
theorem n_207_60 : ∀ l, xpr 207 60 l = l := xpr_no (by decide +kernel)
theorem r_207_61 : xfetch 207 61 = some (.istore_n 2, 1) := by decide +kernel
theorem n_207_61 : ∀ l, xpr 207 61 l = l := xpr_no (by decide +kernel)
theorem r_207_62 : xfetch 207 62 = some (.iinc 3 1, 3) := by decide +kernel
theorem n_207_62 : ∀ l, xpr 207 62 l = l := xpr_no (by decide +kernel)
theorem r_207_65 : xfetch 207 65 = some (.goto (-61), 3) := by decide +kernel
theorem n_207_65 : ∀ l, xpr 207 65 l = l := xpr_no (by decide +kernel)
theorem r_207_68 : xfetch 207 68 = some (.iload_n 2, 1) := by decide +kernel
theorem n_207_68 : ∀ l, xpr 207 68 l = l := xpr_no (by decide +kernel)
theorem r_207_69 : xfetch 207 69 = some (.ireturn, 1) := by decide +kernel
theorem n_207_69 : ∀ l, xpr 207 69 l = l := xpr_no (by decide +kernel)
theorem v_Model_filled_0 {S : Option (Nat × (Nat → Int32))} {s : zSt} {Q : Option Value ⊕ Nat → zSt → Prop} {x1 : Int} 
    (h : wp S 207 4 [(0, rf 252), (1, iv x1), (2, iv 0), (3, iv 0)] [] s Q) :
    wp S 207 0 [(0, rf 252), (1, iv x1)] [] s Q := by
  refine i_iconst r_207_0 (n_207_0 _) ?_
  refine i_istore_n (l' := [(0, rf 252), (1, iv x1), (2, iv 0)]) r_207_1 (n_207_1 _) (by decide) rfl ?_
  refine i_iconst r_207_2 (n_207_2 _) ?_
  refine i_istore_n (l' := [(0, rf 252), (1, iv x1), (2, iv 0), (3, iv 0)]) r_207_3 (n_207_3 _) (by decide) rfl ?_
  exact wp_pr (l' := [(0, rf 252), (1, iv x1), (2, iv 0), (3, iv 0)]) rfl h
theorem v_Model_filled_4 {S : Option (Nat × (Nat → Int32))} {s : zSt} {Q : Option Value ⊕ Nat → zSt → Prop} {x1 : Int} {x2 : Int} {x3 : Int} 
    (h : (0 ≤ x1 ∧ x1 < 6) ∧ (rng x3 ∧ (((zI s 256 x1) ≤ x3 → Q (rI x2) s) ∧ (x3 < (zI s 256 x1) → (0 ≤ ((40 * x1) + x3) ∧ ((40 * x1) + x3) < 240) ∧ ((¬ (21 ≤ (zI s 259 ((40 * x1) + x3)) ∧ (zI s 259 ((40 * x1) + x3)) ≤ 36) → wp S 207 4 [(0, rf 252), (1, iv x1), (2, iv (x2 + (zby (zI s 259 ((40 * x1) + x3))))), (3, iv (x3 + 1))] [] s Q) ∧ (21 ≤ (zI s 259 ((40 * x1) + x3)) ∧ (zI s 259 ((40 * x1) + x3)) ≤ 36 → ((zI s 261 ((40 * x1) + x3)) ≤ 0 → wp S 207 4 [(0, rf 252), (1, iv x1), (2, iv (x2 + (zby (zI s 259 ((40 * x1) + x3))))), (3, iv (x3 + 1))] [] s Q) ∧ (0 < (zI s 261 ((40 * x1) + x3)) → wp S 207 4 [(0, rf 252), (1, iv x1), (2, iv (x2 + 0)), (3, iv (x3 + 1))] [] s Q))))))) :
    wp S 207 4 [(0, rf 252), (1, iv x1), (2, iv x2), (3, iv x3)] [] s Q := by
  refine i_iload_n (x := x3) r_207_4 rfl rfl ?_
  refine i_aload_n (a := 252) r_207_5 (n_207_5 _) rfl ?_
  refine i_getR (a := 252) (b := 256) r_207_6 (n_207_6 _) rfl rfl rfl (by omega) lf_252 (by omega) ?_
  refine i_iload_n (x := x1) r_207_9 (n_207_9 _) rfl ?_
  obtain ⟨g1, h⟩ := h
  refine i_iaload (a := 256) (j := x1) r_207_10 (n_207_10 _) lf_256 ⟨by omega, by omega⟩ (by omega) (by omega) (fun q2 => ?_)
  obtain ⟨g3, h⟩ := h
  refine i_icmp (t := 68) r_207_11 (n_207_11 _) rfl (T_ge g3 q2) (fun c4 => ?_) (fun c4 => ?_)
  · replace h := h.1 c4
    refine i_iload_n (x := x2) r_207_68 (n_207_68 _) rfl ?_
    exact i_ireturn r_207_69 (n_207_69 _) rfl h
  · replace h := h.2 c4
    refine i_bipush r_207_14 (n_207_14 _) rfl ?_
    refine i_iload_n (x := x1) r_207_16 (n_207_16 _) rfl ?_
    refine i_imul r_207_17 (n_207_17 _) ?_
    refine i_iload_n (x := x3) r_207_18 (n_207_18 _) rfl ?_
    refine i_iadd r_207_19 (n_207_19 _) ?_
    refine i_istore (l' := [(0, rf 252), (1, iv x1), (2, iv x2), (3, iv x3), (4, iv ((40 * x1) + x3))]) r_207_20 (n_207_20 _) (by decide) rfl ?_
    refine i_iload_n (x := x2) r_207_22 (n_207_22 _) rfl ?_
    refine i_aload_n (a := 252) r_207_23 (n_207_23 _) rfl ?_
    refine i_getR (a := 252) (b := 259) r_207_24 (n_207_24 _) rfl rfl rfl (by omega) lf_252 (by omega) ?_
    refine i_iload (x := (40 * x1) + x3) r_207_27 (n_207_27 _) rfl ?_
    obtain ⟨g5, h⟩ := h
    refine i_iaload (a := 259) (j := (40 * x1) + x3) r_207_29 (n_207_29 _) lf_259 ⟨by omega, by omega⟩ (by omega) (by omega) (fun q6 => ?_)
    refine wp_stat (rest := [iv x2]) (Ls := [(0, iv (zI s 259 ((40 * x1) + x3)))]) r_207_30 (n_207_30 _) rfl ⟨rfl, by decide, by decide, by decide⟩ rfl rfl ⟨rfl, Nat.le_of_ble_eq_true rfl, Nat.le_of_ble_eq_true rfl⟩ rfl (K_Model_isBits q6) ?_
    rintro _ _ ⟨rfl, rfl⟩
    refine .inl ⟨some (iv (bi (21 ≤ (zI s 259 ((40 * x1) + x3)) ∧ (zI s 259 ((40 * x1) + x3)) ≤ 36))), rfl, ?_⟩
    show wp S 207 33 [(0, rf 252), (1, iv x1), (2, iv x2), (3, iv x3), (4, iv ((40 * x1) + x3))] [iv (bi (21 ≤ (zI s 259 ((40 * x1) + x3)) ∧ (zI s 259 ((40 * x1) + x3)) ≤ 36)), iv x2] s Q
    refine i_if (t := 50) r_207_33 (n_207_33 _) rfl (TB_eq) (fun c8 => ?_) (fun c8 => ?_)
    · replace h := h.1 c8
      refine i_aload_n (a := 252) r_207_50 (n_207_50 _) rfl ?_
      refine i_getR (a := 252) (b := 259) r_207_51 (n_207_51 _) rfl rfl rfl (by omega) lf_252 (by omega) ?_
      refine i_iload (x := (40 * x1) + x3) r_207_54 (n_207_54 _) rfl ?_
      refine i_iaload (a := 259) (j := (40 * x1) + x3) r_207_56 (n_207_56 _) lf_259 ⟨by omega, by omega⟩ (by omega) (by omega) (fun q9 => ?_)
      refine wp_stat (rest := [iv x2]) (Ls := [(0, iv (zI s 259 ((40 * x1) + x3)))]) r_207_57 (n_207_57 _) rfl ⟨rfl, by decide, by decide, by decide⟩ rfl rfl ⟨rfl, Nat.le_of_ble_eq_true rfl, Nat.le_of_ble_eq_true rfl⟩ rfl (K_Model_bytesOf q9) ?_
      rintro _ _ ⟨rfl, rfl⟩
      refine .inl ⟨some (iv (zby (zI s 259 ((40 * x1) + x3)))), rfl, ?_⟩
      show wp S 207 60 [(0, rf 252), (1, iv x1), (2, iv x2), (3, iv x3), (4, iv ((40 * x1) + x3))] [iv (zby (zI s 259 ((40 * x1) + x3))), iv x2] s Q
      refine i_iadd r_207_60 (n_207_60 _) ?_
      refine i_istore_n (l' := [(0, rf 252), (1, iv x1), (2, iv (x2 + (zby (zI s 259 ((40 * x1) + x3))))), (3, iv x3), (4, iv ((40 * x1) + x3))]) r_207_61 (n_207_61 _) (by decide) rfl ?_
      refine i_iinc (x := x3) (l' := [(0, rf 252), (1, iv x1), (2, iv (x2 + (zby (zI s 259 ((40 * x1) + x3))))), (3, iv (x3 + 1)), (4, iv ((40 * x1) + x3))]) r_207_62 (n_207_62 _) (by decide) rfl rfl ?_
      refine i_goto (t := 4) r_207_65 (n_207_65 _) rfl ?_
      exact wp_pr (l' := [(0, rf 252), (1, iv x1), (2, iv (x2 + (zby (zI s 259 ((40 * x1) + x3))))), (3, iv (x3 + 1))]) rfl h
    · replace h := h.2 c8
      refine i_aload_n (a := 252) r_207_36 (n_207_36 _) rfl ?_
      refine i_getR (a := 252) (b := 261) r_207_37 (n_207_37 _) rfl rfl rfl (by omega) lf_252 (by omega) ?_
      refine i_iload (x := (40 * x1) + x3) r_207_40 (n_207_40 _) rfl ?_
      refine i_iaload (a := 261) (j := (40 * x1) + x3) r_207_42 (n_207_42 _) lf_261 ⟨by omega, by omega⟩ (by omega) (by omega) (fun q11 => ?_)
      refine i_if (t := 50) r_207_43 (n_207_43 _) rfl (T_le q11 ⟨by omega, by omega⟩) (fun c12 => ?_) (fun c12 => ?_)
      · replace h := h.1 c12
        refine i_aload_n (a := 252) r_207_50 (n_207_50 _) rfl ?_
        refine i_getR (a := 252) (b := 259) r_207_51 (n_207_51 _) rfl rfl rfl (by omega) lf_252 (by omega) ?_
        refine i_iload (x := (40 * x1) + x3) r_207_54 (n_207_54 _) rfl ?_
        refine i_iaload (a := 259) (j := (40 * x1) + x3) r_207_56 (n_207_56 _) lf_259 ⟨by omega, by omega⟩ (by omega) (by omega) (fun q13 => ?_)
        refine wp_stat (rest := [iv x2]) (Ls := [(0, iv (zI s 259 ((40 * x1) + x3)))]) r_207_57 (n_207_57 _) rfl ⟨rfl, by decide, by decide, by decide⟩ rfl rfl ⟨rfl, Nat.le_of_ble_eq_true rfl, Nat.le_of_ble_eq_true rfl⟩ rfl (K_Model_bytesOf q13) ?_
        rintro _ _ ⟨rfl, rfl⟩
        refine .inl ⟨some (iv (zby (zI s 259 ((40 * x1) + x3)))), rfl, ?_⟩
        show wp S 207 60 [(0, rf 252), (1, iv x1), (2, iv x2), (3, iv x3), (4, iv ((40 * x1) + x3))] [iv (zby (zI s 259 ((40 * x1) + x3))), iv x2] s Q
        refine i_iadd r_207_60 (n_207_60 _) ?_
        refine i_istore_n (l' := [(0, rf 252), (1, iv x1), (2, iv (x2 + (zby (zI s 259 ((40 * x1) + x3))))), (3, iv x3), (4, iv ((40 * x1) + x3))]) r_207_61 (n_207_61 _) (by decide) rfl ?_
        refine i_iinc (x := x3) (l' := [(0, rf 252), (1, iv x1), (2, iv (x2 + (zby (zI s 259 ((40 * x1) + x3))))), (3, iv (x3 + 1)), (4, iv ((40 * x1) + x3))]) r_207_62 (n_207_62 _) (by decide) rfl rfl ?_
        refine i_goto (t := 4) r_207_65 (n_207_65 _) rfl ?_
        exact wp_pr (l' := [(0, rf 252), (1, iv x1), (2, iv (x2 + (zby (zI s 259 ((40 * x1) + x3))))), (3, iv (x3 + 1))]) rfl h
      · replace h := h.2 c12
        refine i_iconst r_207_46 (n_207_46 _) ?_
        refine i_goto (t := 60) r_207_47 (n_207_47 _) rfl ?_
        refine i_iadd r_207_60 (n_207_60 _) ?_
        refine i_istore_n (l' := [(0, rf 252), (1, iv x1), (2, iv (x2 + 0)), (3, iv x3), (4, iv ((40 * x1) + x3))]) r_207_61 (n_207_61 _) (by decide) rfl ?_
        refine i_iinc (x := x3) (l' := [(0, rf 252), (1, iv x1), (2, iv (x2 + 0)), (3, iv (x3 + 1)), (4, iv ((40 * x1) + x3))]) r_207_62 (n_207_62 _) (by decide) rfl rfl ?_
        refine i_goto (t := 4) r_207_65 (n_207_65 _) rfl ?_
        exact wp_pr (l' := [(0, rf 252), (1, iv x1), (2, iv (x2 + 0)), (3, iv (x3 + 1))]) rfl h
theorem r_208_0 : xfetch 208 0 = some (.aload_n 0, 1) := by decide +kernel
theorem n_208_0 : ∀ l, xpr 208 0 l = l := xpr_no (by decide +kernel)
theorem r_208_1 : xfetch 208 1 = some (.iload_n 1, 1) := by decide +kernel
theorem n_208_1 : ∀ l, xpr 208 1 l = l := xpr_no (by decide +kernel)
theorem r_208_2 : xfetch 208 2 = some (.invokevirtual 142, 3) := by decide +kernel
theorem n_208_2 : ∀ l, xpr 208 2 l = l := xpr_no (by decide +kernel)
theorem r_208_5 : xfetch 208 5 = some (.ifCond .eq 22, 3) := by decide +kernel
theorem n_208_5 : ∀ l, xpr 208 5 l = l := xpr_no (by decide +kernel)
theorem r_208_8 : xfetch 208 8 = some (.iload_n 2, 1) := by decide +kernel
theorem n_208_8 : ∀ l, xpr 208 8 l = l := xpr_no (by decide +kernel)
theorem r_208_9 : xfetch 208 9 = some (.iconst 0, 1) := by decide +kernel
theorem n_208_9 : ∀ l, xpr 208 9 l = l := xpr_no (by decide +kernel)
theorem r_208_10 : xfetch 208 10 = some (.aload_n 0, 1) := by decide +kernel
theorem n_208_10 : ∀ l, xpr 208 10 l = l := xpr_no (by decide +kernel)
theorem r_208_11 : xfetch 208 11 = some (.iload_n 1, 1) := by decide +kernel
theorem n_208_11 : ∀ l, xpr 208 11 l = l := xpr_no (by decide +kernel)
theorem r_208_12 : xfetch 208 12 = some (.invokevirtual 99, 3) := by decide +kernel
theorem n_208_12 : ∀ l, xpr 208 12 l = l := xpr_no (by decide +kernel)
theorem r_208_15 : xfetch 208 15 = some (.iconst 1, 1) := by decide +kernel
theorem n_208_15 : ∀ l, xpr 208 15 l = l := xpr_no (by decide +kernel)
theorem r_208_16 : xfetch 208 16 = some (.isub, 1) := by decide +kernel
theorem n_208_16 : ∀ l, xpr 208 16 l = l := xpr_no (by decide +kernel)
theorem r_208_17 : xfetch 208 17 = some (.invokestatic 88, 3) := by decide +kernel
theorem n_208_17 : ∀ l, xpr 208 17 l = l := xpr_no (by decide +kernel)
theorem r_208_20 : xfetch 208 20 = some (.ifCond .eq 7, 3) := by decide +kernel
theorem n_208_20 : ∀ l, xpr 208 20 l = l := xpr_no (by decide +kernel)
theorem r_208_23 : xfetch 208 23 = some (.iconst 1, 1) := by decide +kernel
theorem n_208_23 : ∀ l, xpr 208 23 l = l := xpr_no (by decide +kernel)
theorem r_208_24 : xfetch 208 24 = some (.goto 4, 3) := by decide +kernel
theorem n_208_24 : ∀ l, xpr 208 24 l = l := xpr_no (by decide +kernel)
theorem r_208_27 : xfetch 208 27 = some (.iconst 0, 1) := by decide +kernel
theorem n_208_27 : ∀ l, xpr 208 27 l = l := xpr_no (by decide +kernel)
theorem r_208_28 : xfetch 208 28 = some (.istore 4, 2) := by decide +kernel
theorem r_208_30 : xfetch 208 30 = some (.aload_n 0, 1) := by decide +kernel
theorem n_208_30 : ∀ l, xpr 208 30 l = l := xpr_no (by decide +kernel)
theorem r_208_31 : xfetch 208 31 = some (.iload 4, 2) := by decide +kernel
theorem n_208_31 : ∀ l, xpr 208 31 l = l := xpr_no (by decide +kernel)
theorem r_208_33 : xfetch 208 33 = some (.ifCond .ne 7, 3) := by decide +kernel
theorem n_208_33 : ∀ l, xpr 208 33 l = l := xpr_no (by decide +kernel)
theorem r_208_36 : xfetch 208 36 = some (.iconst 1, 1) := by decide +kernel
theorem n_208_36 : ∀ l, xpr 208 36 l = l := xpr_no (by decide +kernel)
theorem r_208_37 : xfetch 208 37 = some (.goto 17, 3) := by decide +kernel
theorem n_208_37 : ∀ l, xpr 208 37 l = l := xpr_no (by decide +kernel)
theorem r_208_40 : xfetch 208 40 = some (.iload_n 3, 1) := by decide +kernel
theorem n_208_40 : ∀ l, xpr 208 40 l = l := xpr_no (by decide +kernel)
theorem r_208_41 : xfetch 208 41 = some (.iconst 0, 1) := by decide +kernel
theorem n_208_41 : ∀ l, xpr 208 41 l = l := xpr_no (by decide +kernel)
theorem r_208_42 : xfetch 208 42 = some (.iconst 5, 1) := by decide +kernel
theorem n_208_42 : ∀ l, xpr 208 42 l = l := xpr_no (by decide +kernel)
theorem r_208_43 : xfetch 208 43 = some (.invokestatic 88, 3) := by decide +kernel
theorem n_208_43 : ∀ l, xpr 208 43 l = l := xpr_no (by decide +kernel)
theorem r_208_46 : xfetch 208 46 = some (.ifCond .ne 7, 3) := by decide +kernel
theorem n_208_46 : ∀ l, xpr 208 46 l = l := xpr_no (by decide +kernel)
theorem r_208_49 : xfetch 208 49 = some (.iconst 2, 1) := by decide +kernel
theorem n_208_49 : ∀ l, xpr 208 49 l = l := xpr_no (by decide +kernel)
theorem r_208_50 : xfetch 208 50 = some (.goto 4, 3) := by decide +kernel
theorem n_208_50 : ∀ l, xpr 208 50 l = l := xpr_no (by decide +kernel)
theorem r_208_53 : xfetch 208 53 = some (.iconst 0, 1) := by decide +kernel
theorem n_208_53 : ∀ l, xpr 208 53 l = l := xpr_no (by decide +kernel)
theorem r_208_54 : xfetch 208 54 = some (.invokevirtual 84, 3) := by decide +kernel
theorem n_208_54 : ∀ l, xpr 208 54 l = l := xpr_no (by decide +kernel)
theorem r_208_57 : xfetch 208 57 = some (.ifCond .eq 5, 3) := by decide +kernel
theorem n_208_57 : ∀ l, xpr 208 57 l = l := xpr_no (by decide +kernel)
theorem r_208_60 : xfetch 208 60 = some (.iconst 0, 1) := by decide +kernel
theorem n_208_60 : ∀ l, xpr 208 60 l = l := xpr_no (by decide +kernel)
theorem r_208_61 : xfetch 208 61 = some (.ireturn, 1) := by decide +kernel
theorem n_208_61 : ∀ l, xpr 208 61 l = l := xpr_no (by decide +kernel)
theorem r_208_62 : xfetch 208 62 = some (.aload_n 0, 1) := by decide +kernel
theorem n_208_62 : ∀ l, xpr 208 62 l = l := xpr_no (by decide +kernel)
theorem r_208_63 : xfetch 208 63 = some (.invokevirtual 152, 3) := by decide +kernel
theorem n_208_63 : ∀ l, xpr 208 63 l = l := xpr_no (by decide +kernel)
theorem r_208_66 : xfetch 208 66 = some (.aload_n 0, 1) := by decide +kernel
theorem n_208_66 : ∀ l, xpr 208 66 l = l := xpr_no (by decide +kernel)
theorem r_208_67 : xfetch 208 67 = some (.iload_n 1, 1) := by decide +kernel
theorem n_208_67 : ∀ l, xpr 208 67 l = l := xpr_no (by decide +kernel)
theorem r_208_68 : xfetch 208 68 = some (.iload_n 2, 1) := by decide +kernel
theorem n_208_68 : ∀ l, xpr 208 68 l = l := xpr_no (by decide +kernel)
theorem r_208_69 : xfetch 208 69 = some (.iload_n 3, 1) := by decide +kernel
theorem n_208_69 : ∀ l, xpr 208 69 l = l := xpr_no (by decide +kernel)
theorem r_208_70 : xfetch 208 70 = some (.invokevirtual 168, 3) := by decide +kernel
theorem n_208_70 : ∀ l, xpr 208 70 l = l := xpr_no (by decide +kernel)
theorem r_208_73 : xfetch 208 73 = some (.ireturn, 1) := by decide +kernel
theorem n_208_73 : ∀ l, xpr 208 73 l = l := xpr_no (by decide +kernel)
theorem v_Model_fieldInfo_0 {S : Option (Nat × (Nat → Int32))} {s : zSt} {Q : Option Value ⊕ Nat → zSt → Prop} {x1 : Int} {x2 : Int} {x3 : Int} 
    (h : rng x1 ∧ (rng ((zI s 253 0) - 1) ∧ ((¬ (0 ≤ x1 ∧ x1 ≤ ((zI s 253 0) - 1)) → wp S 208 28 [(0, rf 252), (1, iv x1), (2, iv x2), (3, iv x3)] [iv 0] s Q) ∧ (0 ≤ x1 ∧ x1 ≤ ((zI s 253 0) - 1) → (0 ≤ ((1 + (26 * x1)) + 1) ∧ ((1 + (26 * x1)) + 1) < 1199) ∧ (rng x2 ∧ (rng ((zI s 253 ((1 + (26 * x1)) + 1)) - 1) ∧ ((¬ (0 ≤ x2 ∧ x2 ≤ ((zI s 253 ((1 + (26 * x1)) + 1)) - 1)) → wp S 208 28 [(0, rf 252), (1, iv x1), (2, iv x2), (3, iv x3)] [iv 0] s Q) ∧ (0 ≤ x2 ∧ x2 ≤ ((zI s 253 ((1 + (26 * x1)) + 1)) - 1) → wp S 208 28 [(0, rf 252), (1, iv x1), (2, iv x2), (3, iv x3)] [iv 1] s Q)))))))) :
    wp S 208 0 [(0, rf 252), (1, iv x1), (2, iv x2), (3, iv x3)] [] s Q := by
  refine i_aload_n (a := 252) r_208_0 (n_208_0 _) rfl ?_
  refine i_iload_n (x := x1) r_208_1 (n_208_1 _) rfl ?_
  obtain ⟨g1, h⟩ := h
  obtain ⟨g2, h⟩ := h
  refine wp_virt (b := 252) (rest := []) (Ls := [(0, rf 252), (1, iv x1)]) r_208_2 (n_208_2 _) rfl ⟨rfl, rfl, by decide, by decide⟩ rfl rfl lf_252 ⟨rfl, Nat.le_of_ble_eq_true rfl, Nat.le_of_ble_eq_true rfl⟩ rfl (K_Model_isRecord g1 g2) ?_
  rintro _ _ ⟨rfl, rfl⟩
  refine .inl ⟨some (iv (bi (0 ≤ x1 ∧ x1 ≤ ((zI s 253 0) - 1)))), rfl, ?_⟩
  show wp S 208 5 [(0, rf 252), (1, iv x1), (2, iv x2), (3, iv x3)] [iv (bi (0 ≤ x1 ∧ x1 ≤ ((zI s 253 0) - 1)))] s Q
  refine i_if (t := 27) r_208_5 (n_208_5 _) rfl (TB_eq) (fun c4 => ?_) (fun c4 => ?_)
  · replace h := h.1 c4
    refine i_iconst r_208_27 (n_208_27 _) ?_
    exact wp_pr (l' := [(0, rf 252), (1, iv x1), (2, iv x2), (3, iv x3)]) rfl h
  · replace h := h.2 c4
    refine i_iload_n (x := x2) r_208_8 (n_208_8 _) rfl ?_
    refine i_iconst r_208_9 (n_208_9 _) ?_
    refine i_aload_n (a := 252) r_208_10 (n_208_10 _) rfl ?_
    refine i_iload_n (x := x1) r_208_11 (n_208_11 _) rfl ?_
    obtain ⟨g5, h⟩ := h
    refine wp_virt (b := 252) (rest := [iv 0, iv x2]) (Ls := [(0, rf 252), (1, iv x1)]) r_208_12 (n_208_12 _) rfl ⟨rfl, rfl, by decide, by decide⟩ rfl rfl lf_252 ⟨rfl, Nat.le_of_ble_eq_true rfl, Nat.le_of_ble_eq_true rfl⟩ rfl (K_Model_fieldsOf g5) ?_
    rintro _ _ ⟨rfl, rfl⟩
    refine .inl ⟨some (iv (zI s 253 ((1 + (26 * x1)) + 1))), rfl, ?_⟩
    show wp S 208 15 [(0, rf 252), (1, iv x1), (2, iv x2), (3, iv x3)] [iv (zI s 253 ((1 + (26 * x1)) + 1)), iv 0, iv x2] s Q
    refine wp_rd (a := 253) (j := ((1 + (26 * x1)) + 1)) (fun q7 => ?_)
    refine i_iconst r_208_15 (n_208_15 _) ?_
    refine i_isub r_208_16 (n_208_16 _) ?_
    obtain ⟨g8, h⟩ := h
    obtain ⟨g9, h⟩ := h
    refine wp_stat (rest := []) (Ls := [(0, iv x2), (1, iv 0), (2, iv ((zI s 253 ((1 + (26 * x1)) + 1)) - 1))]) r_208_17 (n_208_17 _) rfl ⟨rfl, by decide, by decide, by decide⟩ rfl rfl ⟨rfl, Nat.le_of_ble_eq_true rfl, Nat.le_of_ble_eq_true rfl⟩ rfl (K_Model_within g8 ⟨by omega, by omega⟩ g9) ?_
    rintro _ _ ⟨rfl, rfl⟩
    refine .inl ⟨some (iv (bi (0 ≤ x2 ∧ x2 ≤ ((zI s 253 ((1 + (26 * x1)) + 1)) - 1)))), rfl, ?_⟩
    show wp S 208 20 [(0, rf 252), (1, iv x1), (2, iv x2), (3, iv x3)] [iv (bi (0 ≤ x2 ∧ x2 ≤ ((zI s 253 ((1 + (26 * x1)) + 1)) - 1)))] s Q
    refine i_if (t := 27) r_208_20 (n_208_20 _) rfl (TB_eq) (fun c11 => ?_) (fun c11 => ?_)
    · replace h := h.1 c11
      refine i_iconst r_208_27 (n_208_27 _) ?_
      exact wp_pr (l' := [(0, rf 252), (1, iv x1), (2, iv x2), (3, iv x3)]) rfl h
    · replace h := h.2 c11
      refine i_iconst r_208_23 (n_208_23 _) ?_
      refine i_goto (t := 28) r_208_24 (n_208_24 _) rfl ?_
      exact wp_pr (l' := [(0, rf 252), (1, iv x1), (2, iv x2), (3, iv x3)]) rfl h
theorem v_Model_fieldInfo_28 {S : Option (Nat × (Nat → Int32))} {s : zSt} {Q : Option Value ⊕ Nat → zSt → Prop} {x1 : Int} {x2 : Int} {x3 : Int} {x90 : Int} 
    (h : rng x90 ∧ ((x90 ≠ 0 → rng x3 ∧ ((0 ≤ x3 ∧ x3 ≤ 5 → wp S 193 0 [(0, rf 252)] [] (zwI s 252 3 0) (fun o7 s7 => zkU (wp S 209 0 [(0, rf 252), (1, iv x1), (2, iv x2), (3, iv x3)] [] s7 (fun o9 s9 => zkI (fun y9 => Q (rI y9) s9) (fun e9 => False) o9)) (fun e7 => False) o7)) ∧ (¬ (0 ≤ x3 ∧ x3 ≤ 5) → Q (rI 0) (zwI s 252 3 2)))) ∧ (x90 = 0 → Q (rI 0) (zwI s 252 3 1)))) :
    wp S 208 28 [(0, rf 252), (1, iv x1), (2, iv x2), (3, iv x3)] [iv x90] s Q := by
  refine i_istore (l' := [(0, rf 252), (1, iv x1), (2, iv x2), (3, iv x3), (4, iv x90)]) r_208_28 rfl (by decide) rfl ?_
  refine i_aload_n (a := 252) r_208_30 (n_208_30 _) rfl ?_
  refine i_iload (x := x90) r_208_31 (n_208_31 _) rfl ?_
  obtain ⟨g1, h⟩ := h
  refine i_if (t := 40) r_208_33 (n_208_33 _) rfl (T_ne g1 ⟨by omega, by omega⟩) (fun c2 => ?_) (fun c2 => ?_)
  · replace h := h.1 c2
    refine i_iload_n (x := x3) r_208_40 (n_208_40 _) rfl ?_
    refine i_iconst r_208_41 (n_208_41 _) ?_
    refine i_iconst r_208_42 (n_208_42 _) ?_
    obtain ⟨g3, h⟩ := h
    refine wp_stat (rest := [rf 252]) (Ls := [(0, iv x3), (1, iv 0), (2, iv 5)]) r_208_43 (n_208_43 _) rfl ⟨rfl, by decide, by decide, by decide⟩ rfl rfl ⟨rfl, Nat.le_of_ble_eq_true rfl, Nat.le_of_ble_eq_true rfl⟩ rfl (K_Model_within g3 ⟨by omega, by omega⟩ ⟨by omega, by omega⟩) ?_
    rintro _ _ ⟨rfl, rfl⟩
    refine .inl ⟨some (iv (bi (0 ≤ x3 ∧ x3 ≤ 5))), rfl, ?_⟩
    show wp S 208 46 [(0, rf 252), (1, iv x1), (2, iv x2), (3, iv x3), (4, iv x90)] [iv (bi (0 ≤ x3 ∧ x3 ≤ 5)), rf 252] s Q
    refine i_if (t := 53) r_208_46 (n_208_46 _) rfl (TB_ne) (fun c5 => ?_) (fun c5 => ?_)
    · replace h := h.1 c5
      refine i_iconst r_208_53 (n_208_53 _) ?_
      refine wp_virt (b := 252) (rest := []) (Ls := [(0, rf 252), (1, iv 0)]) r_208_54 (n_208_54 _) rfl ⟨rfl, rfl, by decide, by decide⟩ rfl rfl lf_252 ⟨rfl, Nat.le_of_ble_eq_true rfl, Nat.le_of_ble_eq_true rfl⟩ rfl K_Model_refused0 ?_
      rintro _ _ ⟨rfl, rfl⟩
      refine .inl ⟨some (iv 0), rfl, ?_⟩
      show wp S 208 57 [(0, rf 252), (1, iv x1), (2, iv x2), (3, iv x3), (4, iv x90)] [iv 0] (zwI s 252 3 0) Q
      refine i_if (t := 62) r_208_57 (n_208_57 _) rfl (T_eq ⟨by omega, by omega⟩ ⟨by omega, by omega⟩) (fun _ => ?_) (fun z => absurd z (by omega))
      refine i_aload_n (a := 252) r_208_62 (n_208_62 _) rfl ?_
      refine wp_virt (b := 252) (rest := []) (Ls := [(0, rf 252)]) r_208_63 (n_208_63 _) rfl ⟨rfl, rfl, by decide, by decide⟩ rfl rfl lf_252 ⟨rfl, Nat.le_of_ble_eq_true rfl, Nat.le_of_ble_eq_true rfl⟩ rfl h ?_
      intro o7 s7 h
      rcases h with ⟨rfl, h⟩ | ⟨e7, rfl, h⟩
      · refine .inl ⟨none, rfl, ?_⟩
        refine i_aload_n (a := 252) r_208_66 (n_208_66 _) rfl ?_
        refine i_iload_n (x := x1) r_208_67 (n_208_67 _) rfl ?_
        refine i_iload_n (x := x2) r_208_68 (n_208_68 _) rfl ?_
        refine i_iload_n (x := x3) r_208_69 (n_208_69 _) rfl ?_
        refine wp_virt (b := 252) (rest := []) (Ls := [(0, rf 252), (1, iv x1), (2, iv x2), (3, iv x3)]) r_208_70 (n_208_70 _) rfl ⟨rfl, rfl, by decide, by decide⟩ rfl rfl lf_252 ⟨rfl, Nat.le_of_ble_eq_true rfl, Nat.le_of_ble_eq_true rfl⟩ rfl h ?_
        intro o9 s9 h
        rcases h with ⟨y9, q10, rfl, h⟩ | ⟨e9, rfl, h⟩
        · refine .inl ⟨some (iv y9), rfl, ?_⟩
          show wp S 208 73 [(0, rf 252), (1, iv x1), (2, iv x2), (3, iv x3), (4, iv x90)] [iv y9] s9 Q
          exact i_ireturn r_208_73 (n_208_73 _) rfl h
        · skip
          exact h.elim
      · skip
        exact h.elim
    · replace h := h.2 c5
      refine i_iconst r_208_49 (n_208_49 _) ?_
      refine i_goto (t := 54) r_208_50 (n_208_50 _) rfl ?_
      refine wp_virt (b := 252) (rest := []) (Ls := [(0, rf 252), (1, iv 2)]) r_208_54 (n_208_54 _) rfl ⟨rfl, rfl, by decide, by decide⟩ rfl rfl lf_252 ⟨rfl, Nat.le_of_ble_eq_true rfl, Nat.le_of_ble_eq_true rfl⟩ rfl (K_Model_refused1 ⟨by omega, by omega⟩ (by omega)) ?_
      rintro _ _ ⟨rfl, rfl⟩
      refine .inl ⟨some (iv 1), rfl, ?_⟩
      show wp S 208 57 [(0, rf 252), (1, iv x1), (2, iv x2), (3, iv x3), (4, iv x90)] [iv 1] (zwI s 252 3 2) Q
      refine i_if (t := 62) r_208_57 (n_208_57 _) rfl (T_eq ⟨by omega, by omega⟩ ⟨by omega, by omega⟩) (fun z => absurd z (by omega)) (fun _ => ?_)
      refine i_iconst r_208_60 (n_208_60 _) ?_
      exact i_ireturn r_208_61 (n_208_61 _) rfl h
  · replace h := h.2 c2
    refine i_iconst r_208_36 (n_208_36 _) ?_
    refine i_goto (t := 54) r_208_37 (n_208_37 _) rfl ?_
    refine wp_virt (b := 252) (rest := []) (Ls := [(0, rf 252), (1, iv 1)]) r_208_54 (n_208_54 _) rfl ⟨rfl, rfl, by decide, by decide⟩ rfl rfl lf_252 ⟨rfl, Nat.le_of_ble_eq_true rfl, Nat.le_of_ble_eq_true rfl⟩ rfl (K_Model_refused1 ⟨by omega, by omega⟩ (by omega)) ?_
    rintro _ _ ⟨rfl, rfl⟩
    refine .inl ⟨some (iv 1), rfl, ?_⟩
    show wp S 208 57 [(0, rf 252), (1, iv x1), (2, iv x2), (3, iv x3), (4, iv x90)] [iv 1] (zwI s 252 3 1) Q
    refine i_if (t := 62) r_208_57 (n_208_57 _) rfl (T_eq ⟨by omega, by omega⟩ ⟨by omega, by omega⟩) (fun z => absurd z (by omega)) (fun _ => ?_)
    refine i_iconst r_208_60 (n_208_60 _) ?_
    exact i_ireturn r_208_61 (n_208_61 _) rfl h
theorem r_209_0 : xfetch 209 0 = some (.iload_n 3, 1) := by decide +kernel
theorem n_209_0 : ∀ l, xpr 209 0 l = l := xpr_no (by decide +kernel)
theorem r_209_1 : xfetch 209 1 = some (.iconst 3, 1) := by decide +kernel
theorem n_209_1 : ∀ l, xpr 209 1 l = l := xpr_no (by decide +kernel)
theorem r_209_2 : xfetch 209 2 = some (.if_icmp .ge 16, 3) := by decide +kernel
theorem n_209_2 : ∀ l, xpr 209 2 l = l := xpr_no (by decide +kernel)
theorem r_209_5 : xfetch 209 5 = some (.aload_n 0, 1) := by decide +kernel
theorem n_209_5 : ∀ l, xpr 209 5 l = l := xpr_no (by decide +kernel)
theorem r_209_6 : xfetch 209 6 = some (.getfield 7, 3) := by decide +kernel
theorem n_209_6 : ∀ l, xpr 209 6 l = l := xpr_no (by decide +kernel)
theorem r_209_9 : xfetch 209 9 = some (.iload_n 1, 1) := by decide +kernel
theorem n_209_9 : ∀ l, xpr 209 9 l = l := xpr_no (by decide +kernel)
theorem r_209_10 : xfetch 209 10 = some (.iload_n 2, 1) := by decide +kernel
theorem n_209_10 : ∀ l, xpr 209 10 l = l := xpr_no (by decide +kernel)
theorem r_209_11 : xfetch 209 11 = some (.invokestatic 102, 3) := by decide +kernel
theorem n_209_11 : ∀ l, xpr 209 11 l = l := xpr_no (by decide +kernel)
theorem r_209_14 : xfetch 209 14 = some (.iload_n 3, 1) := by decide +kernel
theorem n_209_14 : ∀ l, xpr 209 14 l = l := xpr_no (by decide +kernel)
theorem r_209_15 : xfetch 209 15 = some (.iadd, 1) := by decide +kernel
theorem n_209_15 : ∀ l, xpr 209 15 l = l := xpr_no (by decide +kernel)
theorem r_209_16 : xfetch 209 16 = some (.iaload, 1) := by decide +kernel
theorem n_209_16 : ∀ l, xpr 209 16 l = l := xpr_no (by decide +kernel)
theorem r_209_17 : xfetch 209 17 = some (.ireturn, 1) := by decide +kernel
theorem n_209_17 : ∀ l, xpr 209 17 l = l := xpr_no (by decide +kernel)
theorem r_209_18 : xfetch 209 18 = some (.aload_n 0, 1) := by decide +kernel
theorem n_209_18 : ∀ l, xpr 209 18 l = l := xpr_no (by decide +kernel)
theorem r_209_19 : xfetch 209 19 = some (.invokevirtual 122, 3) := by decide +kernel
theorem n_209_19 : ∀ l, xpr 209 19 l = l := xpr_no (by decide +kernel)
theorem r_209_22 : xfetch 209 22 = some (.aload_n 0, 1) := by decide +kernel
theorem n_209_22 : ∀ l, xpr 209 22 l = l := xpr_no (by decide +kernel)
theorem r_209_23 : xfetch 209 23 = some (.iload_n 1, 1) := by decide +kernel
theorem n_209_23 : ∀ l, xpr 209 23 l = l := xpr_no (by decide +kernel)
theorem r_209_24 : xfetch 209 24 = some (.invokevirtual 125, 3) := by decide +kernel
theorem n_209_24 : ∀ l, xpr 209 24 l = l := xpr_no (by decide +kernel)
theorem r_209_27 : xfetch 209 27 = some (.pop, 1) := by decide +kernel
theorem n_209_27 : ∀ l, xpr 209 27 l = l := xpr_no (by decide +kernel)
theorem r_209_28 : xfetch 209 28 = some (.iload_n 3, 1) := by decide +kernel
theorem n_209_28 : ∀ l, xpr 209 28 l = l := xpr_no (by decide +kernel)
theorem r_209_29 : xfetch 209 29 = some (.iconst 3, 1) := by decide +kernel
theorem n_209_29 : ∀ l, xpr 209 29 l = l := xpr_no (by decide +kernel)
theorem r_209_30 : xfetch 209 30 = some (.if_icmp .ne 12, 3) := by decide +kernel
theorem n_209_30 : ∀ l, xpr 209 30 l = l := xpr_no (by decide +kernel)
theorem r_209_33 : xfetch 209 33 = some (.aload_n 0, 1) := by decide +kernel
theorem n_209_33 : ∀ l, xpr 209 33 l = l := xpr_no (by decide +kernel)
theorem r_209_34 : xfetch 209 34 = some (.getfield 49, 3) := by decide +kernel
theorem n_209_34 : ∀ l, xpr 209 34 l = l := xpr_no (by decide +kernel)
theorem r_209_37 : xfetch 209 37 = some (.iload_n 2, 1) := by decide +kernel
theorem n_209_37 : ∀ l, xpr 209 37 l = l := xpr_no (by decide +kernel)
theorem r_209_38 : xfetch 209 38 = some (.iaload, 1) := by decide +kernel
theorem n_209_38 : ∀ l, xpr 209 38 l = l := xpr_no (by decide +kernel)
theorem r_209_39 : xfetch 209 39 = some (.goto 33, 3) := by decide +kernel
theorem n_209_39 : ∀ l, xpr 209 39 l = l := xpr_no (by decide +kernel)
theorem r_209_42 : xfetch 209 42 = some (.iload_n 3, 1) := by decide +kernel
theorem n_209_42 : ∀ l, xpr 209 42 l = l := xpr_no (by decide +kernel)
theorem r_209_43 : xfetch 209 43 = some (.iconst 4, 1) := by decide +kernel
theorem n_209_43 : ∀ l, xpr 209 43 l = l := xpr_no (by decide +kernel)
theorem r_209_44 : xfetch 209 44 = some (.if_icmp .ne 12, 3) := by decide +kernel
theorem n_209_44 : ∀ l, xpr 209 44 l = l := xpr_no (by decide +kernel)
theorem r_209_47 : xfetch 209 47 = some (.aload_n 0, 1) := by decide +kernel
theorem n_209_47 : ∀ l, xpr 209 47 l = l := xpr_no (by decide +kernel)
theorem r_209_48 : xfetch 209 48 = some (.getfield 52, 3) := by decide +kernel
theorem n_209_48 : ∀ l, xpr 209 48 l = l := xpr_no (by decide +kernel)
theorem r_209_51 : xfetch 209 51 = some (.iload_n 2, 1) := by decide +kernel
theorem n_209_51 : ∀ l, xpr 209 51 l = l := xpr_no (by decide +kernel)
theorem r_209_52 : xfetch 209 52 = some (.iaload, 1) := by decide +kernel
theorem n_209_52 : ∀ l, xpr 209 52 l = l := xpr_no (by decide +kernel)
theorem r_209_53 : xfetch 209 53 = some (.goto 19, 3) := by decide +kernel
theorem n_209_53 : ∀ l, xpr 209 53 l = l := xpr_no (by decide +kernel)
theorem r_209_56 : xfetch 209 56 = some (.aload_n 0, 1) := by decide +kernel
theorem n_209_56 : ∀ l, xpr 209 56 l = l := xpr_no (by decide +kernel)
theorem r_209_57 : xfetch 209 57 = some (.aload_n 0, 1) := by decide +kernel
theorem n_209_57 : ∀ l, xpr 209 57 l = l := xpr_no (by decide +kernel)
theorem r_209_58 : xfetch 209 58 = some (.getfield 7, 3) := by decide +kernel
theorem n_209_58 : ∀ l, xpr 209 58 l = l := xpr_no (by decide +kernel)
theorem r_209_61 : xfetch 209 61 = some (.iload_n 1, 1) := by decide +kernel
theorem n_209_61 : ∀ l, xpr 209 61 l = l := xpr_no (by decide +kernel)
theorem r_209_62 : xfetch 209 62 = some (.iload_n 2, 1) := by decide +kernel
theorem n_209_62 : ∀ l, xpr 209 62 l = l := xpr_no (by decide +kernel)
theorem r_209_63 : xfetch 209 63 = some (.invokestatic 102, 3) := by decide +kernel
theorem n_209_63 : ∀ l, xpr 209 63 l = l := xpr_no (by decide +kernel)
theorem r_209_66 : xfetch 209 66 = some (.iconst 1, 1) := by decide +kernel
theorem n_209_66 : ∀ l, xpr 209 66 l = l := xpr_no (by decide +kernel)
theorem r_209_67 : xfetch 209 67 = some (.iadd, 1) := by decide +kernel
theorem n_209_67 : ∀ l, xpr 209 67 l = l := xpr_no (by decide +kernel)
theorem r_209_68 : xfetch 209 68 = some (.iaload, 1) := by decide +kernel
theorem n_209_68 : ∀ l, xpr 209 68 l = l := xpr_no (by decide +kernel)
theorem r_209_69 : xfetch 209 69 = some (.invokevirtual 115, 3) := by decide +kernel
theorem n_209_69 : ∀ l, xpr 209 69 l = l := xpr_no (by decide +kernel)
theorem r_209_72 : xfetch 209 72 = some (.ireturn, 1) := by decide +kernel
theorem n_209_72 : ∀ l, xpr 209 72 l = l := xpr_no (by decide +kernel)
theorem v_Model_fieldBy_0 {S : Option (Nat × (Nat → Int32))} {s : zSt} {Q : Option Value ⊕ Nat → zSt → Prop} {x1 : Int} {x2 : Int} {x3 : Int} 
    (h : rng x3 ∧ ((3 ≤ x3 → wp S 194 0 [(0, rf 252)] [] s (fun o3 s3 => zkU (wp S 195 0 [(0, rf 252), (1, iv x1)] [] s3 (fun o5 s5 => zkI (fun y5 => (x3 ≠ 3 → (x3 ≠ 4 → (0 ≤ ((((1 + (26 * x1)) + 2) + (3 * x2)) + 1) ∧ ((((1 + (26 * x1)) + 2) + (3 * x2)) + 1) < 1199) ∧ (((zI s5 253 ((((1 + (26 * x1)) + 2) + (3 * x2)) + 1)) < 106) ∧ (Q (rI (zel (zI s5 253 ((((1 + (26 * x1)) + 2) + (3 * x2)) + 1)) (zI s5 257 ((zI s5 253 ((((1 + (26 * x1)) + 2) + (3 * x2)) + 1)) - 100)))) s5))) ∧ (x3 = 4 → (0 ≤ x2 ∧ x2 < 8) ∧ (Q (rI (zI s5 267 x2)) s5))) ∧ (x3 = 3 → (0 ≤ x2 ∧ x2 < 8) ∧ (Q (rI (zI s5 266 x2)) s5))) (fun e5 => False) o5)) (fun e3 => False) o3)) ∧ (x3 < 3 → (0 ≤ ((((1 + (26 * x1)) + 2) + (3 * x2)) + x3) ∧ ((((1 + (26 * x1)) + 2) + (3 * x2)) + x3) < 1199) ∧ (Q (rI (zI s 253 ((((1 + (26 * x1)) + 2) + (3 * x2)) + x3))) s)))) :
    wp S 209 0 [(0, rf 252), (1, iv x1), (2, iv x2), (3, iv x3)] [] s Q := by
  refine i_iload_n (x := x3) r_209_0 (n_209_0 _) rfl ?_
  refine i_iconst r_209_1 (n_209_1 _) ?_
  obtain ⟨g1, h⟩ := h
  refine i_icmp (t := 18) r_209_2 (n_209_2 _) rfl (T_ge g1 ⟨by omega, by omega⟩) (fun c2 => ?_) (fun c2 => ?_)
  · replace h := h.1 c2
    refine i_aload_n (a := 252) r_209_18 (n_209_18 _) rfl ?_
    refine wp_virt (b := 252) (rest := []) (Ls := [(0, rf 252)]) r_209_19 (n_209_19 _) rfl ⟨rfl, rfl, by decide, by decide⟩ rfl rfl lf_252 ⟨rfl, Nat.le_of_ble_eq_true rfl, Nat.le_of_ble_eq_true rfl⟩ rfl h ?_
    intro o3 s3 h
    rcases h with ⟨rfl, h⟩ | ⟨e3, rfl, h⟩
    · refine .inl ⟨none, rfl, ?_⟩
      refine i_aload_n (a := 252) r_209_22 (n_209_22 _) rfl ?_
      refine i_iload_n (x := x1) r_209_23 (n_209_23 _) rfl ?_
      refine wp_virt (b := 252) (rest := []) (Ls := [(0, rf 252), (1, iv x1)]) r_209_24 (n_209_24 _) rfl ⟨rfl, rfl, by decide, by decide⟩ rfl rfl lf_252 ⟨rfl, Nat.le_of_ble_eq_true rfl, Nat.le_of_ble_eq_true rfl⟩ rfl h ?_
      intro o5 s5 h
      rcases h with ⟨y5, q6, rfl, h⟩ | ⟨e5, rfl, h⟩
      · refine .inl ⟨some (iv y5), rfl, ?_⟩
        show wp S 209 27 [(0, rf 252), (1, iv x1), (2, iv x2), (3, iv x3)] [iv y5] s5 Q
        refine i_pop r_209_27 (n_209_27 _) rfl ?_
        refine i_iload_n (x := x3) r_209_28 (n_209_28 _) rfl ?_
        refine i_iconst r_209_29 (n_209_29 _) ?_
        refine i_icmp (t := 42) r_209_30 (n_209_30 _) rfl (T_ne g1 ⟨by omega, by omega⟩) (fun c7 => ?_) (fun c7 => ?_)
        · replace h := h.1 c7
          refine i_iload_n (x := x3) r_209_42 (n_209_42 _) rfl ?_
          refine i_iconst r_209_43 (n_209_43 _) ?_
          refine i_icmp (t := 56) r_209_44 (n_209_44 _) rfl (T_ne g1 ⟨by omega, by omega⟩) (fun c8 => ?_) (fun c8 => ?_)
          · replace h := h.1 c8
            refine i_aload_n (a := 252) r_209_56 (n_209_56 _) rfl ?_
            refine i_aload_n (a := 252) r_209_57 (n_209_57 _) rfl ?_
            refine i_getR (a := 252) (b := 253) r_209_58 (n_209_58 _) rfl rfl rfl (by omega) lf_252 (by omega) ?_
            refine i_iload_n (x := x1) r_209_61 (n_209_61 _) rfl ?_
            refine i_iload_n (x := x2) r_209_62 (n_209_62 _) rfl ?_
            refine wp_stat (rest := [rf 253, rf 252]) (Ls := [(0, iv x1), (1, iv x2)]) r_209_63 (n_209_63 _) rfl ⟨rfl, by decide, by decide, by decide⟩ rfl rfl ⟨rfl, Nat.le_of_ble_eq_true rfl, Nat.le_of_ble_eq_true rfl⟩ rfl K_Model_field ?_
            rintro _ _ ⟨rfl, rfl⟩
            refine .inl ⟨some (iv (((1 + (26 * x1)) + 2) + (3 * x2))), rfl, ?_⟩
            show wp S 209 66 [(0, rf 252), (1, iv x1), (2, iv x2), (3, iv x3)] [iv (((1 + (26 * x1)) + 2) + (3 * x2)), rf 253, rf 252] s5 Q
            refine i_iconst r_209_66 (n_209_66 _) ?_
            refine i_iadd r_209_67 (n_209_67 _) ?_
            obtain ⟨g10, h⟩ := h
            refine i_iaload (a := 253) (j := (((1 + (26 * x1)) + 2) + (3 * x2)) + 1) r_209_68 (n_209_68 _) lf_253 ⟨by omega, by omega⟩ (by omega) (by omega) (fun q11 => ?_)
            obtain ⟨g12, h⟩ := h
            refine wp_virt (b := 252) (rest := []) (Ls := [(0, rf 252), (1, iv (zI s5 253 ((((1 + (26 * x1)) + 2) + (3 * x2)) + 1)))]) r_209_69 (n_209_69 _) rfl ⟨rfl, rfl, by decide, by decide⟩ rfl rfl lf_252 ⟨rfl, Nat.le_of_ble_eq_true rfl, Nat.le_of_ble_eq_true rfl⟩ rfl (K_Model_elementSize q11 g12) ?_
            rintro _ _ ⟨rfl, rfl⟩
            refine .inl ⟨some (iv (zel (zI s5 253 ((((1 + (26 * x1)) + 2) + (3 * x2)) + 1)) (zI s5 257 ((zI s5 253 ((((1 + (26 * x1)) + 2) + (3 * x2)) + 1)) - 100)))), rfl, ?_⟩
            show wp S 209 72 [(0, rf 252), (1, iv x1), (2, iv x2), (3, iv x3)] [iv (zel (zI s5 253 ((((1 + (26 * x1)) + 2) + (3 * x2)) + 1)) (zI s5 257 ((zI s5 253 ((((1 + (26 * x1)) + 2) + (3 * x2)) + 1)) - 100)))] s5 Q
            exact i_ireturn r_209_72 (n_209_72 _) rfl h
          · replace h := h.2 c8
            refine i_aload_n (a := 252) r_209_47 (n_209_47 _) rfl ?_
            refine i_getR (a := 252) (b := 267) r_209_48 (n_209_48 _) rfl rfl rfl (by omega) lf_252 (by omega) ?_
            refine i_iload_n (x := x2) r_209_51 (n_209_51 _) rfl ?_
            obtain ⟨g14, h⟩ := h
            refine i_iaload (a := 267) (j := x2) r_209_52 (n_209_52 _) lf_267 ⟨by omega, by omega⟩ (by omega) (by omega) (fun q15 => ?_)
            refine i_goto (t := 72) r_209_53 (n_209_53 _) rfl ?_
            exact i_ireturn r_209_72 (n_209_72 _) rfl h
        · replace h := h.2 c7
          refine i_aload_n (a := 252) r_209_33 (n_209_33 _) rfl ?_
          refine i_getR (a := 252) (b := 266) r_209_34 (n_209_34 _) rfl rfl rfl (by omega) lf_252 (by omega) ?_
          refine i_iload_n (x := x2) r_209_37 (n_209_37 _) rfl ?_
          obtain ⟨g16, h⟩ := h
          refine i_iaload (a := 266) (j := x2) r_209_38 (n_209_38 _) lf_266 ⟨by omega, by omega⟩ (by omega) (by omega) (fun q17 => ?_)
          refine i_goto (t := 72) r_209_39 (n_209_39 _) rfl ?_
          exact i_ireturn r_209_72 (n_209_72 _) rfl h
      · skip
        exact h.elim
    · skip
      exact h.elim
  · replace h := h.2 c2
    refine i_aload_n (a := 252) r_209_5 (n_209_5 _) rfl ?_
    refine i_getR (a := 252) (b := 253) r_209_6 (n_209_6 _) rfl rfl rfl (by omega) lf_252 (by omega) ?_
    refine i_iload_n (x := x1) r_209_9 (n_209_9 _) rfl ?_
    refine i_iload_n (x := x2) r_209_10 (n_209_10 _) rfl ?_
    refine wp_stat (rest := [rf 253]) (Ls := [(0, iv x1), (1, iv x2)]) r_209_11 (n_209_11 _) rfl ⟨rfl, by decide, by decide, by decide⟩ rfl rfl ⟨rfl, Nat.le_of_ble_eq_true rfl, Nat.le_of_ble_eq_true rfl⟩ rfl K_Model_field ?_
    rintro _ _ ⟨rfl, rfl⟩
    refine .inl ⟨some (iv (((1 + (26 * x1)) + 2) + (3 * x2))), rfl, ?_⟩
    show wp S 209 14 [(0, rf 252), (1, iv x1), (2, iv x2), (3, iv x3)] [iv (((1 + (26 * x1)) + 2) + (3 * x2)), rf 253] s Q
    refine i_iload_n (x := x3) r_209_14 (n_209_14 _) rfl ?_
    refine i_iadd r_209_15 (n_209_15 _) ?_
    obtain ⟨g19, h⟩ := h
    refine i_iaload (a := 253) (j := (((1 + (26 * x1)) + 2) + (3 * x2)) + x3) r_209_16 (n_209_16 _) lf_253 ⟨by omega, by omega⟩ (by omega) (by omega) (fun q20 => ?_)
    exact i_ireturn r_209_17 (n_209_17 _) rfl h
theorem r_210_0 : xfetch 210 0 = some (.aload_n 0, 1) := by decide +kernel
theorem n_210_0 : ∀ l, xpr 210 0 l = l := xpr_no (by decide +kernel)
theorem r_210_1 : xfetch 210 1 = some (.invokevirtual 152, 3) := by decide +kernel
theorem n_210_1 : ∀ l, xpr 210 1 l = l := xpr_no (by decide +kernel)
theorem r_210_4 : xfetch 210 4 = some (.aload_n 0, 1) := by decide +kernel
theorem n_210_4 : ∀ l, xpr 210 4 l = l := xpr_no (by decide +kernel)
theorem r_210_5 : xfetch 210 5 = some (.iload_n 1, 1) := by decide +kernel
theorem n_210_5 : ∀ l, xpr 210 5 l = l := xpr_no (by decide +kernel)
theorem r_210_6 : xfetch 210 6 = some (.invokevirtual 142, 3) := by decide +kernel
theorem n_210_6 : ∀ l, xpr 210 6 l = l := xpr_no (by decide +kernel)
theorem r_210_9 : xfetch 210 9 = some (.ifCond .eq 16, 3) := by decide +kernel
theorem n_210_9 : ∀ l, xpr 210 9 l = l := xpr_no (by decide +kernel)
theorem r_210_12 : xfetch 210 12 = some (.aload_n 0, 1) := by decide +kernel
theorem n_210_12 : ∀ l, xpr 210 12 l = l := xpr_no (by decide +kernel)
theorem r_210_13 : xfetch 210 13 = some (.iload_n 1, 1) := by decide +kernel
theorem n_210_13 : ∀ l, xpr 210 13 l = l := xpr_no (by decide +kernel)
theorem r_210_14 : xfetch 210 14 = some (.iload_n 2, 1) := by decide +kernel
theorem n_210_14 : ∀ l, xpr 210 14 l = l := xpr_no (by decide +kernel)
theorem r_210_15 : xfetch 210 15 = some (.invokevirtual 172, 3) := by decide +kernel
theorem n_210_15 : ∀ l, xpr 210 15 l = l := xpr_no (by decide +kernel)
theorem r_210_18 : xfetch 210 18 = some (.ifCond .eq 7, 3) := by decide +kernel
theorem n_210_18 : ∀ l, xpr 210 18 l = l := xpr_no (by decide +kernel)
theorem r_210_21 : xfetch 210 21 = some (.iconst 1, 1) := by decide +kernel
theorem n_210_21 : ∀ l, xpr 210 21 l = l := xpr_no (by decide +kernel)
theorem r_210_22 : xfetch 210 22 = some (.goto 4, 3) := by decide +kernel
theorem n_210_22 : ∀ l, xpr 210 22 l = l := xpr_no (by decide +kernel)
theorem r_210_25 : xfetch 210 25 = some (.iconst 0, 1) := by decide +kernel
theorem n_210_25 : ∀ l, xpr 210 25 l = l := xpr_no (by decide +kernel)
theorem r_210_26 : xfetch 210 26 = some (.istore 4, 2) := by decide +kernel
theorem n_210_26 : ∀ l, xpr 210 26 l = l := xpr_no (by decide +kernel)
theorem r_210_28 : xfetch 210 28 = some (.aload_n 0, 1) := by decide +kernel
theorem n_210_28 : ∀ l, xpr 210 28 l = l := xpr_no (by decide +kernel)
theorem r_210_29 : xfetch 210 29 = some (.iload 4, 2) := by decide +kernel
theorem n_210_29 : ∀ l, xpr 210 29 l = l := xpr_no (by decide +kernel)
theorem r_210_31 : xfetch 210 31 = some (.ifCond .ne 7, 3) := by decide +kernel
theorem n_210_31 : ∀ l, xpr 210 31 l = l := xpr_no (by decide +kernel)
theorem r_210_34 : xfetch 210 34 = some (.iconst 1, 1) := by decide +kernel
theorem n_210_34 : ∀ l, xpr 210 34 l = l := xpr_no (by decide +kernel)
theorem r_210_35 : xfetch 210 35 = some (.goto 17, 3) := by decide +kernel
theorem n_210_35 : ∀ l, xpr 210 35 l = l := xpr_no (by decide +kernel)
theorem r_210_38 : xfetch 210 38 = some (.iload_n 3, 1) := by decide +kernel
theorem n_210_38 : ∀ l, xpr 210 38 l = l := xpr_no (by decide +kernel)
theorem r_210_39 : xfetch 210 39 = some (.iconst 0, 1) := by decide +kernel
theorem n_210_39 : ∀ l, xpr 210 39 l = l := xpr_no (by decide +kernel)
theorem r_210_40 : xfetch 210 40 = some (.iconst 3, 1) := by decide +kernel
theorem n_210_40 : ∀ l, xpr 210 40 l = l := xpr_no (by decide +kernel)
theorem r_210_41 : xfetch 210 41 = some (.invokestatic 88, 3) := by decide +kernel
theorem n_210_41 : ∀ l, xpr 210 41 l = l := xpr_no (by decide +kernel)
theorem r_210_44 : xfetch 210 44 = some (.ifCond .ne 7, 3) := by decide +kernel
theorem n_210_44 : ∀ l, xpr 210 44 l = l := xpr_no (by decide +kernel)
theorem r_210_47 : xfetch 210 47 = some (.iconst 2, 1) := by decide +kernel
theorem n_210_47 : ∀ l, xpr 210 47 l = l := xpr_no (by decide +kernel)
theorem r_210_48 : xfetch 210 48 = some (.goto 4, 3) := by decide +kernel
theorem n_210_48 : ∀ l, xpr 210 48 l = l := xpr_no (by decide +kernel)
theorem r_210_51 : xfetch 210 51 = some (.iconst 0, 1) := by decide +kernel
theorem n_210_51 : ∀ l, xpr 210 51 l = l := xpr_no (by decide +kernel)
theorem r_210_52 : xfetch 210 52 = some (.invokevirtual 84, 3) := by decide +kernel
theorem r_210_55 : xfetch 210 55 = some (.ifCond .eq 5, 3) := by decide +kernel
theorem n_210_55 : ∀ l, xpr 210 55 l = l := xpr_no (by decide +kernel)
theorem r_210_58 : xfetch 210 58 = some (.iconst 0, 1) := by decide +kernel
theorem n_210_58 : ∀ l, xpr 210 58 l = l := xpr_no (by decide +kernel)
theorem r_210_59 : xfetch 210 59 = some (.ireturn, 1) := by decide +kernel
theorem n_210_59 : ∀ l, xpr 210 59 l = l := xpr_no (by decide +kernel)
theorem r_210_60 : xfetch 210 60 = some (.bipush 40, 2) := by decide +kernel
theorem n_210_60 : ∀ l, xpr 210 60 l = l := xpr_no (by decide +kernel)
theorem r_210_62 : xfetch 210 62 = some (.iload_n 1, 1) := by decide +kernel
theorem n_210_62 : ∀ l, xpr 210 62 l = l := xpr_no (by decide +kernel)
theorem r_210_63 : xfetch 210 63 = some (.imul, 1) := by decide +kernel
theorem n_210_63 : ∀ l, xpr 210 63 l = l := xpr_no (by decide +kernel)
theorem r_210_64 : xfetch 210 64 = some (.iload_n 2, 1) := by decide +kernel
theorem n_210_64 : ∀ l, xpr 210 64 l = l := xpr_no (by decide +kernel)
theorem r_210_65 : xfetch 210 65 = some (.iadd, 1) := by decide +kernel
theorem n_210_65 : ∀ l, xpr 210 65 l = l := xpr_no (by decide +kernel)
theorem r_210_66 : xfetch 210 66 = some (.istore 5, 2) := by decide +kernel
theorem n_210_66 : ∀ l, xpr 210 66 l = l := xpr_no (by decide +kernel)
theorem r_210_68 : xfetch 210 68 = some (.iload_n 3, 1) := by decide +kernel
theorem n_210_68 : ∀ l, xpr 210 68 l = l := xpr_no (by decide +kernel)
theorem r_210_69 : xfetch 210 69 = some (.ifCond .ne 13, 3) := by decide +kernel
theorem n_210_69 : ∀ l, xpr 210 69 l = l := xpr_no (by decide +kernel)
theorem r_210_72 : xfetch 210 72 = some (.aload_n 0, 1) := by decide +kernel
theorem n_210_72 : ∀ l, xpr 210 72 l = l := xpr_no (by decide +kernel)
theorem r_210_73 : xfetch 210 73 = some (.getfield 28, 3) := by decide +kernel
theorem n_210_73 : ∀ l, xpr 210 73 l = l := xpr_no (by decide +kernel)
theorem r_210_76 : xfetch 210 76 = some (.iload 5, 2) := by decide +kernel
theorem n_210_76 : ∀ l, xpr 210 76 l = l := xpr_no (by decide +kernel)
theorem r_210_78 : xfetch 210 78 = some (.iaload, 1) := by decide +kernel
theorem n_210_78 : ∀ l, xpr 210 78 l = l := xpr_no (by decide +kernel)
theorem r_210_79 : xfetch 210 79 = some (.goto 40, 3) := by decide +kernel
theorem n_210_79 : ∀ l, xpr 210 79 l = l := xpr_no (by decide +kernel)
theorem r_210_82 : xfetch 210 82 = some (.iload_n 3, 1) := by decide +kernel
theorem n_210_82 : ∀ l, xpr 210 82 l = l := xpr_no (by decide +kernel)
theorem r_210_83 : xfetch 210 83 = some (.iconst 1, 1) := by decide +kernel
theorem n_210_83 : ∀ l, xpr 210 83 l = l := xpr_no (by decide +kernel)
theorem r_210_84 : xfetch 210 84 = some (.if_icmp .ne 13, 3) := by decide +kernel
theorem n_210_84 : ∀ l, xpr 210 84 l = l := xpr_no (by decide +kernel)
theorem r_210_87 : xfetch 210 87 = some (.aload_n 0, 1) := by decide +kernel
theorem n_210_87 : ∀ l, xpr 210 87 l = l := xpr_no (by decide +kernel)
theorem r_210_88 : xfetch 210 88 = some (.getfield 31, 3) := by decide +kernel
theorem n_210_88 : ∀ l, xpr 210 88 l = l := xpr_no (by decide +kernel)
theorem r_210_91 : xfetch 210 91 = some (.iload 5, 2) := by decide +kernel
theorem n_210_91 : ∀ l, xpr 210 91 l = l := xpr_no (by decide +kernel)
theorem r_210_93 : xfetch 210 93 = some (.iaload, 1) := by decide +kernel
theorem n_210_93 : ∀ l, xpr 210 93 l = l := xpr_no (by decide +kernel)
theorem r_210_94 : xfetch 210 94 = some (.goto 25, 3) := by decide +kernel
theorem n_210_94 : ∀ l, xpr 210 94 l = l := xpr_no (by decide +kernel)
theorem r_210_97 : xfetch 210 97 = some (.iload_n 3, 1) := by decide +kernel
theorem n_210_97 : ∀ l, xpr 210 97 l = l := xpr_no (by decide +kernel)
theorem r_210_98 : xfetch 210 98 = some (.iconst 2, 1) := by decide +kernel
theorem n_210_98 : ∀ l, xpr 210 98 l = l := xpr_no (by decide +kernel)
theorem r_210_99 : xfetch 210 99 = some (.if_icmp .ne 13, 3) := by decide +kernel
theorem n_210_99 : ∀ l, xpr 210 99 l = l := xpr_no (by decide +kernel)
theorem r_210_102 : xfetch 210 102 = some (.aload_n 0, 1) := by decide +kernel
theorem n_210_102 : ∀ l, xpr 210 102 l = l := xpr_no (by decide +kernel)
theorem r_210_103 : xfetch 210 103 = some (.getfield 34, 3) := by decide +kernel
theorem n_210_103 : ∀ l, xpr 210 103 l = l := xpr_no (by decide +kernel)
theorem r_210_106 : xfetch 210 106 = some (.iload 5, 2) := by decide +kernel
theorem n_210_106 : ∀ l, xpr 210 106 l = l := xpr_no (by decide +kernel)
theorem r_210_108 : xfetch 210 108 = some (.iaload, 1) := by decide +kernel
theorem n_210_108 : ∀ l, xpr 210 108 l = l := xpr_no (by decide +kernel)
theorem r_210_109 : xfetch 210 109 = some (.goto 10, 3) := by decide +kernel
theorem n_210_109 : ∀ l, xpr 210 109 l = l := xpr_no (by decide +kernel)
theorem r_210_112 : xfetch 210 112 = some (.aload_n 0, 1) := by decide +kernel
theorem n_210_112 : ∀ l, xpr 210 112 l = l := xpr_no (by decide +kernel)
theorem r_210_113 : xfetch 210 113 = some (.getfield 37, 3) := by decide +kernel
theorem n_210_113 : ∀ l, xpr 210 113 l = l := xpr_no (by decide +kernel)
theorem r_210_116 : xfetch 210 116 = some (.iload 5, 2) := by decide +kernel
theorem n_210_116 : ∀ l, xpr 210 116 l = l := xpr_no (by decide +kernel)
theorem r_210_118 : xfetch 210 118 = some (.iaload, 1) := by decide +kernel
theorem n_210_118 : ∀ l, xpr 210 118 l = l := xpr_no (by decide +kernel)
theorem r_210_119 : xfetch 210 119 = some (.ireturn, 1) := by decide +kernel
theorem n_210_119 : ∀ l, xpr 210 119 l = l := xpr_no (by decide +kernel)
theorem v_Model_leafInfo_0 {S : Option (Nat × (Nat → Int32))} {s : zSt} {Q : Option Value ⊕ Nat → zSt → Prop} {x1 : Int} {x2 : Int} {x3 : Int} 
    (h : wp S 193 0 [(0, rf 252)] [] s (fun o1 s1 => zkU (rng x1 ∧ (rng ((zI s1 253 0) - 1) ∧ ((¬ (0 ≤ x1 ∧ x1 ≤ ((zI s1 253 0) - 1)) → wp S 210 52 [(0, rf 252), (1, iv x1), (2, iv x2), (3, iv x3)] [iv 1, rf 252] s1 Q) ∧ (0 ≤ x1 ∧ x1 ≤ ((zI s1 253 0) - 1) → (0 ≤ x1 ∧ x1 < 6) ∧ (rng x2 ∧ (rng ((zI s1 256 x1) - 1) ∧ ((¬ (0 ≤ x2 ∧ x2 ≤ ((zI s1 256 x1) - 1)) → wp S 210 52 [(0, rf 252), (1, iv x1), (2, iv x2), (3, iv x3)] [iv 1, rf 252] s1 Q) ∧ (0 ≤ x2 ∧ x2 ≤ ((zI s1 256 x1) - 1) → rng x3 ∧ ((0 ≤ x3 ∧ x3 ≤ 3 → wp S 210 52 [(0, rf 252), (1, iv x1), (2, iv x2), (3, iv x3)] [iv 0, rf 252] s1 Q) ∧ (¬ (0 ≤ x3 ∧ x3 ≤ 3) → wp S 210 52 [(0, rf 252), (1, iv x1), (2, iv x2), (3, iv x3)] [iv 2, rf 252] s1 Q)))))))))) (fun e1 => False) o1)) :
    wp S 210 0 [(0, rf 252), (1, iv x1), (2, iv x2), (3, iv x3)] [] s Q := by
  refine i_aload_n (a := 252) r_210_0 (n_210_0 _) rfl ?_
  refine wp_virt (b := 252) (rest := []) (Ls := [(0, rf 252)]) r_210_1 (n_210_1 _) rfl ⟨rfl, rfl, by decide, by decide⟩ rfl rfl lf_252 ⟨rfl, Nat.le_of_ble_eq_true rfl, Nat.le_of_ble_eq_true rfl⟩ rfl h ?_
  intro o1 s1 h
  rcases h with ⟨rfl, h⟩ | ⟨e1, rfl, h⟩
  · refine .inl ⟨none, rfl, ?_⟩
    refine i_aload_n (a := 252) r_210_4 (n_210_4 _) rfl ?_
    refine i_iload_n (x := x1) r_210_5 (n_210_5 _) rfl ?_
    obtain ⟨g3, h⟩ := h
    obtain ⟨g4, h⟩ := h
    refine wp_virt (b := 252) (rest := []) (Ls := [(0, rf 252), (1, iv x1)]) r_210_6 (n_210_6 _) rfl ⟨rfl, rfl, by decide, by decide⟩ rfl rfl lf_252 ⟨rfl, Nat.le_of_ble_eq_true rfl, Nat.le_of_ble_eq_true rfl⟩ rfl (K_Model_isRecord g3 g4) ?_
    rintro _ _ ⟨rfl, rfl⟩
    refine .inl ⟨some (iv (bi (0 ≤ x1 ∧ x1 ≤ ((zI s1 253 0) - 1)))), rfl, ?_⟩
    show wp S 210 9 [(0, rf 252), (1, iv x1), (2, iv x2), (3, iv x3)] [iv (bi (0 ≤ x1 ∧ x1 ≤ ((zI s1 253 0) - 1)))] s1 Q
    refine i_if (t := 25) r_210_9 (n_210_9 _) rfl (TB_eq) (fun c6 => ?_) (fun c6 => ?_)
    · replace h := h.1 c6
      refine i_iconst r_210_25 (n_210_25 _) ?_
      refine i_istore (l' := [(0, rf 252), (1, iv x1), (2, iv x2), (3, iv x3), (4, iv 0)]) r_210_26 (n_210_26 _) (by decide) rfl ?_
      refine i_aload_n (a := 252) r_210_28 (n_210_28 _) rfl ?_
      refine i_iload (x := 0) r_210_29 (n_210_29 _) rfl ?_
      refine i_if (t := 38) r_210_31 (n_210_31 _) rfl (T_ne ⟨by omega, by omega⟩ ⟨by omega, by omega⟩) (fun z => absurd z (by omega)) (fun _ => ?_)
      refine i_iconst r_210_34 (n_210_34 _) ?_
      refine i_goto (t := 52) r_210_35 (n_210_35 _) rfl ?_
      exact wp_pr (l' := [(0, rf 252), (1, iv x1), (2, iv x2), (3, iv x3)]) rfl h
    · replace h := h.2 c6
      refine i_aload_n (a := 252) r_210_12 (n_210_12 _) rfl ?_
      refine i_iload_n (x := x1) r_210_13 (n_210_13 _) rfl ?_
      refine i_iload_n (x := x2) r_210_14 (n_210_14 _) rfl ?_
      obtain ⟨g7, h⟩ := h
      obtain ⟨g8, h⟩ := h
      obtain ⟨g9, h⟩ := h
      refine wp_virt (b := 252) (rest := []) (Ls := [(0, rf 252), (1, iv x1), (2, iv x2)]) r_210_15 (n_210_15 _) rfl ⟨rfl, rfl, by decide, by decide⟩ rfl rfl lf_252 ⟨rfl, Nat.le_of_ble_eq_true rfl, Nat.le_of_ble_eq_true rfl⟩ rfl (K_Model_isLeaf g7 g8 g9) ?_
      rintro _ _ ⟨rfl, rfl⟩
      refine .inl ⟨some (iv (bi (0 ≤ x2 ∧ x2 ≤ ((zI s1 256 x1) - 1)))), rfl, ?_⟩
      show wp S 210 18 [(0, rf 252), (1, iv x1), (2, iv x2), (3, iv x3)] [iv (bi (0 ≤ x2 ∧ x2 ≤ ((zI s1 256 x1) - 1)))] s1 Q
      refine i_if (t := 25) r_210_18 (n_210_18 _) rfl (TB_eq) (fun c11 => ?_) (fun c11 => ?_)
      · replace h := h.1 c11
        refine i_iconst r_210_25 (n_210_25 _) ?_
        refine i_istore (l' := [(0, rf 252), (1, iv x1), (2, iv x2), (3, iv x3), (4, iv 0)]) r_210_26 (n_210_26 _) (by decide) rfl ?_
        refine i_aload_n (a := 252) r_210_28 (n_210_28 _) rfl ?_
        refine i_iload (x := 0) r_210_29 (n_210_29 _) rfl ?_
        refine i_if (t := 38) r_210_31 (n_210_31 _) rfl (T_ne ⟨by omega, by omega⟩ ⟨by omega, by omega⟩) (fun z => absurd z (by omega)) (fun _ => ?_)
        refine i_iconst r_210_34 (n_210_34 _) ?_
        refine i_goto (t := 52) r_210_35 (n_210_35 _) rfl ?_
        exact wp_pr (l' := [(0, rf 252), (1, iv x1), (2, iv x2), (3, iv x3)]) rfl h
      · replace h := h.2 c11
        refine i_iconst r_210_21 (n_210_21 _) ?_
        refine i_goto (t := 26) r_210_22 (n_210_22 _) rfl ?_
        refine i_istore (l' := [(0, rf 252), (1, iv x1), (2, iv x2), (3, iv x3), (4, iv 1)]) r_210_26 (n_210_26 _) (by decide) rfl ?_
        refine i_aload_n (a := 252) r_210_28 (n_210_28 _) rfl ?_
        refine i_iload (x := 1) r_210_29 (n_210_29 _) rfl ?_
        refine i_if (t := 38) r_210_31 (n_210_31 _) rfl (T_ne ⟨by omega, by omega⟩ ⟨by omega, by omega⟩) (fun _ => ?_) (fun z => absurd z (by omega))
        refine i_iload_n (x := x3) r_210_38 (n_210_38 _) rfl ?_
        refine i_iconst r_210_39 (n_210_39 _) ?_
        refine i_iconst r_210_40 (n_210_40 _) ?_
        obtain ⟨g12, h⟩ := h
        refine wp_stat (rest := [rf 252]) (Ls := [(0, iv x3), (1, iv 0), (2, iv 3)]) r_210_41 (n_210_41 _) rfl ⟨rfl, by decide, by decide, by decide⟩ rfl rfl ⟨rfl, Nat.le_of_ble_eq_true rfl, Nat.le_of_ble_eq_true rfl⟩ rfl (K_Model_within g12 ⟨by omega, by omega⟩ ⟨by omega, by omega⟩) ?_
        rintro _ _ ⟨rfl, rfl⟩
        refine .inl ⟨some (iv (bi (0 ≤ x3 ∧ x3 ≤ 3))), rfl, ?_⟩
        show wp S 210 44 [(0, rf 252), (1, iv x1), (2, iv x2), (3, iv x3), (4, iv 1)] [iv (bi (0 ≤ x3 ∧ x3 ≤ 3)), rf 252] s1 Q
        refine i_if (t := 51) r_210_44 (n_210_44 _) rfl (TB_ne) (fun c14 => ?_) (fun c14 => ?_)
        · replace h := h.1 c14
          refine i_iconst r_210_51 (n_210_51 _) ?_
          exact wp_pr (l' := [(0, rf 252), (1, iv x1), (2, iv x2), (3, iv x3)]) rfl h
        · replace h := h.2 c14
          refine i_iconst r_210_47 (n_210_47 _) ?_
          refine i_goto (t := 52) r_210_48 (n_210_48 _) rfl ?_
          exact wp_pr (l' := [(0, rf 252), (1, iv x1), (2, iv x2), (3, iv x3)]) rfl h
  · skip
    exact h.elim
theorem v_Model_leafInfo_52 {S : Option (Nat × (Nat → Int32))} {s : zSt} {Q : Option Value ⊕ Nat → zSt → Prop} {x1 : Int} {x2 : Int} {x3 : Int} {x90 : Int} 
    (h : rng x90 ∧ ((¬ (0 < x90) → rng x3 ∧ ((x3 ≠ 0 → (x3 ≠ 1 → (x3 ≠ 2 → (0 ≤ ((40 * x1) + x2) ∧ ((40 * x1) + x2) < 240) ∧ (Q (rI (zI s 262 ((40 * x1) + x2))) (zwI s 252 3 x90))) ∧ (x3 = 2 → (0 ≤ ((40 * x1) + x2) ∧ ((40 * x1) + x2) < 240) ∧ (Q (rI (zI s 261 ((40 * x1) + x2))) (zwI s 252 3 x90)))) ∧ (x3 = 1 → (0 ≤ ((40 * x1) + x2) ∧ ((40 * x1) + x2) < 240) ∧ (Q (rI (zI s 260 ((40 * x1) + x2))) (zwI s 252 3 x90)))) ∧ (x3 = 0 → (0 ≤ ((40 * x1) + x2) ∧ ((40 * x1) + x2) < 240) ∧ (Q (rI (zI s 259 ((40 * x1) + x2))) (zwI s 252 3 x90))))) ∧ (0 < x90 → Q (rI 0) (zwI s 252 3 x90)))) :
    wp S 210 52 [(0, rf 252), (1, iv x1), (2, iv x2), (3, iv x3)] [iv x90, rf 252] s Q := by
  obtain ⟨g1, h⟩ := h
  refine wp_virt (b := 252) (rest := []) (Ls := [(0, rf 252), (1, iv x90)]) r_210_52 rfl rfl ⟨rfl, rfl, by decide, by decide⟩ rfl rfl lf_252 ⟨rfl, Nat.le_of_ble_eq_true rfl, Nat.le_of_ble_eq_true rfl⟩ rfl (K_Model_refused g1) ?_
  rintro _ _ ⟨rfl, rfl⟩
  refine .inl ⟨some (iv (bi (0 < x90))), rfl, ?_⟩
  show wp S 210 55 [(0, rf 252), (1, iv x1), (2, iv x2), (3, iv x3)] [iv (bi (0 < x90))] (zwI s 252 3 x90) Q
  refine i_if (t := 60) r_210_55 (n_210_55 _) rfl (TB_eq) (fun c3 => ?_) (fun c3 => ?_)
  · replace h := h.1 c3
    refine i_bipush r_210_60 (n_210_60 _) rfl ?_
    refine i_iload_n (x := x1) r_210_62 (n_210_62 _) rfl ?_
    refine i_imul r_210_63 (n_210_63 _) ?_
    refine i_iload_n (x := x2) r_210_64 (n_210_64 _) rfl ?_
    refine i_iadd r_210_65 (n_210_65 _) ?_
    refine i_istore (l' := [(0, rf 252), (1, iv x1), (2, iv x2), (3, iv x3), (5, iv ((40 * x1) + x2))]) r_210_66 (n_210_66 _) (by decide) rfl ?_
    refine i_iload_n (x := x3) r_210_68 (n_210_68 _) rfl ?_
    obtain ⟨g4, h⟩ := h
    refine i_if (t := 82) r_210_69 (n_210_69 _) rfl (T_ne g4 ⟨by omega, by omega⟩) (fun c5 => ?_) (fun c5 => ?_)
    · replace h := h.1 c5
      refine i_iload_n (x := x3) r_210_82 (n_210_82 _) rfl ?_
      refine i_iconst r_210_83 (n_210_83 _) ?_
      refine i_icmp (t := 97) r_210_84 (n_210_84 _) rfl (T_ne g4 ⟨by omega, by omega⟩) (fun c6 => ?_) (fun c6 => ?_)
      · replace h := h.1 c6
        refine i_iload_n (x := x3) r_210_97 (n_210_97 _) rfl ?_
        refine i_iconst r_210_98 (n_210_98 _) ?_
        refine i_icmp (t := 112) r_210_99 (n_210_99 _) rfl (T_ne g4 ⟨by omega, by omega⟩) (fun c7 => ?_) (fun c7 => ?_)
        · replace h := h.1 c7
          refine i_aload_n (a := 252) r_210_112 (n_210_112 _) rfl ?_
          refine i_getR (a := 252) (b := 262) r_210_113 (n_210_113 _) rfl rfl rfl (by omega) lf_252 (by omega) ?_
          refine i_iload (x := (40 * x1) + x2) r_210_116 (n_210_116 _) rfl ?_
          obtain ⟨g8, h⟩ := h
          have e10 : zI (zwI s 252 3 x90) 262 ((40 * x1) + x2) = zI s 262 ((40 * x1) + x2) := zI_ne (by omega)
          refine i_ialoade (a := 262) (j := (40 * x1) + x2) (x := zI s 262 ((40 * x1) + x2)) r_210_118 (n_210_118 _) lf_262 ⟨by omega, by omega⟩ (by omega) (by omega) e10 (fun q9 => ?_)
          exact i_ireturn r_210_119 (n_210_119 _) rfl h
        · replace h := h.2 c7
          refine i_aload_n (a := 252) r_210_102 (n_210_102 _) rfl ?_
          refine i_getR (a := 252) (b := 261) r_210_103 (n_210_103 _) rfl rfl rfl (by omega) lf_252 (by omega) ?_
          refine i_iload (x := (40 * x1) + x2) r_210_106 (n_210_106 _) rfl ?_
          obtain ⟨g11, h⟩ := h
          have e13 : zI (zwI s 252 3 x90) 261 ((40 * x1) + x2) = zI s 261 ((40 * x1) + x2) := zI_ne (by omega)
          refine i_ialoade (a := 261) (j := (40 * x1) + x2) (x := zI s 261 ((40 * x1) + x2)) r_210_108 (n_210_108 _) lf_261 ⟨by omega, by omega⟩ (by omega) (by omega) e13 (fun q12 => ?_)
          refine i_goto (t := 119) r_210_109 (n_210_109 _) rfl ?_
          exact i_ireturn r_210_119 (n_210_119 _) rfl h
      · replace h := h.2 c6
        refine i_aload_n (a := 252) r_210_87 (n_210_87 _) rfl ?_
        refine i_getR (a := 252) (b := 260) r_210_88 (n_210_88 _) rfl rfl rfl (by omega) lf_252 (by omega) ?_
        refine i_iload (x := (40 * x1) + x2) r_210_91 (n_210_91 _) rfl ?_
        obtain ⟨g14, h⟩ := h
        have e16 : zI (zwI s 252 3 x90) 260 ((40 * x1) + x2) = zI s 260 ((40 * x1) + x2) := zI_ne (by omega)
        refine i_ialoade (a := 260) (j := (40 * x1) + x2) (x := zI s 260 ((40 * x1) + x2)) r_210_93 (n_210_93 _) lf_260 ⟨by omega, by omega⟩ (by omega) (by omega) e16 (fun q15 => ?_)
        refine i_goto (t := 119) r_210_94 (n_210_94 _) rfl ?_
        exact i_ireturn r_210_119 (n_210_119 _) rfl h
    · replace h := h.2 c5
      refine i_aload_n (a := 252) r_210_72 (n_210_72 _) rfl ?_
      refine i_getR (a := 252) (b := 259) r_210_73 (n_210_73 _) rfl rfl rfl (by omega) lf_252 (by omega) ?_
      refine i_iload (x := (40 * x1) + x2) r_210_76 (n_210_76 _) rfl ?_
      obtain ⟨g17, h⟩ := h
      have e19 : zI (zwI s 252 3 x90) 259 ((40 * x1) + x2) = zI s 259 ((40 * x1) + x2) := zI_ne (by omega)
      refine i_ialoade (a := 259) (j := (40 * x1) + x2) (x := zI s 259 ((40 * x1) + x2)) r_210_78 (n_210_78 _) lf_259 ⟨by omega, by omega⟩ (by omega) (by omega) e19 (fun q18 => ?_)
      refine i_goto (t := 119) r_210_79 (n_210_79 _) rfl ?_
      exact i_ireturn r_210_119 (n_210_119 _) rfl h
  · replace h := h.2 c3
    refine i_iconst r_210_58 (n_210_58 _) ?_
    exact i_ireturn r_210_59 (n_210_59 _) rfl h

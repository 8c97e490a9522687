theorem r_75_0 : xfetch 75 0 = some (.aload_n 0, 1) := by decide +kernel
theorem n_75_0 : ∀ l, xpr 75 0 l = l := xpr_no (by decide +kernel)
theorem r_75_1 : xfetch 75 1 = some (.iload_n 1, 1) := by decide +kernel
theorem n_75_1 : ∀ l, xpr 75 1 l = l := xpr_no (by decide +kernel)
theorem r_75_2 : xfetch 75 2 = some (.invokevirtual 95, 3) := by decide +kernel
theorem n_75_2 : ∀ l, xpr 75 2 l = l := xpr_no (by decide +kernel)
theorem r_75_5 : xfetch 75 5 = some (.aload_n 0, 1) := by decide +kernel
theorem n_75_5 : ∀ l, xpr 75 5 l = l := xpr_no (by decide +kernel)
theorem r_75_6 : xfetch 75 6 = some (.iload_n 1, 1) := by decide +kernel
theorem n_75_6 : ∀ l, xpr 75 6 l = l := xpr_no (by decide +kernel)
theorem r_75_7 : xfetch 75 7 = some (.invokevirtual 192, 3) := by decide +kernel
theorem n_75_7 : ∀ l, xpr 75 7 l = l := xpr_no (by decide +kernel)
theorem r_75_10 : xfetch 75 10 = some (.aload_n 0, 1) := by decide +kernel
theorem n_75_10 : ∀ l, xpr 75 10 l = l := xpr_no (by decide +kernel)
theorem r_75_11 : xfetch 75 11 = some (.getfield 36, 3) := by decide +kernel
theorem n_75_11 : ∀ l, xpr 75 11 l = l := xpr_no (by decide +kernel)
theorem r_75_14 : xfetch 75 14 = some (.getfield 195, 3) := by decide +kernel
theorem n_75_14 : ∀ l, xpr 75 14 l = l := xpr_no (by decide +kernel)
theorem r_75_17 : xfetch 75 17 = some (.ireturn, 1) := by decide +kernel
theorem n_75_17 : ∀ l, xpr 75 17 l = l := xpr_no (by decide +kernel)
theorem v_RL_bestSize_0 {S : Option (Nat × (Nat → Int32))} {s : zSt} {Q : Option Value ⊕ Nat → zSt → Prop} {x1 : Int} 
    (h : rng x1 ∧ ((0 ≤ x1 ∧ x1 < zI s 3 0 → wp S 76 0 [(0, rf 2), (1, iv x1)] [] s (fun o3 s3 => zkU (Q (rI (zI s3 42 0)) s3) (fun e3 => False) o3)) ∧ ((¬ (0 ≤ x1 ∧ x1 < zI s 3 0) → Q (rT 2) (zbump s))))) :
    wp S 75 0 [(0, rf 2), (1, iv x1)] [] s Q := by
  refine i_aload_n (a := 2) r_75_0 (n_75_0 _) rfl ?_
  refine i_iload_n (x := x1) r_75_1 (n_75_1 _) rfl ?_
  obtain ⟨g1, h⟩ := h
  refine wp_virt (b := 2) (rest := []) (Ls := [(0, rf 2), (1, iv x1)]) r_75_2 (n_75_2 _) rfl ⟨rfl, rfl, by decide, by decide⟩ rfl rfl lf_2 ⟨rfl, Nat.le_of_ble_eq_true rfl, Nat.le_of_ble_eq_true rfl⟩ rfl (K_RL_checkRecord g1) ?_
  rintro _ _ (⟨c2, rfl, rfl⟩ | ⟨c2, rfl, rfl⟩)
  · replace h := h.1 c2
    refine .inl ⟨none, rfl, ?_⟩
    show wp S 75 5 [(0, rf 2), (1, iv x1)] [] s Q
    refine i_aload_n (a := 2) r_75_5 (n_75_5 _) rfl ?_
    refine i_iload_n (x := x1) r_75_6 (n_75_6 _) rfl ?_
    refine wp_virt (b := 2) (rest := []) (Ls := [(0, rf 2), (1, iv x1)]) r_75_7 (n_75_7 _) rfl ⟨rfl, rfl, by decide, by decide⟩ rfl rfl lf_2 ⟨rfl, Nat.le_of_ble_eq_true rfl, Nat.le_of_ble_eq_true rfl⟩ rfl h ?_
    intro o3 s3 h
    rcases h with ⟨rfl, h⟩ | ⟨e3, rfl, h⟩
    · refine .inl ⟨none, rfl, ?_⟩
      refine i_aload_n (a := 2) r_75_10 (n_75_10 _) rfl ?_
      refine i_getR (a := 2) (b := 42) r_75_11 (n_75_11 _) rfl rfl rfl (by omega) lf_2 (by omega) ?_
      refine i_getI (a := 42) r_75_14 (n_75_14 _) rfl (by decide) lf_42 (fun q5 => ?_)
      exact i_ireturn r_75_17 (n_75_17 _) rfl h
    · skip
      exact h.elim
  · replace h := h.2 c2
    exact .inr ⟨_, rfl, .inl ⟨rfl, h⟩⟩
theorem r_76_0 : xfetch 76 0 = some (.aload_n 0, 1) := by decide +kernel
theorem n_76_0 : ∀ l, xpr 76 0 l = l := xpr_no (by decide +kernel)
theorem r_76_1 : xfetch 76 1 = some (.getfield 40, 3) := by decide +kernel
theorem n_76_1 : ∀ l, xpr 76 1 l = l := xpr_no (by decide +kernel)
theorem r_76_4 : xfetch 76 4 = some (.iload_n 1, 1) := by decide +kernel
theorem n_76_4 : ∀ l, xpr 76 4 l = l := xpr_no (by decide +kernel)
theorem r_76_5 : xfetch 76 5 = some (.if_icmp .eq 30, 3) := by decide +kernel
theorem n_76_5 : ∀ l, xpr 76 5 l = l := xpr_no (by decide +kernel)
theorem r_76_8 : xfetch 76 8 = some (.aload_n 0, 1) := by decide +kernel
theorem n_76_8 : ∀ l, xpr 76 8 l = l := xpr_no (by decide +kernel)
theorem r_76_9 : xfetch 76 9 = some (.getfield 36, 3) := by decide +kernel
theorem n_76_9 : ∀ l, xpr 76 9 l = l := xpr_no (by decide +kernel)
theorem r_76_12 : xfetch 76 12 = some (.aload_n 0, 1) := by decide +kernel
theorem n_76_12 : ∀ l, xpr 76 12 l = l := xpr_no (by decide +kernel)
theorem r_76_13 : xfetch 76 13 = some (.getfield 10, 3) := by decide +kernel
theorem n_76_13 : ∀ l, xpr 76 13 l = l := xpr_no (by decide +kernel)
theorem r_76_16 : xfetch 76 16 = some (.getfield 83, 3) := by decide +kernel
theorem n_76_16 : ∀ l, xpr 76 16 l = l := xpr_no (by decide +kernel)
theorem r_76_19 : xfetch 76 19 = some (.iload_n 1, 1) := by decide +kernel
theorem n_76_19 : ∀ l, xpr 76 19 l = l := xpr_no (by decide +kernel)
theorem r_76_20 : xfetch 76 20 = some (.aaload, 1) := by decide +kernel
theorem n_76_20 : ∀ l, xpr 76 20 l = l := xpr_no (by decide +kernel)
theorem r_76_21 : xfetch 76 21 = some (.aload_n 0, 1) := by decide +kernel
theorem n_76_21 : ∀ l, xpr 76 21 l = l := xpr_no (by decide +kernel)
theorem r_76_22 : xfetch 76 22 = some (.getfield 18, 3) := by decide +kernel
theorem n_76_22 : ∀ l, xpr 76 22 l = l := xpr_no (by decide +kernel)
theorem r_76_25 : xfetch 76 25 = some (.iload_n 1, 1) := by decide +kernel
theorem n_76_25 : ∀ l, xpr 76 25 l = l := xpr_no (by decide +kernel)
theorem r_76_26 : xfetch 76 26 = some (.aaload, 1) := by decide +kernel
theorem n_76_26 : ∀ l, xpr 76 26 l = l := xpr_no (by decide +kernel)
theorem r_76_27 : xfetch 76 27 = some (.invokevirtual 442, 3) := by decide +kernel
theorem n_76_27 : ∀ l, xpr 76 27 l = l := xpr_no (by decide +kernel)
theorem r_76_30 : xfetch 76 30 = some (.aload_n 0, 1) := by decide +kernel
theorem n_76_30 : ∀ l, xpr 76 30 l = l := xpr_no (by decide +kernel)
theorem r_76_31 : xfetch 76 31 = some (.iload_n 1, 1) := by decide +kernel
theorem n_76_31 : ∀ l, xpr 76 31 l = l := xpr_no (by decide +kernel)
theorem r_76_32 : xfetch 76 32 = some (.putfield 40, 3) := by decide +kernel
theorem n_76_32 : ∀ l, xpr 76 32 l = l := xpr_no (by decide +kernel)
theorem r_76_35 : xfetch 76 35 = some (.return_, 1) := by decide +kernel
theorem n_76_35 : ∀ l, xpr 76 35 l = l := xpr_no (by decide +kernel)
theorem v_RL_searchBest_0 {S : Option (Nat × (Nat → Int32))} {s : zSt} {Q : Option Value ⊕ Nat → zSt → Prop} {x1 : Int} 
    (h : rng x1 ∧ (((zI s 2 7) = x1 → Q rU s) ∧ ((zI s 2 7) ≠ x1 → (0 ≤ x1 ∧ x1 < 6) ∧ (wp S 77 0 [(0, rf 42), (1, rf (7 + 4 * x1)), (2, rf (62 + 11 * x1))] [] s (fun o7 s7 => zkU (Q rU (zwI s7 2 7 x1)) (fun e7 => False) o7))))) :
    wp S 76 0 [(0, rf 2), (1, iv x1)] [] s Q := by
  refine i_aload_n (a := 2) r_76_0 (n_76_0 _) rfl ?_
  refine i_getI (a := 2) r_76_1 (n_76_1 _) rfl (by decide) lf_2 (fun q1 => ?_)
  refine i_iload_n (x := x1) r_76_4 (n_76_4 _) rfl ?_
  obtain ⟨g2, h⟩ := h
  refine i_icmp (t := 35) r_76_5 (n_76_5 _) rfl (T_eq q1 g2) (fun c3 => ?_) (fun c3 => ?_)
  · replace h := h.1 c3
    exact i_return r_76_35 (n_76_35 _) rfl h
  · replace h := h.2 c3
    refine i_aload_n (a := 2) r_76_8 (n_76_8 _) rfl ?_
    refine i_getR (a := 2) (b := 42) r_76_9 (n_76_9 _) rfl rfl rfl (by omega) lf_2 (by omega) ?_
    refine i_aload_n (a := 2) r_76_12 (n_76_12 _) rfl ?_
    refine i_getR (a := 2) (b := 3) r_76_13 (n_76_13 _) rfl rfl rfl (by omega) lf_2 (by omega) ?_
    refine i_getR (a := 3) (b := 4) r_76_16 (n_76_16 _) rfl rfl rfl (by omega) lf_3 (by omega) ?_
    refine i_iload_n (x := x1) r_76_19 (n_76_19 _) rfl ?_
    obtain ⟨g4, h⟩ := h
    refine i_aaload (c := 1) (a := 4) (j := x1) (b := 7 + 4 * x1) r_76_20 (n_76_20 _) lf_4 ⟨by omega, by omega⟩ (by omega) (by omega) rfl (by omega) ?_
    have t5 := e_1 (j := x1) lf_4 (by omega) (by omega)
    rw [show 4 + 3 + 4 * x1 = 7 + 4 * x1 by omega] at t5
    refine i_aload_n (a := 2) r_76_21 (n_76_21 _) rfl ?_
    refine i_getR (a := 2) (b := 34) r_76_22 (n_76_22 _) rfl rfl rfl (by omega) lf_2 (by omega) ?_
    refine i_iload_n (x := x1) r_76_25 (n_76_25 _) rfl ?_
    refine i_aaload (c := 4) (a := 34) (j := x1) (b := 62 + 11 * x1) r_76_26 (n_76_26 _) lf_34 ⟨by omega, by omega⟩ (by omega) (by omega) rfl (by omega) ?_
    have t6 := e_4 (j := x1) lf_34 (by omega) (by omega)
    rw [show 34 + 28 + 11 * x1 = 62 + 11 * x1 by omega] at t6
    refine wp_virt (b := 42) (rest := []) (Ls := [(0, rf 42), (1, rf (7 + 4 * x1)), (2, rf (62 + 11 * x1))]) r_76_27 (n_76_27 _) rfl ⟨rfl, rfl, by decide, by decide⟩ rfl rfl lf_42 ⟨rfl, Nat.le_of_ble_eq_true rfl, Nat.le_of_ble_eq_true rfl⟩ rfl h ?_
    intro o7 s7 h
    rcases h with ⟨rfl, h⟩ | ⟨e7, rfl, h⟩
    · refine .inl ⟨none, rfl, ?_⟩
      refine i_aload_n (a := 2) r_76_30 (n_76_30 _) rfl ?_
      refine i_iload_n (x := x1) r_76_31 (n_76_31 _) rfl ?_
      refine i_putI (a := 2) (x := x1) r_76_32 (n_76_32 _) rfl (.inl rfl) rfl lf_2 g2 ?_
      exact i_return r_76_35 (n_76_35 _) rfl h
    · skip
      exact h.elim
theorem r_77_0 : xfetch 77 0 = some (.aload_n 0, 1) := by decide +kernel
theorem n_77_0 : ∀ l, xpr 77 0 l = l := xpr_no (by decide +kernel)
theorem r_77_1 : xfetch 77 1 = some (.aload_n 1, 1) := by decide +kernel
theorem n_77_1 : ∀ l, xpr 77 1 l = l := xpr_no (by decide +kernel)
theorem r_77_2 : xfetch 77 2 = some (.getfield 27, 3) := by decide +kernel
theorem n_77_2 : ∀ l, xpr 77 2 l = l := xpr_no (by decide +kernel)
theorem r_77_5 : xfetch 77 5 = some (.putfield 33, 3) := by decide +kernel
theorem n_77_5 : ∀ l, xpr 77 5 l = l := xpr_no (by decide +kernel)
theorem r_77_8 : xfetch 77 8 = some (.iconst 0, 1) := by decide +kernel
theorem n_77_8 : ∀ l, xpr 77 8 l = l := xpr_no (by decide +kernel)
theorem r_77_9 : xfetch 77 9 = some (.istore_n 3, 1) := by decide +kernel
theorem n_77_9 : ∀ l, xpr 77 9 l = l := xpr_no (by decide +kernel)
theorem r_77_10 : xfetch 77 10 = some (.iload_n 3, 1) := by decide +kernel
theorem r_77_11 : xfetch 77 11 = some (.aload_n 0, 1) := by decide +kernel
theorem n_77_11 : ∀ l, xpr 77 11 l = l := xpr_no (by decide +kernel)
theorem r_77_12 : xfetch 77 12 = some (.getfield 33, 3) := by decide +kernel
theorem n_77_12 : ∀ l, xpr 77 12 l = l := xpr_no (by decide +kernel)
theorem r_77_15 : xfetch 77 15 = some (.if_icmp .ge 71, 3) := by decide +kernel
theorem n_77_15 : ∀ l, xpr 77 15 l = l := xpr_no (by decide +kernel)
theorem r_77_18 : xfetch 77 18 = some (.aload_n 0, 1) := by decide +kernel
theorem n_77_18 : ∀ l, xpr 77 18 l = l := xpr_no (by decide +kernel)
theorem r_77_19 : xfetch 77 19 = some (.getfield 15, 3) := by decide +kernel
theorem n_77_19 : ∀ l, xpr 77 19 l = l := xpr_no (by decide +kernel)
theorem r_77_22 : xfetch 77 22 = some (.iload_n 3, 1) := by decide +kernel
theorem n_77_22 : ∀ l, xpr 77 22 l = l := xpr_no (by decide +kernel)
theorem r_77_23 : xfetch 77 23 = some (.aload_n 1, 1) := by decide +kernel
theorem n_77_23 : ∀ l, xpr 77 23 l = l := xpr_no (by decide +kernel)
theorem r_77_24 : xfetch 77 24 = some (.getfield 34, 3) := by decide +kernel
theorem n_77_24 : ∀ l, xpr 77 24 l = l := xpr_no (by decide +kernel)
theorem r_77_27 : xfetch 77 27 = some (.iload_n 3, 1) := by decide +kernel
theorem n_77_27 : ∀ l, xpr 77 27 l = l := xpr_no (by decide +kernel)
theorem r_77_28 : xfetch 77 28 = some (.iaload, 1) := by decide +kernel
theorem n_77_28 : ∀ l, xpr 77 28 l = l := xpr_no (by decide +kernel)
theorem r_77_29 : xfetch 77 29 = some (.aload_n 2, 1) := by decide +kernel
theorem n_77_29 : ∀ l, xpr 77 29 l = l := xpr_no (by decide +kernel)
theorem r_77_30 : xfetch 77 30 = some (.getfield 37, 3) := by decide +kernel
theorem n_77_30 : ∀ l, xpr 77 30 l = l := xpr_no (by decide +kernel)
theorem r_77_33 : xfetch 77 33 = some (.iload_n 3, 1) := by decide +kernel
theorem n_77_33 : ∀ l, xpr 77 33 l = l := xpr_no (by decide +kernel)
theorem r_77_34 : xfetch 77 34 = some (.iaload, 1) := by decide +kernel
theorem n_77_34 : ∀ l, xpr 77 34 l = l := xpr_no (by decide +kernel)
theorem r_77_35 : xfetch 77 35 = some (.imul, 1) := by decide +kernel
theorem n_77_35 : ∀ l, xpr 77 35 l = l := xpr_no (by decide +kernel)
theorem r_77_36 : xfetch 77 36 = some (.iastore, 1) := by decide +kernel
theorem n_77_36 : ∀ l, xpr 77 36 l = l := xpr_no (by decide +kernel)
theorem r_77_37 : xfetch 77 37 = some (.aload_n 0, 1) := by decide +kernel
theorem n_77_37 : ∀ l, xpr 77 37 l = l := xpr_no (by decide +kernel)
theorem r_77_38 : xfetch 77 38 = some (.getfield 18, 3) := by decide +kernel
theorem n_77_38 : ∀ l, xpr 77 38 l = l := xpr_no (by decide +kernel)
theorem r_77_41 : xfetch 77 41 = some (.iload_n 3, 1) := by decide +kernel
theorem n_77_41 : ∀ l, xpr 77 41 l = l := xpr_no (by decide +kernel)
theorem r_77_42 : xfetch 77 42 = some (.aload_n 2, 1) := by decide +kernel
theorem n_77_42 : ∀ l, xpr 77 42 l = l := xpr_no (by decide +kernel)
theorem r_77_43 : xfetch 77 43 = some (.getfield 42, 3) := by decide +kernel
theorem n_77_43 : ∀ l, xpr 77 43 l = l := xpr_no (by decide +kernel)
theorem r_77_46 : xfetch 77 46 = some (.iload_n 3, 1) := by decide +kernel
theorem n_77_46 : ∀ l, xpr 77 46 l = l := xpr_no (by decide +kernel)
theorem r_77_47 : xfetch 77 47 = some (.iaload, 1) := by decide +kernel
theorem n_77_47 : ∀ l, xpr 77 47 l = l := xpr_no (by decide +kernel)
theorem r_77_48 : xfetch 77 48 = some (.iastore, 1) := by decide +kernel
theorem n_77_48 : ∀ l, xpr 77 48 l = l := xpr_no (by decide +kernel)
theorem r_77_49 : xfetch 77 49 = some (.aload_n 0, 1) := by decide +kernel
theorem n_77_49 : ∀ l, xpr 77 49 l = l := xpr_no (by decide +kernel)
theorem r_77_50 : xfetch 77 50 = some (.getfield 21, 3) := by decide +kernel
theorem n_77_50 : ∀ l, xpr 77 50 l = l := xpr_no (by decide +kernel)
theorem r_77_53 : xfetch 77 53 = some (.iload_n 3, 1) := by decide +kernel
theorem n_77_53 : ∀ l, xpr 77 53 l = l := xpr_no (by decide +kernel)
theorem r_77_54 : xfetch 77 54 = some (.aload_n 1, 1) := by decide +kernel
theorem n_77_54 : ∀ l, xpr 77 54 l = l := xpr_no (by decide +kernel)
theorem r_77_55 : xfetch 77 55 = some (.getfield 43, 3) := by decide +kernel
theorem n_77_55 : ∀ l, xpr 77 55 l = l := xpr_no (by decide +kernel)
theorem r_77_58 : xfetch 77 58 = some (.iload_n 3, 1) := by decide +kernel
theorem n_77_58 : ∀ l, xpr 77 58 l = l := xpr_no (by decide +kernel)
theorem r_77_59 : xfetch 77 59 = some (.iaload, 1) := by decide +kernel
theorem n_77_59 : ∀ l, xpr 77 59 l = l := xpr_no (by decide +kernel)
theorem r_77_60 : xfetch 77 60 = some (.invokestatic 46, 3) := by decide +kernel
theorem n_77_60 : ∀ l, xpr 77 60 l = l := xpr_no (by decide +kernel)
theorem r_77_63 : xfetch 77 63 = some (.ifCond .eq 15, 3) := by decide +kernel
theorem n_77_63 : ∀ l, xpr 77 63 l = l := xpr_no (by decide +kernel)
theorem r_77_66 : xfetch 77 66 = some (.aload_n 1, 1) := by decide +kernel
theorem n_77_66 : ∀ l, xpr 77 66 l = l := xpr_no (by decide +kernel)
theorem r_77_67 : xfetch 77 67 = some (.getfield 43, 3) := by decide +kernel
theorem n_77_67 : ∀ l, xpr 77 67 l = l := xpr_no (by decide +kernel)
theorem r_77_70 : xfetch 77 70 = some (.iload_n 3, 1) := by decide +kernel
theorem n_77_70 : ∀ l, xpr 77 70 l = l := xpr_no (by decide +kernel)
theorem r_77_71 : xfetch 77 71 = some (.iaload, 1) := by decide +kernel
theorem n_77_71 : ∀ l, xpr 77 71 l = l := xpr_no (by decide +kernel)
theorem r_77_72 : xfetch 77 72 = some (.bipush 20, 2) := by decide +kernel
theorem n_77_72 : ∀ l, xpr 77 72 l = l := xpr_no (by decide +kernel)
theorem r_77_74 : xfetch 77 74 = some (.isub, 1) := by decide +kernel
theorem n_77_74 : ∀ l, xpr 77 74 l = l := xpr_no (by decide +kernel)
theorem r_77_75 : xfetch 77 75 = some (.goto 4, 3) := by decide +kernel
theorem n_77_75 : ∀ l, xpr 77 75 l = l := xpr_no (by decide +kernel)
theorem r_77_78 : xfetch 77 78 = some (.iconst 0, 1) := by decide +kernel
theorem n_77_78 : ∀ l, xpr 77 78 l = l := xpr_no (by decide +kernel)
theorem r_77_79 : xfetch 77 79 = some (.iastore, 1) := by decide +kernel
theorem n_77_79 : ∀ l, xpr 77 79 l = l := xpr_no (by decide +kernel)
theorem r_77_80 : xfetch 77 80 = some (.iinc 3 1, 3) := by decide +kernel
theorem n_77_80 : ∀ l, xpr 77 80 l = l := xpr_no (by decide +kernel)
theorem r_77_83 : xfetch 77 83 = some (.goto (-73), 3) := by decide +kernel
theorem n_77_83 : ∀ l, xpr 77 83 l = l := xpr_no (by decide +kernel)
theorem r_77_86 : xfetch 77 86 = some (.aload_n 0, 1) := by decide +kernel
theorem n_77_86 : ∀ l, xpr 77 86 l = l := xpr_no (by decide +kernel)
theorem r_77_87 : xfetch 77 87 = some (.invokevirtual 50, 3) := by decide +kernel
theorem n_77_87 : ∀ l, xpr 77 87 l = l := xpr_no (by decide +kernel)
theorem r_77_90 : xfetch 77 90 = some (.aload_n 0, 1) := by decide +kernel
theorem n_77_90 : ∀ l, xpr 77 90 l = l := xpr_no (by decide +kernel)
theorem r_77_91 : xfetch 77 91 = some (.aload_n 0, 1) := by decide +kernel
theorem n_77_91 : ∀ l, xpr 77 91 l = l := xpr_no (by decide +kernel)
theorem r_77_92 : xfetch 77 92 = some (.getfield 24, 3) := by decide +kernel
theorem n_77_92 : ∀ l, xpr 77 92 l = l := xpr_no (by decide +kernel)
theorem r_77_95 : xfetch 77 95 = some (.iconst 0, 1) := by decide +kernel
theorem n_77_95 : ∀ l, xpr 77 95 l = l := xpr_no (by decide +kernel)
theorem r_77_96 : xfetch 77 96 = some (.iaload, 1) := by decide +kernel
theorem n_77_96 : ∀ l, xpr 77 96 l = l := xpr_no (by decide +kernel)
theorem r_77_97 : xfetch 77 97 = some (.aload_n 2, 1) := by decide +kernel
theorem n_77_97 : ∀ l, xpr 77 97 l = l := xpr_no (by decide +kernel)
theorem r_77_98 : xfetch 77 98 = some (.getfield 53, 3) := by decide +kernel
theorem n_77_98 : ∀ l, xpr 77 98 l = l := xpr_no (by decide +kernel)
theorem r_77_101 : xfetch 77 101 = some (.invokestatic 56, 3) := by decide +kernel
theorem n_77_101 : ∀ l, xpr 77 101 l = l := xpr_no (by decide +kernel)
theorem r_77_104 : xfetch 77 104 = some (.putfield 60, 3) := by decide +kernel
theorem n_77_104 : ∀ l, xpr 77 104 l = l := xpr_no (by decide +kernel)
theorem r_77_107 : xfetch 77 107 = some (.aload_n 0, 1) := by decide +kernel
theorem n_77_107 : ∀ l, xpr 77 107 l = l := xpr_no (by decide +kernel)
theorem r_77_108 : xfetch 77 108 = some (.invokevirtual 63, 3) := by decide +kernel
theorem n_77_108 : ∀ l, xpr 77 108 l = l := xpr_no (by decide +kernel)
theorem r_77_111 : xfetch 77 111 = some (.return_, 1) := by decide +kernel
theorem n_77_111 : ∀ l, xpr 77 111 l = l := xpr_no (by decide +kernel)
theorem v_BestOrder_search_0 {S : Option (Nat × (Nat → Int32))} {s : zSt} {Q : Option Value ⊕ Nat → zSt → Prop} {a1 : Int} {a2 : Int} (ha1 : isO a1 1) (ha2 : isO a2 4)
    (h : wp S 77 10 [(0, rf 42), (1, rf a1), (2, rf a2), (3, iv 0)] [] (zwI s 42 2 (zI s a1 1)) Q) :
    wp S 77 0 [(0, rf 42), (1, rf a1), (2, rf a2)] [] s Q := by
  refine i_aload_n (a := 42) r_77_0 (n_77_0 _) rfl ?_
  refine i_aload_n (a := a1) r_77_1 (n_77_1 _) rfl ?_
  refine i_getI (a := a1) r_77_2 (n_77_2 _) rfl (by decide) ha1 (fun q1 => ?_)
  refine i_putI (a := 42) (x := zI s a1 1) r_77_5 (n_77_5 _) rfl (.inl rfl) rfl lf_42 q1 ?_
  refine i_iconst r_77_8 (n_77_8 _) ?_
  refine i_istore_n (l' := [(0, rf 42), (1, rf a1), (2, rf a2), (3, iv 0)]) r_77_9 (n_77_9 _) (by decide) rfl ?_
  exact wp_pr (l' := [(0, rf 42), (1, rf a1), (2, rf a2), (3, iv 0)]) rfl h
theorem v_BestOrder_search_10 {S : Option (Nat × (Nat → Int32))} {s : zSt} {Q : Option Value ⊕ Nat → zSt → Prop} {a1 : Int} {a2 : Int} {x3 : Int} (ha1 : isO a1 1) (ha2 : isO a2 4)
    (h : rng x3 ∧ (((zI s 42 2) ≤ x3 → wp S 78 0 [(0, rf 42)] [] s (fun o4 s4 => zkU ((zp2 (zI s4 a2 5)) ∧ ((0 ≤ (zI s4 47 0)) ∧ (((zI s4 47 0) ≤ 1000000) ∧ (rng (zup (zI s4 47 0) (zI s4 a2 5)) ∧ (wp S 84 0 [(0, rf 42)] [] (zwI s4 42 0 (zup (zI s4 47 0) (zI s4 a2 5))) (fun o13 s13 => zkU (Q rU s13) (fun e13 => False) o13)))))) (fun e4 => False) o4)) ∧ (x3 < (zI s 42 2) → (0 ≤ x3 ∧ x3 < 8) ∧ (rng ((zI s (a1 + 3) x3) * (zI s (a2 + 3) x3)) ∧ ((¬ (20 < (zI (zwI (zwI s 44 x3 ((zI s (a1 + 3) x3) * (zI s (a2 + 3) x3))) 45 x3 (zI (zwI s 44 x3 ((zI s (a1 + 3) x3) * (zI s (a2 + 3) x3))) (a2 + 4) x3)) (a1 + 2) x3) ∧ (zI (zwI (zwI s 44 x3 ((zI s (a1 + 3) x3) * (zI s (a2 + 3) x3))) 45 x3 (zI (zwI s 44 x3 ((zI s (a1 + 3) x3) * (zI s (a2 + 3) x3))) (a2 + 4) x3)) (a1 + 2) x3) ≤ 36) → wp S 77 10 [(0, rf 42), (1, rf a1), (2, rf a2), (3, iv (x3 + 1))] [] (zwI (zwI (zwI s 44 x3 ((zI s (a1 + 3) x3) * (zI s (a2 + 3) x3))) 45 x3 (zI (zwI s 44 x3 ((zI s (a1 + 3) x3) * (zI s (a2 + 3) x3))) (a2 + 4) x3)) 46 x3 0) Q) ∧ (20 < (zI (zwI (zwI s 44 x3 ((zI s (a1 + 3) x3) * (zI s (a2 + 3) x3))) 45 x3 (zI (zwI s 44 x3 ((zI s (a1 + 3) x3) * (zI s (a2 + 3) x3))) (a2 + 4) x3)) (a1 + 2) x3) ∧ (zI (zwI (zwI s 44 x3 ((zI s (a1 + 3) x3) * (zI s (a2 + 3) x3))) 45 x3 (zI (zwI s 44 x3 ((zI s (a1 + 3) x3) * (zI s (a2 + 3) x3))) (a2 + 4) x3)) (a1 + 2) x3) ≤ 36 → rng ((zI (zwI (zwI s 44 x3 ((zI s (a1 + 3) x3) * (zI s (a2 + 3) x3))) 45 x3 (zI (zwI s 44 x3 ((zI s (a1 + 3) x3) * (zI s (a2 + 3) x3))) (a2 + 4) x3)) (a1 + 2) x3) - 20) ∧ (wp S 77 10 [(0, rf 42), (1, rf a1), (2, rf a2), (3, iv (x3 + 1))] [] (zwI (zwI (zwI s 44 x3 ((zI s (a1 + 3) x3) * (zI s (a2 + 3) x3))) 45 x3 (zI (zwI s 44 x3 ((zI s (a1 + 3) x3) * (zI s (a2 + 3) x3))) (a2 + 4) x3)) 46 x3 ((zI (zwI (zwI s 44 x3 ((zI s (a1 + 3) x3) * (zI s (a2 + 3) x3))) 45 x3 (zI (zwI s 44 x3 ((zI s (a1 + 3) x3) * (zI s (a2 + 3) x3))) (a2 + 4) x3)) (a1 + 2) x3) - 20)) Q))))))) :
    wp S 77 10 [(0, rf 42), (1, rf a1), (2, rf a2), (3, iv x3)] [] s Q := by
  refine i_iload_n (x := x3) r_77_10 rfl rfl ?_
  refine i_aload_n (a := 42) r_77_11 (n_77_11 _) rfl ?_
  refine i_getI (a := 42) r_77_12 (n_77_12 _) rfl (by decide) lf_42 (fun q1 => ?_)
  obtain ⟨g2, h⟩ := h
  refine i_icmp (t := 86) r_77_15 (n_77_15 _) rfl (T_ge g2 q1) (fun c3 => ?_) (fun c3 => ?_)
  · replace h := h.1 c3
    refine i_aload_n (a := 42) r_77_86 (n_77_86 _) rfl ?_
    refine wp_virt (b := 42) (rest := []) (Ls := [(0, rf 42)]) r_77_87 (n_77_87 _) rfl ⟨rfl, rfl, by decide, by decide⟩ rfl rfl lf_42 ⟨rfl, Nat.le_of_ble_eq_true rfl, Nat.le_of_ble_eq_true rfl⟩ rfl h ?_
    intro o4 s4 h
    rcases h with ⟨rfl, h⟩ | ⟨e4, rfl, h⟩
    · refine .inl ⟨none, rfl, ?_⟩
      refine i_aload_n (a := 42) r_77_90 (n_77_90 _) rfl ?_
      refine i_aload_n (a := 42) r_77_91 (n_77_91 _) rfl ?_
      refine i_getR (a := 42) (b := 47) r_77_92 (n_77_92 _) rfl rfl rfl (by omega) lf_42 (by omega) ?_
      refine i_iconst r_77_95 (n_77_95 _) ?_
      refine i_iaload (a := 47) (j := 0) r_77_96 (n_77_96 _) lf_47 ⟨by omega, by omega⟩ (by omega) (by omega) (fun q6 => ?_)
      refine i_aload_n (a := a2) r_77_97 (n_77_97 _) rfl ?_
      refine i_getI (a := a2) r_77_98 (n_77_98 _) rfl (by decide) ha2 (fun q7 => ?_)
      obtain ⟨g8, h⟩ := h
      obtain ⟨g9, h⟩ := h
      obtain ⟨g10, h⟩ := h
      refine wp_stat (rest := [rf 42]) (Ls := [(0, iv (zI s4 47 0)), (1, iv (zI s4 a2 5))]) r_77_101 (n_77_101 _) rfl ⟨rfl, by decide, by decide, by decide⟩ rfl rfl ⟨rfl, Nat.le_of_ble_eq_true rfl, Nat.le_of_ble_eq_true rfl⟩ rfl (K_RL_roundUp g8 g9 g10) ?_
      rintro _ _ ⟨rfl, rfl⟩
      refine .inl ⟨some (iv (zup (zI s4 47 0) (zI s4 a2 5))), rfl, ?_⟩
      show wp S 77 104 [(0, rf 42), (1, rf a1), (2, rf a2), (3, iv x3)] [iv (zup (zI s4 47 0) (zI s4 a2 5)), rf 42] s4 Q
      obtain ⟨g12, h⟩ := h
      refine i_putI (a := 42) (x := zup (zI s4 47 0) (zI s4 a2 5)) r_77_104 (n_77_104 _) rfl (.inl rfl) rfl lf_42 g12 ?_
      refine i_aload_n (a := 42) r_77_107 (n_77_107 _) rfl ?_
      refine wp_virt (b := 42) (rest := []) (Ls := [(0, rf 42)]) r_77_108 (n_77_108 _) rfl ⟨rfl, rfl, by decide, by decide⟩ rfl rfl lf_42 ⟨rfl, Nat.le_of_ble_eq_true rfl, Nat.le_of_ble_eq_true rfl⟩ rfl h ?_
      intro o13 s13 h
      rcases h with ⟨rfl, h⟩ | ⟨e13, rfl, h⟩
      · refine .inl ⟨none, rfl, ?_⟩
        exact i_return r_77_111 (n_77_111 _) rfl h
      · skip
        exact h.elim
    · skip
      exact h.elim
  · replace h := h.2 c3
    refine i_aload_n (a := 42) r_77_18 (n_77_18 _) rfl ?_
    refine i_getR (a := 42) (b := 44) r_77_19 (n_77_19 _) rfl rfl rfl (by omega) lf_42 (by omega) ?_
    refine i_iload_n (x := x3) r_77_22 (n_77_22 _) rfl ?_
    refine i_aload_n (a := a1) r_77_23 (n_77_23 _) rfl ?_
    refine i_getR (a := a1) (b := a1 + 3) r_77_24 (n_77_24 _) rfl rfl rfl (by omega) ha1 (by omega) ?_
    have t15 := (t_1_4 ha1)
    refine i_iload_n (x := x3) r_77_27 (n_77_27 _) rfl ?_
    obtain ⟨g16, h⟩ := h
    refine i_iaload (a := a1 + 3) (j := x3) r_77_28 (n_77_28 _) t15 ⟨by omega, by omega⟩ (by omega) (by omega) (fun q17 => ?_)
    refine i_aload_n (a := a2) r_77_29 (n_77_29 _) rfl ?_
    refine i_getR (a := a2) (b := a2 + 3) r_77_30 (n_77_30 _) rfl rfl rfl (by omega) ha2 (by omega) ?_
    have t18 := (t_4_2 ha2)
    refine i_iload_n (x := x3) r_77_33 (n_77_33 _) rfl ?_
    refine i_iaload (a := a2 + 3) (j := x3) r_77_34 (n_77_34 _) t18 ⟨by omega, by omega⟩ (by omega) (by omega) (fun q19 => ?_)
    refine i_imul r_77_35 (n_77_35 _) ?_
    obtain ⟨g20, h⟩ := h
    refine i_iastore (a := 44) (j := x3) (x := (zI s (a1 + 3) x3) * (zI s (a2 + 3) x3)) r_77_36 (n_77_36 _) lf_44 ⟨by omega, by omega⟩ (by omega) (by omega) g20 ?_
    refine i_aload_n (a := 42) r_77_37 (n_77_37 _) rfl ?_
    refine i_getR (a := 42) (b := 45) r_77_38 (n_77_38 _) rfl rfl rfl (by omega) lf_42 (by omega) ?_
    refine i_iload_n (x := x3) r_77_41 (n_77_41 _) rfl ?_
    refine i_aload_n (a := a2) r_77_42 (n_77_42 _) rfl ?_
    refine i_getR (a := a2) (b := a2 + 4) r_77_43 (n_77_43 _) rfl rfl rfl (by omega) ha2 (by omega) ?_
    have t21 := (t_4_3 ha2)
    refine i_iload_n (x := x3) r_77_46 (n_77_46 _) rfl ?_
    refine i_iaload (a := a2 + 4) (j := x3) r_77_47 (n_77_47 _) t21 ⟨by omega, by omega⟩ (by omega) (by omega) (fun q22 => ?_)
    refine i_iastore (a := 45) (j := x3) (x := zI (zwI s 44 x3 ((zI s (a1 + 3) x3) * (zI s (a2 + 3) x3))) (a2 + 4) x3) r_77_48 (n_77_48 _) lf_45 ⟨by omega, by omega⟩ (by omega) (by omega) q22 ?_
    refine i_aload_n (a := 42) r_77_49 (n_77_49 _) rfl ?_
    refine i_getR (a := 42) (b := 46) r_77_50 (n_77_50 _) rfl rfl rfl (by omega) lf_42 (by omega) ?_
    refine i_iload_n (x := x3) r_77_53 (n_77_53 _) rfl ?_
    refine i_aload_n (a := a1) r_77_54 (n_77_54 _) rfl ?_
    refine i_getR (a := a1) (b := a1 + 2) r_77_55 (n_77_55 _) rfl rfl rfl (by omega) ha1 (by omega) ?_
    have t23 := (t_1_3 ha1)
    refine i_iload_n (x := x3) r_77_58 (n_77_58 _) rfl ?_
    refine i_iaload (a := a1 + 2) (j := x3) r_77_59 (n_77_59 _) t23 ⟨by omega, by omega⟩ (by omega) (by omega) (fun q24 => ?_)
    refine wp_stat (rest := [iv x3, rf 46]) (Ls := [(0, iv (zI (zwI (zwI s 44 x3 ((zI s (a1 + 3) x3) * (zI s (a2 + 3) x3))) 45 x3 (zI (zwI s 44 x3 ((zI s (a1 + 3) x3) * (zI s (a2 + 3) x3))) (a2 + 4) x3)) (a1 + 2) x3))]) r_77_60 (n_77_60 _) rfl ⟨rfl, by decide, by decide, by decide⟩ rfl rfl ⟨rfl, Nat.le_of_ble_eq_true rfl, Nat.le_of_ble_eq_true rfl⟩ rfl (K_RL_isBits q24) ?_
    rintro _ _ ⟨rfl, rfl⟩
    refine .inl ⟨some (iv (bi (20 < (zI (zwI (zwI s 44 x3 ((zI s (a1 + 3) x3) * (zI s (a2 + 3) x3))) 45 x3 (zI (zwI s 44 x3 ((zI s (a1 + 3) x3) * (zI s (a2 + 3) x3))) (a2 + 4) x3)) (a1 + 2) x3) ∧ (zI (zwI (zwI s 44 x3 ((zI s (a1 + 3) x3) * (zI s (a2 + 3) x3))) 45 x3 (zI (zwI s 44 x3 ((zI s (a1 + 3) x3) * (zI s (a2 + 3) x3))) (a2 + 4) x3)) (a1 + 2) x3) ≤ 36))), rfl, ?_⟩
    show wp S 77 63 [(0, rf 42), (1, rf a1), (2, rf a2), (3, iv x3)] [iv (bi (20 < (zI (zwI (zwI s 44 x3 ((zI s (a1 + 3) x3) * (zI s (a2 + 3) x3))) 45 x3 (zI (zwI s 44 x3 ((zI s (a1 + 3) x3) * (zI s (a2 + 3) x3))) (a2 + 4) x3)) (a1 + 2) x3) ∧ (zI (zwI (zwI s 44 x3 ((zI s (a1 + 3) x3) * (zI s (a2 + 3) x3))) 45 x3 (zI (zwI s 44 x3 ((zI s (a1 + 3) x3) * (zI s (a2 + 3) x3))) (a2 + 4) x3)) (a1 + 2) x3) ≤ 36)), iv x3, rf 46] (zwI (zwI s 44 x3 ((zI s (a1 + 3) x3) * (zI s (a2 + 3) x3))) 45 x3 (zI (zwI s 44 x3 ((zI s (a1 + 3) x3) * (zI s (a2 + 3) x3))) (a2 + 4) x3)) Q
    refine i_if (t := 78) r_77_63 (n_77_63 _) rfl (TB_eq) (fun c26 => ?_) (fun c26 => ?_)
    · replace h := h.1 c26
      refine i_iconst r_77_78 (n_77_78 _) ?_
      refine i_iastore (a := 46) (j := x3) (x := 0) r_77_79 (n_77_79 _) lf_46 ⟨by omega, by omega⟩ (by omega) (by omega) ⟨by omega, by omega⟩ ?_
      refine i_iinc (x := x3) (l' := [(0, rf 42), (1, rf a1), (2, rf a2), (3, iv (x3 + 1))]) r_77_80 (n_77_80 _) (by decide) rfl rfl ?_
      refine i_goto (t := 10) r_77_83 (n_77_83 _) rfl ?_
      exact wp_pr (l' := [(0, rf 42), (1, rf a1), (2, rf a2), (3, iv (x3 + 1))]) rfl h
    · replace h := h.2 c26
      refine i_aload_n (a := a1) r_77_66 (n_77_66 _) rfl ?_
      refine i_getR (a := a1) (b := a1 + 2) r_77_67 (n_77_67 _) rfl rfl rfl (by omega) ha1 (by omega) ?_
      have t27 := (t_1_3 ha1)
      refine i_iload_n (x := x3) r_77_70 (n_77_70 _) rfl ?_
      refine i_iaload (a := a1 + 2) (j := x3) r_77_71 (n_77_71 _) t27 ⟨by omega, by omega⟩ (by omega) (by omega) (fun q28 => ?_)
      refine i_bipush r_77_72 (n_77_72 _) rfl ?_
      refine i_isub r_77_74 (n_77_74 _) ?_
      refine i_goto (t := 79) r_77_75 (n_77_75 _) rfl ?_
      obtain ⟨g29, h⟩ := h
      refine i_iastore (a := 46) (j := x3) (x := (zI (zwI (zwI s 44 x3 ((zI s (a1 + 3) x3) * (zI s (a2 + 3) x3))) 45 x3 (zI (zwI s 44 x3 ((zI s (a1 + 3) x3) * (zI s (a2 + 3) x3))) (a2 + 4) x3)) (a1 + 2) x3) - 20) r_77_79 (n_77_79 _) lf_46 ⟨by omega, by omega⟩ (by omega) (by omega) g29 ?_
      refine i_iinc (x := x3) (l' := [(0, rf 42), (1, rf a1), (2, rf a2), (3, iv (x3 + 1))]) r_77_80 (n_77_80 _) (by decide) rfl rfl ?_
      refine i_goto (t := 10) r_77_83 (n_77_83 _) rfl ?_
      exact wp_pr (l' := [(0, rf 42), (1, rf a1), (2, rf a2), (3, iv (x3 + 1))]) rfl h
theorem r_78_0 : xfetch 78 0 = some (.iconst 1, 1) := by decide +kernel
theorem n_78_0 : ∀ l, xpr 78 0 l = l := xpr_no (by decide +kernel)
theorem r_78_1 : xfetch 78 1 = some (.aload_n 0, 1) := by decide +kernel
theorem n_78_1 : ∀ l, xpr 78 1 l = l := xpr_no (by decide +kernel)
theorem r_78_2 : xfetch 78 2 = some (.getfield 33, 3) := by decide +kernel
theorem n_78_2 : ∀ l, xpr 78 2 l = l := xpr_no (by decide +kernel)
theorem r_78_5 : xfetch 78 5 = some (.ishl, 1) := by decide +kernel
theorem n_78_5 : ∀ l, xpr 78 5 l = l := xpr_no (by decide +kernel)
theorem r_78_6 : xfetch 78 6 = some (.iconst 1, 1) := by decide +kernel
theorem n_78_6 : ∀ l, xpr 78 6 l = l := xpr_no (by decide +kernel)
theorem r_78_7 : xfetch 78 7 = some (.isub, 1) := by decide +kernel
theorem n_78_7 : ∀ l, xpr 78 7 l = l := xpr_no (by decide +kernel)
theorem r_78_8 : xfetch 78 8 = some (.istore_n 1, 1) := by decide +kernel
theorem n_78_8 : ∀ l, xpr 78 8 l = l := xpr_no (by decide +kernel)
theorem r_78_9 : xfetch 78 9 = some (.iload_n 1, 1) := by decide +kernel
theorem r_78_10 : xfetch 78 10 = some (.ifCond .lt 54, 3) := by decide +kernel
theorem n_78_10 : ∀ l, xpr 78 10 l = l := xpr_no (by decide +kernel)
theorem r_78_13 : xfetch 78 13 = some (.aload_n 0, 1) := by decide +kernel
theorem n_78_13 : ∀ l, xpr 78 13 l = l := xpr_no (by decide +kernel)
theorem r_78_14 : xfetch 78 14 = some (.iload_n 1, 1) := by decide +kernel
theorem n_78_14 : ∀ l, xpr 78 14 l = l := xpr_no (by decide +kernel)
theorem r_78_15 : xfetch 78 15 = some (.invokevirtual 66, 3) := by decide +kernel
theorem n_78_15 : ∀ l, xpr 78 15 l = l := xpr_no (by decide +kernel)
theorem r_78_18 : xfetch 78 18 = some (.ifCond .eq 8, 3) := by decide +kernel
theorem n_78_18 : ∀ l, xpr 78 18 l = l := xpr_no (by decide +kernel)
theorem r_78_21 : xfetch 78 21 = some (.bipush 16, 2) := by decide +kernel
theorem n_78_21 : ∀ l, xpr 78 21 l = l := xpr_no (by decide +kernel)
theorem r_78_23 : xfetch 78 23 = some (.goto 4, 3) := by decide +kernel
theorem n_78_23 : ∀ l, xpr 78 23 l = l := xpr_no (by decide +kernel)
theorem r_78_26 : xfetch 78 26 = some (.iconst 1, 1) := by decide +kernel
theorem n_78_26 : ∀ l, xpr 78 26 l = l := xpr_no (by decide +kernel)
theorem r_78_27 : xfetch 78 27 = some (.istore_n 2, 1) := by decide +kernel
theorem n_78_27 : ∀ l, xpr 78 27 l = l := xpr_no (by decide +kernel)
theorem r_78_28 : xfetch 78 28 = some (.iconst 0, 1) := by decide +kernel
theorem n_78_28 : ∀ l, xpr 78 28 l = l := xpr_no (by decide +kernel)
theorem r_78_29 : xfetch 78 29 = some (.istore_n 3, 1) := by decide +kernel
theorem n_78_29 : ∀ l, xpr 78 29 l = l := xpr_no (by decide +kernel)
theorem r_78_30 : xfetch 78 30 = some (.iload_n 3, 1) := by decide +kernel
theorem r_78_31 : xfetch 78 31 = some (.iload_n 2, 1) := by decide +kernel
theorem n_78_31 : ∀ l, xpr 78 31 l = l := xpr_no (by decide +kernel)
theorem r_78_32 : xfetch 78 32 = some (.if_icmp .ge 26, 3) := by decide +kernel
theorem n_78_32 : ∀ l, xpr 78 32 l = l := xpr_no (by decide +kernel)
theorem r_78_35 : xfetch 78 35 = some (.aload_n 0, 1) := by decide +kernel
theorem n_78_35 : ∀ l, xpr 78 35 l = l := xpr_no (by decide +kernel)
theorem r_78_36 : xfetch 78 36 = some (.getfield 24, 3) := by decide +kernel
theorem n_78_36 : ∀ l, xpr 78 36 l = l := xpr_no (by decide +kernel)
theorem r_78_39 : xfetch 78 39 = some (.iload_n 1, 1) := by decide +kernel
theorem n_78_39 : ∀ l, xpr 78 39 l = l := xpr_no (by decide +kernel)
theorem r_78_40 : xfetch 78 40 = some (.bipush 16, 2) := by decide +kernel
theorem n_78_40 : ∀ l, xpr 78 40 l = l := xpr_no (by decide +kernel)
theorem r_78_42 : xfetch 78 42 = some (.imul, 1) := by decide +kernel
theorem n_78_42 : ∀ l, xpr 78 42 l = l := xpr_no (by decide +kernel)
theorem r_78_43 : xfetch 78 43 = some (.iload_n 3, 1) := by decide +kernel
theorem n_78_43 : ∀ l, xpr 78 43 l = l := xpr_no (by decide +kernel)
theorem r_78_44 : xfetch 78 44 = some (.iadd, 1) := by decide +kernel
theorem n_78_44 : ∀ l, xpr 78 44 l = l := xpr_no (by decide +kernel)
theorem r_78_45 : xfetch 78 45 = some (.aload_n 0, 1) := by decide +kernel
theorem n_78_45 : ∀ l, xpr 78 45 l = l := xpr_no (by decide +kernel)
theorem r_78_46 : xfetch 78 46 = some (.iload_n 1, 1) := by decide +kernel
theorem n_78_46 : ∀ l, xpr 78 46 l = l := xpr_no (by decide +kernel)
theorem r_78_47 : xfetch 78 47 = some (.iload_n 3, 1) := by decide +kernel
theorem n_78_47 : ∀ l, xpr 78 47 l = l := xpr_no (by decide +kernel)
theorem r_78_48 : xfetch 78 48 = some (.invokevirtual 69, 3) := by decide +kernel
theorem n_78_48 : ∀ l, xpr 78 48 l = l := xpr_no (by decide +kernel)
theorem r_78_51 : xfetch 78 51 = some (.iastore, 1) := by decide +kernel
theorem n_78_51 : ∀ l, xpr 78 51 l = l := xpr_no (by decide +kernel)
theorem r_78_52 : xfetch 78 52 = some (.iinc 3 1, 3) := by decide +kernel
theorem n_78_52 : ∀ l, xpr 78 52 l = l := xpr_no (by decide +kernel)
theorem r_78_55 : xfetch 78 55 = some (.goto (-25), 3) := by decide +kernel
theorem n_78_55 : ∀ l, xpr 78 55 l = l := xpr_no (by decide +kernel)
theorem r_78_58 : xfetch 78 58 = some (.iinc 1 (-1), 3) := by decide +kernel
theorem n_78_58 : ∀ l, xpr 78 58 l = l := xpr_no (by decide +kernel)
theorem r_78_61 : xfetch 78 61 = some (.goto (-52), 3) := by decide +kernel
theorem n_78_61 : ∀ l, xpr 78 61 l = l := xpr_no (by decide +kernel)
theorem r_78_64 : xfetch 78 64 = some (.return_, 1) := by decide +kernel
theorem n_78_64 : ∀ l, xpr 78 64 l = l := xpr_no (by decide +kernel)
theorem v_BestOrder_fillNeeds_0 {S : Option (Nat × (Nat → Int32))} {s : zSt} {Q : Option Value ⊕ Nat → zSt → Prop}  
    (h : wp S 78 9 [(0, rf 42), (1, iv ((zshl 1 (zI s 42 2)) - 1))] [] s Q) :
    wp S 78 0 [(0, rf 42)] [] s Q := by
  refine i_iconst r_78_0 (n_78_0 _) ?_
  refine i_aload_n (a := 42) r_78_1 (n_78_1 _) rfl ?_
  refine i_getI (a := 42) r_78_2 (n_78_2 _) rfl (by decide) lf_42 (fun q1 => ?_)
  refine i_ishl r_78_5 (n_78_5 _) ?_
  refine i_iconst r_78_6 (n_78_6 _) ?_
  refine i_isub r_78_7 (n_78_7 _) ?_
  refine i_istore_n (l' := [(0, rf 42), (1, iv ((zshl 1 (zI s 42 2)) - 1))]) r_78_8 (n_78_8 _) (by decide) rfl ?_
  exact wp_pr (l' := [(0, rf 42), (1, iv ((zshl 1 (zI s 42 2)) - 1))]) rfl h
theorem v_BestOrder_fillNeeds_9 {S : Option (Nat × (Nat → Int32))} {s : zSt} {Q : Option Value ⊕ Nat → zSt → Prop} {x1 : Int} 
    (h : rng x1 ∧ ((x1 < 0 → Q rU s) ∧ (0 ≤ x1 → wp S 79 0 [(0, rf 42), (1, iv x1)] [] s (fun o3 s3 => zkI (fun y3 => (y3 = 0 → wp S 78 30 [(0, rf 42), (1, iv x1), (2, iv 1), (3, iv 0)] [] s3 Q) ∧ (y3 ≠ 0 → wp S 78 30 [(0, rf 42), (1, iv x1), (2, iv 16), (3, iv 0)] [] s3 Q)) (fun e3 => False) o3)))) :
    wp S 78 9 [(0, rf 42), (1, iv x1)] [] s Q := by
  refine i_iload_n (x := x1) r_78_9 rfl rfl ?_
  obtain ⟨g1, h⟩ := h
  refine i_if (t := 64) r_78_10 (n_78_10 _) rfl (T_lt g1 ⟨by omega, by omega⟩) (fun c2 => ?_) (fun c2 => ?_)
  · replace h := h.1 c2
    exact i_return r_78_64 (n_78_64 _) rfl h
  · replace h := h.2 c2
    refine i_aload_n (a := 42) r_78_13 (n_78_13 _) rfl ?_
    refine i_iload_n (x := x1) r_78_14 (n_78_14 _) rfl ?_
    refine wp_virt (b := 42) (rest := []) (Ls := [(0, rf 42), (1, iv x1)]) r_78_15 (n_78_15 _) rfl ⟨rfl, rfl, by decide, by decide⟩ rfl rfl lf_42 ⟨rfl, Nat.le_of_ble_eq_true rfl, Nat.le_of_ble_eq_true rfl⟩ rfl h ?_
    intro o3 s3 h
    rcases h with ⟨y3, q4, rfl, h⟩ | ⟨e3, rfl, h⟩
    · refine .inl ⟨some (iv y3), rfl, ?_⟩
      show wp S 78 18 [(0, rf 42), (1, iv x1)] [iv y3] s3 Q
      refine i_if (t := 26) r_78_18 (n_78_18 _) rfl (T_eq q4 ⟨by omega, by omega⟩) (fun c5 => ?_) (fun c5 => ?_)
      · replace h := h.1 c5
        refine i_iconst r_78_26 (n_78_26 _) ?_
        refine i_istore_n (l' := [(0, rf 42), (1, iv x1), (2, iv 1)]) r_78_27 (n_78_27 _) (by decide) rfl ?_
        refine i_iconst r_78_28 (n_78_28 _) ?_
        refine i_istore_n (l' := [(0, rf 42), (1, iv x1), (2, iv 1), (3, iv 0)]) r_78_29 (n_78_29 _) (by decide) rfl ?_
        exact wp_pr (l' := [(0, rf 42), (1, iv x1), (2, iv 1), (3, iv 0)]) rfl h
      · replace h := h.2 c5
        refine i_bipush r_78_21 (n_78_21 _) rfl ?_
        refine i_goto (t := 27) r_78_23 (n_78_23 _) rfl ?_
        refine i_istore_n (l' := [(0, rf 42), (1, iv x1), (2, iv 16)]) r_78_27 (n_78_27 _) (by decide) rfl ?_
        refine i_iconst r_78_28 (n_78_28 _) ?_
        refine i_istore_n (l' := [(0, rf 42), (1, iv x1), (2, iv 16), (3, iv 0)]) r_78_29 (n_78_29 _) (by decide) rfl ?_
        exact wp_pr (l' := [(0, rf 42), (1, iv x1), (2, iv 16), (3, iv 0)]) rfl h
    · skip
      exact h.elim
theorem v_BestOrder_fillNeeds_30 {S : Option (Nat × (Nat → Int32))} {s : zSt} {Q : Option Value ⊕ Nat → zSt → Prop} {x1 : Int} {x2 : Int} {x3 : Int} 
    (h : rng x3 ∧ (rng x2 ∧ ((x2 ≤ x3 → wp S 78 9 [(0, rf 42), (1, iv (x1 + (-1)))] [] s Q) ∧ (x3 < x2 → wp S 80 0 [(0, rf 42), (1, iv x1), (2, iv x3)] [] s (fun o4 s4 => zkI (fun y4 => (0 ≤ ((x1 * 16) + x3) ∧ ((x1 * 16) + x3) < 4096) ∧ (wp S 78 30 [(0, rf 42), (1, iv x1), (2, iv x2), (3, iv (x3 + 1))] [] (zwI s4 47 ((x1 * 16) + x3) y4) Q)) (fun e4 => False) o4))))) :
    wp S 78 30 [(0, rf 42), (1, iv x1), (2, iv x2), (3, iv x3)] [] s Q := by
  refine i_iload_n (x := x3) r_78_30 rfl rfl ?_
  refine i_iload_n (x := x2) r_78_31 (n_78_31 _) rfl ?_
  obtain ⟨g1, h⟩ := h
  obtain ⟨g2, h⟩ := h
  refine i_icmp (t := 58) r_78_32 (n_78_32 _) rfl (T_ge g1 g2) (fun c3 => ?_) (fun c3 => ?_)
  · replace h := h.1 c3
    refine i_iinc (x := x1) (l' := [(0, rf 42), (1, iv (x1 + (-1))), (2, iv x2), (3, iv x3)]) r_78_58 (n_78_58 _) (by decide) rfl rfl ?_
    refine i_goto (t := 9) r_78_61 (n_78_61 _) rfl ?_
    exact wp_pr (l' := [(0, rf 42), (1, iv (x1 + (-1)))]) rfl h
  · replace h := h.2 c3
    refine i_aload_n (a := 42) r_78_35 (n_78_35 _) rfl ?_
    refine i_getR (a := 42) (b := 47) r_78_36 (n_78_36 _) rfl rfl rfl (by omega) lf_42 (by omega) ?_
    refine i_iload_n (x := x1) r_78_39 (n_78_39 _) rfl ?_
    refine i_bipush r_78_40 (n_78_40 _) rfl ?_
    refine i_imul r_78_42 (n_78_42 _) ?_
    refine i_iload_n (x := x3) r_78_43 (n_78_43 _) rfl ?_
    refine i_iadd r_78_44 (n_78_44 _) ?_
    refine i_aload_n (a := 42) r_78_45 (n_78_45 _) rfl ?_
    refine i_iload_n (x := x1) r_78_46 (n_78_46 _) rfl ?_
    refine i_iload_n (x := x3) r_78_47 (n_78_47 _) rfl ?_
    refine wp_virt (b := 42) (rest := [iv ((x1 * 16) + x3), rf 47]) (Ls := [(0, rf 42), (1, iv x1), (2, iv x3)]) r_78_48 (n_78_48 _) rfl ⟨rfl, rfl, by decide, by decide⟩ rfl rfl lf_42 ⟨rfl, Nat.le_of_ble_eq_true rfl, Nat.le_of_ble_eq_true rfl⟩ rfl h ?_
    intro o4 s4 h
    rcases h with ⟨y4, q5, rfl, h⟩ | ⟨e4, rfl, h⟩
    · refine .inl ⟨some (iv y4), rfl, ?_⟩
      show wp S 78 51 [(0, rf 42), (1, iv x1), (2, iv x2), (3, iv x3)] [iv y4, iv ((x1 * 16) + x3), rf 47] s4 Q
      obtain ⟨g6, h⟩ := h
      refine i_iastore (a := 47) (j := (x1 * 16) + x3) (x := y4) r_78_51 (n_78_51 _) lf_47 ⟨by omega, by omega⟩ (by omega) (by omega) q5 ?_
      refine i_iinc (x := x3) (l' := [(0, rf 42), (1, iv x1), (2, iv x2), (3, iv (x3 + 1))]) r_78_52 (n_78_52 _) (by decide) rfl rfl ?_
      refine i_goto (t := 30) r_78_55 (n_78_55 _) rfl ?_
      exact wp_pr (l' := [(0, rf 42), (1, iv x1), (2, iv x2), (3, iv (x3 + 1))]) rfl h
    · skip
      exact h.elim
theorem r_79_0 : xfetch 79 0 = some (.iconst 0, 1) := by decide +kernel
theorem n_79_0 : ∀ l, xpr 79 0 l = l := xpr_no (by decide +kernel)
theorem r_79_1 : xfetch 79 1 = some (.istore_n 2, 1) := by decide +kernel
theorem n_79_1 : ∀ l, xpr 79 1 l = l := xpr_no (by decide +kernel)
theorem r_79_2 : xfetch 79 2 = some (.iload_n 2, 1) := by decide +kernel
theorem r_79_3 : xfetch 79 3 = some (.aload_n 0, 1) := by decide +kernel
theorem n_79_3 : ∀ l, xpr 79 3 l = l := xpr_no (by decide +kernel)
theorem r_79_4 : xfetch 79 4 = some (.getfield 33, 3) := by decide +kernel
theorem n_79_4 : ∀ l, xpr 79 4 l = l := xpr_no (by decide +kernel)
theorem r_79_7 : xfetch 79 7 = some (.if_icmp .ge 29, 3) := by decide +kernel
theorem n_79_7 : ∀ l, xpr 79 7 l = l := xpr_no (by decide +kernel)
theorem r_79_10 : xfetch 79 10 = some (.iload_n 1, 1) := by decide +kernel
theorem n_79_10 : ∀ l, xpr 79 10 l = l := xpr_no (by decide +kernel)
theorem r_79_11 : xfetch 79 11 = some (.iload_n 2, 1) := by decide +kernel
theorem n_79_11 : ∀ l, xpr 79 11 l = l := xpr_no (by decide +kernel)
theorem r_79_12 : xfetch 79 12 = some (.ishr, 1) := by decide +kernel
theorem n_79_12 : ∀ l, xpr 79 12 l = l := xpr_no (by decide +kernel)
theorem r_79_13 : xfetch 79 13 = some (.iconst 1, 1) := by decide +kernel
theorem n_79_13 : ∀ l, xpr 79 13 l = l := xpr_no (by decide +kernel)
theorem r_79_14 : xfetch 79 14 = some (.iand, 1) := by decide +kernel
theorem n_79_14 : ∀ l, xpr 79 14 l = l := xpr_no (by decide +kernel)
theorem r_79_15 : xfetch 79 15 = some (.iconst 1, 1) := by decide +kernel
theorem n_79_15 : ∀ l, xpr 79 15 l = l := xpr_no (by decide +kernel)
theorem r_79_16 : xfetch 79 16 = some (.if_icmp .ne 14, 3) := by decide +kernel
theorem n_79_16 : ∀ l, xpr 79 16 l = l := xpr_no (by decide +kernel)
theorem r_79_19 : xfetch 79 19 = some (.aload_n 0, 1) := by decide +kernel
theorem n_79_19 : ∀ l, xpr 79 19 l = l := xpr_no (by decide +kernel)
theorem r_79_20 : xfetch 79 20 = some (.getfield 21, 3) := by decide +kernel
theorem n_79_20 : ∀ l, xpr 79 20 l = l := xpr_no (by decide +kernel)
theorem r_79_23 : xfetch 79 23 = some (.iload_n 2, 1) := by decide +kernel
theorem n_79_23 : ∀ l, xpr 79 23 l = l := xpr_no (by decide +kernel)
theorem r_79_24 : xfetch 79 24 = some (.iaload, 1) := by decide +kernel
theorem n_79_24 : ∀ l, xpr 79 24 l = l := xpr_no (by decide +kernel)
theorem r_79_25 : xfetch 79 25 = some (.ifCond .le 5, 3) := by decide +kernel
theorem n_79_25 : ∀ l, xpr 79 25 l = l := xpr_no (by decide +kernel)
theorem r_79_28 : xfetch 79 28 = some (.iconst 1, 1) := by decide +kernel
theorem n_79_28 : ∀ l, xpr 79 28 l = l := xpr_no (by decide +kernel)
theorem r_79_29 : xfetch 79 29 = some (.ireturn, 1) := by decide +kernel
theorem n_79_29 : ∀ l, xpr 79 29 l = l := xpr_no (by decide +kernel)
theorem r_79_30 : xfetch 79 30 = some (.iinc 2 1, 3) := by decide +kernel
theorem n_79_30 : ∀ l, xpr 79 30 l = l := xpr_no (by decide +kernel)
theorem r_79_33 : xfetch 79 33 = some (.goto (-31), 3) := by decide +kernel
theorem n_79_33 : ∀ l, xpr 79 33 l = l := xpr_no (by decide +kernel)
theorem r_79_36 : xfetch 79 36 = some (.iconst 0, 1) := by decide +kernel
theorem n_79_36 : ∀ l, xpr 79 36 l = l := xpr_no (by decide +kernel)
theorem r_79_37 : xfetch 79 37 = some (.ireturn, 1) := by decide +kernel
theorem n_79_37 : ∀ l, xpr 79 37 l = l := xpr_no (by decide +kernel)
theorem v_BestOrder_hasBits_0 {S : Option (Nat × (Nat → Int32))} {s : zSt} {Q : Option Value ⊕ Nat → zSt → Prop} {x1 : Int} 
    (h : wp S 79 2 [(0, rf 42), (1, iv x1), (2, iv 0)] [] s Q) :
    wp S 79 0 [(0, rf 42), (1, iv x1)] [] s Q := by
  refine i_iconst r_79_0 (n_79_0 _) ?_
  refine i_istore_n (l' := [(0, rf 42), (1, iv x1), (2, iv 0)]) r_79_1 (n_79_1 _) (by decide) rfl ?_
  exact wp_pr (l' := [(0, rf 42), (1, iv x1), (2, iv 0)]) rfl h
theorem v_BestOrder_hasBits_2 {S : Option (Nat × (Nat → Int32))} {s : zSt} {Q : Option Value ⊕ Nat → zSt → Prop} {x1 : Int} {x2 : Int} 
    (h : rng x2 ∧ (((zI s 42 2) ≤ x2 → Q (rI 0) s) ∧ (x2 < (zI s 42 2) → ((zand (zshr x1 x2) 1) ≠ 1 → wp S 79 2 [(0, rf 42), (1, iv x1), (2, iv (x2 + 1))] [] s Q) ∧ ((zand (zshr x1 x2) 1) = 1 → (0 ≤ x2 ∧ x2 < 8) ∧ (((zI s 46 x2) ≤ 0 → wp S 79 2 [(0, rf 42), (1, iv x1), (2, iv (x2 + 1))] [] s Q) ∧ (0 < (zI s 46 x2) → Q (rI 1) s)))))) :
    wp S 79 2 [(0, rf 42), (1, iv x1), (2, iv x2)] [] s Q := by
  refine i_iload_n (x := x2) r_79_2 rfl rfl ?_
  refine i_aload_n (a := 42) r_79_3 (n_79_3 _) rfl ?_
  refine i_getI (a := 42) r_79_4 (n_79_4 _) rfl (by decide) lf_42 (fun q1 => ?_)
  obtain ⟨g2, h⟩ := h
  refine i_icmp (t := 36) r_79_7 (n_79_7 _) rfl (T_ge g2 q1) (fun c3 => ?_) (fun c3 => ?_)
  · replace h := h.1 c3
    refine i_iconst r_79_36 (n_79_36 _) ?_
    exact i_zreturn r_79_37 (n_79_37 _) rfl (by decide) h
  · replace h := h.2 c3
    refine i_iload_n (x := x1) r_79_10 (n_79_10 _) rfl ?_
    refine i_iload_n (x := x2) r_79_11 (n_79_11 _) rfl ?_
    refine i_ishr r_79_12 (n_79_12 _) ?_
    refine i_iconst r_79_13 (n_79_13 _) ?_
    refine i_iand r_79_14 (n_79_14 _) ?_
    refine i_iconst r_79_15 (n_79_15 _) ?_
    refine i_icmp (t := 30) r_79_16 (n_79_16 _) rfl (T_ne (rng_to _) ⟨by omega, by omega⟩) (fun c4 => ?_) (fun c4 => ?_)
    · replace h := h.1 c4
      refine i_iinc (x := x2) (l' := [(0, rf 42), (1, iv x1), (2, iv (x2 + 1))]) r_79_30 (n_79_30 _) (by decide) rfl rfl ?_
      refine i_goto (t := 2) r_79_33 (n_79_33 _) rfl ?_
      exact wp_pr (l' := [(0, rf 42), (1, iv x1), (2, iv (x2 + 1))]) rfl h
    · replace h := h.2 c4
      refine i_aload_n (a := 42) r_79_19 (n_79_19 _) rfl ?_
      refine i_getR (a := 42) (b := 46) r_79_20 (n_79_20 _) rfl rfl rfl (by omega) lf_42 (by omega) ?_
      refine i_iload_n (x := x2) r_79_23 (n_79_23 _) rfl ?_
      obtain ⟨g5, h⟩ := h
      refine i_iaload (a := 46) (j := x2) r_79_24 (n_79_24 _) lf_46 ⟨by omega, by omega⟩ (by omega) (by omega) (fun q6 => ?_)
      refine i_if (t := 30) r_79_25 (n_79_25 _) rfl (T_le q6 ⟨by omega, by omega⟩) (fun c7 => ?_) (fun c7 => ?_)
      · replace h := h.1 c7
        refine i_iinc (x := x2) (l' := [(0, rf 42), (1, iv x1), (2, iv (x2 + 1))]) r_79_30 (n_79_30 _) (by decide) rfl rfl ?_
        refine i_goto (t := 2) r_79_33 (n_79_33 _) rfl ?_
        exact wp_pr (l' := [(0, rf 42), (1, iv x1), (2, iv (x2 + 1))]) rfl h
      · replace h := h.2 c7
        refine i_iconst r_79_28 (n_79_28 _) ?_
        exact i_zreturn r_79_29 (n_79_29 _) rfl (by decide) h
theorem r_80_0 : xfetch 80 0 = some (.iload_n 1, 1) := by decide +kernel
theorem n_80_0 : ∀ l, xpr 80 0 l = l := xpr_no (by decide +kernel)
theorem r_80_1 : xfetch 80 1 = some (.iconst 1, 1) := by decide +kernel
theorem n_80_1 : ∀ l, xpr 80 1 l = l := xpr_no (by decide +kernel)
theorem r_80_2 : xfetch 80 2 = some (.iadd, 1) := by decide +kernel
theorem n_80_2 : ∀ l, xpr 80 2 l = l := xpr_no (by decide +kernel)
theorem r_80_3 : xfetch 80 3 = some (.iconst 1, 1) := by decide +kernel
theorem n_80_3 : ∀ l, xpr 80 3 l = l := xpr_no (by decide +kernel)
theorem r_80_4 : xfetch 80 4 = some (.aload_n 0, 1) := by decide +kernel
theorem n_80_4 : ∀ l, xpr 80 4 l = l := xpr_no (by decide +kernel)
theorem r_80_5 : xfetch 80 5 = some (.getfield 33, 3) := by decide +kernel
theorem n_80_5 : ∀ l, xpr 80 5 l = l := xpr_no (by decide +kernel)
theorem r_80_8 : xfetch 80 8 = some (.ishl, 1) := by decide +kernel
theorem n_80_8 : ∀ l, xpr 80 8 l = l := xpr_no (by decide +kernel)
theorem r_80_9 : xfetch 80 9 = some (.if_icmp .ne 7, 3) := by decide +kernel
theorem n_80_9 : ∀ l, xpr 80 9 l = l := xpr_no (by decide +kernel)
theorem r_80_12 : xfetch 80 12 = some (.iconst 0, 1) := by decide +kernel
theorem n_80_12 : ∀ l, xpr 80 12 l = l := xpr_no (by decide +kernel)
theorem r_80_13 : xfetch 80 13 = some (.goto 5, 3) := by decide +kernel
theorem n_80_13 : ∀ l, xpr 80 13 l = l := xpr_no (by decide +kernel)
theorem r_80_16 : xfetch 80 16 = some (.ldc 72, 2) := by decide +kernel
theorem n_80_16 : ∀ l, xpr 80 16 l = l := xpr_no (by decide +kernel)
theorem r_80_18 : xfetch 80 18 = some (.istore_n 3, 1) := by decide +kernel
theorem n_80_18 : ∀ l, xpr 80 18 l = l := xpr_no (by decide +kernel)
theorem r_80_19 : xfetch 80 19 = some (.iconst 0, 1) := by decide +kernel
theorem n_80_19 : ∀ l, xpr 80 19 l = l := xpr_no (by decide +kernel)
theorem r_80_20 : xfetch 80 20 = some (.istore 4, 2) := by decide +kernel
theorem n_80_20 : ∀ l, xpr 80 20 l = l := xpr_no (by decide +kernel)
theorem r_80_22 : xfetch 80 22 = some (.iload 4, 2) := by decide +kernel
theorem r_80_24 : xfetch 80 24 = some (.aload_n 0, 1) := by decide +kernel
theorem n_80_24 : ∀ l, xpr 80 24 l = l := xpr_no (by decide +kernel)
theorem r_80_25 : xfetch 80 25 = some (.getfield 33, 3) := by decide +kernel
theorem n_80_25 : ∀ l, xpr 80 25 l = l := xpr_no (by decide +kernel)
theorem r_80_28 : xfetch 80 28 = some (.if_icmp .ge 72, 3) := by decide +kernel
theorem n_80_28 : ∀ l, xpr 80 28 l = l := xpr_no (by decide +kernel)
theorem r_80_31 : xfetch 80 31 = some (.iload_n 1, 1) := by decide +kernel
theorem n_80_31 : ∀ l, xpr 80 31 l = l := xpr_no (by decide +kernel)
theorem r_80_32 : xfetch 80 32 = some (.iload 4, 2) := by decide +kernel
theorem n_80_32 : ∀ l, xpr 80 32 l = l := xpr_no (by decide +kernel)
theorem r_80_34 : xfetch 80 34 = some (.ishr, 1) := by decide +kernel
theorem n_80_34 : ∀ l, xpr 80 34 l = l := xpr_no (by decide +kernel)
theorem r_80_35 : xfetch 80 35 = some (.iconst 1, 1) := by decide +kernel
theorem n_80_35 : ∀ l, xpr 80 35 l = l := xpr_no (by decide +kernel)
theorem r_80_36 : xfetch 80 36 = some (.iand, 1) := by decide +kernel
theorem n_80_36 : ∀ l, xpr 80 36 l = l := xpr_no (by decide +kernel)
theorem r_80_37 : xfetch 80 37 = some (.iconst 1, 1) := by decide +kernel
theorem n_80_37 : ∀ l, xpr 80 37 l = l := xpr_no (by decide +kernel)
theorem r_80_38 : xfetch 80 38 = some (.if_icmp .ne 6, 3) := by decide +kernel
theorem n_80_38 : ∀ l, xpr 80 38 l = l := xpr_no (by decide +kernel)
theorem r_80_41 : xfetch 80 41 = some (.goto 53, 3) := by decide +kernel
theorem n_80_41 : ∀ l, xpr 80 41 l = l := xpr_no (by decide +kernel)
theorem r_80_44 : xfetch 80 44 = some (.aload_n 0, 1) := by decide +kernel
theorem n_80_44 : ∀ l, xpr 80 44 l = l := xpr_no (by decide +kernel)
theorem r_80_45 : xfetch 80 45 = some (.iload_n 1, 1) := by decide +kernel
theorem n_80_45 : ∀ l, xpr 80 45 l = l := xpr_no (by decide +kernel)
theorem r_80_46 : xfetch 80 46 = some (.iload_n 2, 1) := by decide +kernel
theorem n_80_46 : ∀ l, xpr 80 46 l = l := xpr_no (by decide +kernel)
theorem r_80_47 : xfetch 80 47 = some (.iload 4, 2) := by decide +kernel
theorem n_80_47 : ∀ l, xpr 80 47 l = l := xpr_no (by decide +kernel)
theorem r_80_49 : xfetch 80 49 = some (.invokevirtual 73, 3) := by decide +kernel
theorem n_80_49 : ∀ l, xpr 80 49 l = l := xpr_no (by decide +kernel)
theorem r_80_52 : xfetch 80 52 = some (.istore 5, 2) := by decide +kernel
theorem n_80_52 : ∀ l, xpr 80 52 l = l := xpr_no (by decide +kernel)
theorem r_80_54 : xfetch 80 54 = some (.iload_n 3, 1) := by decide +kernel
theorem n_80_54 : ∀ l, xpr 80 54 l = l := xpr_no (by decide +kernel)
theorem r_80_55 : xfetch 80 55 = some (.aload_n 0, 1) := by decide +kernel
theorem n_80_55 : ∀ l, xpr 80 55 l = l := xpr_no (by decide +kernel)
theorem r_80_56 : xfetch 80 56 = some (.iload_n 2, 1) := by decide +kernel
theorem n_80_56 : ∀ l, xpr 80 56 l = l := xpr_no (by decide +kernel)
theorem r_80_57 : xfetch 80 57 = some (.iload 4, 2) := by decide +kernel
theorem n_80_57 : ∀ l, xpr 80 57 l = l := xpr_no (by decide +kernel)
theorem r_80_59 : xfetch 80 59 = some (.invokevirtual 77, 3) := by decide +kernel
theorem n_80_59 : ∀ l, xpr 80 59 l = l := xpr_no (by decide +kernel)
theorem r_80_62 : xfetch 80 62 = some (.ifCond .eq 8, 3) := by decide +kernel
theorem n_80_62 : ∀ l, xpr 80 62 l = l := xpr_no (by decide +kernel)
theorem r_80_65 : xfetch 80 65 = some (.iload 5, 2) := by decide +kernel
theorem n_80_65 : ∀ l, xpr 80 65 l = l := xpr_no (by decide +kernel)
theorem r_80_67 : xfetch 80 67 = some (.goto 23, 3) := by decide +kernel
theorem n_80_67 : ∀ l, xpr 80 67 l = l := xpr_no (by decide +kernel)
theorem r_80_70 : xfetch 80 70 = some (.iload 5, 2) := by decide +kernel
theorem n_80_70 : ∀ l, xpr 80 70 l = l := xpr_no (by decide +kernel)
theorem r_80_72 : xfetch 80 72 = some (.aload_n 0, 1) := by decide +kernel
theorem n_80_72 : ∀ l, xpr 80 72 l = l := xpr_no (by decide +kernel)
theorem r_80_73 : xfetch 80 73 = some (.getfield 15, 3) := by decide +kernel
theorem n_80_73 : ∀ l, xpr 80 73 l = l := xpr_no (by decide +kernel)
theorem r_80_76 : xfetch 80 76 = some (.iload 4, 2) := by decide +kernel
theorem n_80_76 : ∀ l, xpr 80 76 l = l := xpr_no (by decide +kernel)
theorem r_80_78 : xfetch 80 78 = some (.iaload, 1) := by decide +kernel
theorem n_80_78 : ∀ l, xpr 80 78 l = l := xpr_no (by decide +kernel)
theorem r_80_79 : xfetch 80 79 = some (.iadd, 1) := by decide +kernel
theorem n_80_79 : ∀ l, xpr 80 79 l = l := xpr_no (by decide +kernel)
theorem r_80_80 : xfetch 80 80 = some (.aload_n 0, 1) := by decide +kernel
theorem n_80_80 : ∀ l, xpr 80 80 l = l := xpr_no (by decide +kernel)
theorem r_80_81 : xfetch 80 81 = some (.getfield 18, 3) := by decide +kernel
theorem n_80_81 : ∀ l, xpr 80 81 l = l := xpr_no (by decide +kernel)
theorem r_80_84 : xfetch 80 84 = some (.iload 4, 2) := by decide +kernel
theorem n_80_84 : ∀ l, xpr 80 84 l = l := xpr_no (by decide +kernel)
theorem r_80_86 : xfetch 80 86 = some (.iaload, 1) := by decide +kernel
theorem n_80_86 : ∀ l, xpr 80 86 l = l := xpr_no (by decide +kernel)
theorem r_80_87 : xfetch 80 87 = some (.invokestatic 56, 3) := by decide +kernel
theorem n_80_87 : ∀ l, xpr 80 87 l = l := xpr_no (by decide +kernel)
theorem r_80_90 : xfetch 80 90 = some (.invokestatic 81, 3) := by decide +kernel
theorem n_80_90 : ∀ l, xpr 80 90 l = l := xpr_no (by decide +kernel)
theorem r_80_93 : xfetch 80 93 = some (.istore_n 3, 1) := by decide +kernel
theorem n_80_93 : ∀ l, xpr 80 93 l = l := xpr_no (by decide +kernel)
theorem r_80_94 : xfetch 80 94 = some (.iinc 4 1, 3) := by decide +kernel
theorem n_80_94 : ∀ l, xpr 80 94 l = l := xpr_no (by decide +kernel)
theorem r_80_97 : xfetch 80 97 = some (.goto (-75), 3) := by decide +kernel
theorem n_80_97 : ∀ l, xpr 80 97 l = l := xpr_no (by decide +kernel)
theorem r_80_100 : xfetch 80 100 = some (.iload_n 3, 1) := by decide +kernel
theorem n_80_100 : ∀ l, xpr 80 100 l = l := xpr_no (by decide +kernel)
theorem r_80_101 : xfetch 80 101 = some (.ireturn, 1) := by decide +kernel
theorem n_80_101 : ∀ l, xpr 80 101 l = l := xpr_no (by decide +kernel)
theorem v_BestOrder_leastNeed_0 {S : Option (Nat × (Nat → Int32))} {s : zSt} {Q : Option Value ⊕ Nat → zSt → Prop} {x1 : Int} {x2 : Int} 
    (h : rng (x1 + 1) ∧ (((x1 + 1) ≠ (zshl 1 (zI s 42 2)) → wp S 80 22 [(0, rf 42), (1, iv x1), (2, iv x2), (3, iv 1048576), (4, iv 0)] [] s Q) ∧ ((x1 + 1) = (zshl 1 (zI s 42 2)) → wp S 80 22 [(0, rf 42), (1, iv x1), (2, iv x2), (3, iv 0), (4, iv 0)] [] s Q))) :
    wp S 80 0 [(0, rf 42), (1, iv x1), (2, iv x2)] [] s Q := by
  refine i_iload_n (x := x1) r_80_0 (n_80_0 _) rfl ?_
  refine i_iconst r_80_1 (n_80_1 _) ?_
  refine i_iadd r_80_2 (n_80_2 _) ?_
  refine i_iconst r_80_3 (n_80_3 _) ?_
  refine i_aload_n (a := 42) r_80_4 (n_80_4 _) rfl ?_
  refine i_getI (a := 42) r_80_5 (n_80_5 _) rfl (by decide) lf_42 (fun q1 => ?_)
  refine i_ishl r_80_8 (n_80_8 _) ?_
  obtain ⟨g2, h⟩ := h
  refine i_icmp (t := 16) r_80_9 (n_80_9 _) rfl (T_ne g2 (rng_to _)) (fun c3 => ?_) (fun c3 => ?_)
  · replace h := h.1 c3
    refine i_ldc (x := 1048576) r_80_16 (n_80_16 _) rfl rfl ?_
    refine i_istore_n (l' := [(0, rf 42), (1, iv x1), (2, iv x2), (3, iv 1048576)]) r_80_18 (n_80_18 _) (by decide) rfl ?_
    refine i_iconst r_80_19 (n_80_19 _) ?_
    refine i_istore (l' := [(0, rf 42), (1, iv x1), (2, iv x2), (3, iv 1048576), (4, iv 0)]) r_80_20 (n_80_20 _) (by decide) rfl ?_
    exact wp_pr (l' := [(0, rf 42), (1, iv x1), (2, iv x2), (3, iv 1048576), (4, iv 0)]) rfl h
  · replace h := h.2 c3
    refine i_iconst r_80_12 (n_80_12 _) ?_
    refine i_goto (t := 18) r_80_13 (n_80_13 _) rfl ?_
    refine i_istore_n (l' := [(0, rf 42), (1, iv x1), (2, iv x2), (3, iv 0)]) r_80_18 (n_80_18 _) (by decide) rfl ?_
    refine i_iconst r_80_19 (n_80_19 _) ?_
    refine i_istore (l' := [(0, rf 42), (1, iv x1), (2, iv x2), (3, iv 0), (4, iv 0)]) r_80_20 (n_80_20 _) (by decide) rfl ?_
    exact wp_pr (l' := [(0, rf 42), (1, iv x1), (2, iv x2), (3, iv 0), (4, iv 0)]) rfl h
theorem v_BestOrder_leastNeed_22 {S : Option (Nat × (Nat → Int32))} {s : zSt} {Q : Option Value ⊕ Nat → zSt → Prop} {x1 : Int} {x2 : Int} {x3 : Int} {x4 : Int} 
    (h : rng x4 ∧ (((zI s 42 2) ≤ x4 → Q (rI x3) s) ∧ (x4 < (zI s 42 2) → ((zand (zshr x1 x4) 1) ≠ 1 → (0 ≤ x4 ∧ x4 < 8) ∧ (rng x2 ∧ ((0 ≤ (((zor x1 (zshl 1 x4)) * 16) + (zla x2 (zI s 46 x4))) ∧ (((zor x1 (zshl 1 x4)) * 16) + (zla x2 (zI s 46 x4))) < 4096) ∧ ((¬ (0 < zI s 46 x4 ∧ zI s 46 x4 ≤ x2) → (zp2 (zI s 45 x4)) ∧ ((0 ≤ ((zI s 47 (((zor x1 (zshl 1 x4)) * 16) + (zla x2 (zI s 46 x4)))) + (zI s 44 x4))) ∧ ((((zI s 47 (((zor x1 (zshl 1 x4)) * 16) + (zla x2 (zI s 46 x4)))) + (zI s 44 x4)) ≤ 1000000) ∧ (rng x3 ∧ (rng (zup ((zI s 47 (((zor x1 (zshl 1 x4)) * 16) + (zla x2 (zI s 46 x4)))) + (zI s 44 x4)) (zI s 45 x4)) ∧ (wp S 80 22 [(0, rf 42), (1, iv x1), (2, iv x2), (3, iv (min x3 (zup ((zI s 47 (((zor x1 (zshl 1 x4)) * 16) + (zla x2 (zI s 46 x4)))) + (zI s 44 x4)) (zI s 45 x4)))), (4, iv (x4 + 1))] [] s Q)))))) ∧ (0 < zI s 46 x4 ∧ zI s 46 x4 ≤ x2 → rng x3 ∧ (wp S 80 22 [(0, rf 42), (1, iv x1), (2, iv x2), (3, iv (min x3 (zI s 47 (((zor x1 (zshl 1 x4)) * 16) + (zla x2 (zI s 46 x4)))))), (4, iv (x4 + 1))] [] s Q)))))) ∧ ((zand (zshr x1 x4) 1) = 1 → wp S 80 22 [(0, rf 42), (1, iv x1), (2, iv x2), (3, iv x3), (4, iv (x4 + 1))] [] s Q)))) :
    wp S 80 22 [(0, rf 42), (1, iv x1), (2, iv x2), (3, iv x3), (4, iv x4)] [] s Q := by
  refine i_iload (x := x4) r_80_22 rfl rfl ?_
  refine i_aload_n (a := 42) r_80_24 (n_80_24 _) rfl ?_
  refine i_getI (a := 42) r_80_25 (n_80_25 _) rfl (by decide) lf_42 (fun q1 => ?_)
  obtain ⟨g2, h⟩ := h
  refine i_icmp (t := 100) r_80_28 (n_80_28 _) rfl (T_ge g2 q1) (fun c3 => ?_) (fun c3 => ?_)
  · replace h := h.1 c3
    refine i_iload_n (x := x3) r_80_100 (n_80_100 _) rfl ?_
    exact i_ireturn r_80_101 (n_80_101 _) rfl h
  · replace h := h.2 c3
    refine i_iload_n (x := x1) r_80_31 (n_80_31 _) rfl ?_
    refine i_iload (x := x4) r_80_32 (n_80_32 _) rfl ?_
    refine i_ishr r_80_34 (n_80_34 _) ?_
    refine i_iconst r_80_35 (n_80_35 _) ?_
    refine i_iand r_80_36 (n_80_36 _) ?_
    refine i_iconst r_80_37 (n_80_37 _) ?_
    refine i_icmp (t := 44) r_80_38 (n_80_38 _) rfl (T_ne (rng_to _) ⟨by omega, by omega⟩) (fun c4 => ?_) (fun c4 => ?_)
    · replace h := h.1 c4
      refine i_aload_n (a := 42) r_80_44 (n_80_44 _) rfl ?_
      refine i_iload_n (x := x1) r_80_45 (n_80_45 _) rfl ?_
      refine i_iload_n (x := x2) r_80_46 (n_80_46 _) rfl ?_
      refine i_iload (x := x4) r_80_47 (n_80_47 _) rfl ?_
      obtain ⟨g5, h⟩ := h
      obtain ⟨g6, h⟩ := h
      obtain ⟨g7, h⟩ := h
      refine wp_virt (b := 42) (rest := []) (Ls := [(0, rf 42), (1, iv x1), (2, iv x2), (3, iv x4)]) r_80_49 (n_80_49 _) rfl ⟨rfl, rfl, by decide, by decide⟩ rfl rfl lf_42 ⟨rfl, Nat.le_of_ble_eq_true rfl, Nat.le_of_ble_eq_true rfl⟩ rfl (K_BestOrder_needAfter g5 g6 g7) ?_
      rintro _ _ ⟨rfl, rfl⟩
      refine .inl ⟨some (iv (zI s 47 (((zor x1 (zshl 1 x4)) * 16) + (zla x2 (zI s 46 x4))))), rfl, ?_⟩
      show wp S 80 52 [(0, rf 42), (1, iv x1), (2, iv x2), (3, iv x3), (4, iv x4)] [iv (zI s 47 (((zor x1 (zshl 1 x4)) * 16) + (zla x2 (zI s 46 x4))))] s Q
      refine wp_rd (a := 47) (j := (((zor x1 (zshl 1 x4)) * 16) + (zla x2 (zI s 46 x4)))) (fun q9 => ?_)
      refine i_istore (l' := [(0, rf 42), (1, iv x1), (2, iv x2), (3, iv x3), (4, iv x4), (5, iv (zI s 47 (((zor x1 (zshl 1 x4)) * 16) + (zla x2 (zI s 46 x4)))))]) r_80_52 (n_80_52 _) (by decide) rfl ?_
      refine i_iload_n (x := x3) r_80_54 (n_80_54 _) rfl ?_
      refine i_aload_n (a := 42) r_80_55 (n_80_55 _) rfl ?_
      refine i_iload_n (x := x2) r_80_56 (n_80_56 _) rfl ?_
      refine i_iload (x := x4) r_80_57 (n_80_57 _) rfl ?_
      refine wp_virt (b := 42) (rest := [iv x3]) (Ls := [(0, rf 42), (1, iv x2), (2, iv x4)]) r_80_59 (n_80_59 _) rfl ⟨rfl, rfl, by decide, by decide⟩ rfl rfl lf_42 ⟨rfl, Nat.le_of_ble_eq_true rfl, Nat.le_of_ble_eq_true rfl⟩ rfl (K_BestOrder_fits g5 g6) ?_
      rintro _ _ ⟨rfl, rfl⟩
      refine .inl ⟨some (iv (bi (0 < zI s 46 x4 ∧ zI s 46 x4 ≤ x2))), rfl, ?_⟩
      show wp S 80 62 [(0, rf 42), (1, iv x1), (2, iv x2), (3, iv x3), (4, iv x4), (5, iv (zI s 47 (((zor x1 (zshl 1 x4)) * 16) + (zla x2 (zI s 46 x4)))))] [iv (bi (0 < zI s 46 x4 ∧ zI s 46 x4 ≤ x2)), iv x3] s Q
      refine i_if (t := 70) r_80_62 (n_80_62 _) rfl (TB_eq) (fun c11 => ?_) (fun c11 => ?_)
      · replace h := h.1 c11
        refine i_iload (x := zI s 47 (((zor x1 (zshl 1 x4)) * 16) + (zla x2 (zI s 46 x4)))) r_80_70 (n_80_70 _) rfl ?_
        refine i_aload_n (a := 42) r_80_72 (n_80_72 _) rfl ?_
        refine i_getR (a := 42) (b := 44) r_80_73 (n_80_73 _) rfl rfl rfl (by omega) lf_42 (by omega) ?_
        refine i_iload (x := x4) r_80_76 (n_80_76 _) rfl ?_
        refine i_iaload (a := 44) (j := x4) r_80_78 (n_80_78 _) lf_44 ⟨by omega, by omega⟩ (by omega) (by omega) (fun q12 => ?_)
        refine i_iadd r_80_79 (n_80_79 _) ?_
        refine i_aload_n (a := 42) r_80_80 (n_80_80 _) rfl ?_
        refine i_getR (a := 42) (b := 45) r_80_81 (n_80_81 _) rfl rfl rfl (by omega) lf_42 (by omega) ?_
        refine i_iload (x := x4) r_80_84 (n_80_84 _) rfl ?_
        refine i_iaload (a := 45) (j := x4) r_80_86 (n_80_86 _) lf_45 ⟨by omega, by omega⟩ (by omega) (by omega) (fun q13 => ?_)
        obtain ⟨g14, h⟩ := h
        obtain ⟨g15, h⟩ := h
        obtain ⟨g16, h⟩ := h
        refine wp_stat (rest := [iv x3]) (Ls := [(0, iv ((zI s 47 (((zor x1 (zshl 1 x4)) * 16) + (zla x2 (zI s 46 x4)))) + (zI s 44 x4))), (1, iv (zI s 45 x4))]) r_80_87 (n_80_87 _) rfl ⟨rfl, by decide, by decide, by decide⟩ rfl rfl ⟨rfl, Nat.le_of_ble_eq_true rfl, Nat.le_of_ble_eq_true rfl⟩ rfl (K_RL_roundUp g14 g15 g16) ?_
        rintro _ _ ⟨rfl, rfl⟩
        refine .inl ⟨some (iv (zup ((zI s 47 (((zor x1 (zshl 1 x4)) * 16) + (zla x2 (zI s 46 x4)))) + (zI s 44 x4)) (zI s 45 x4))), rfl, ?_⟩
        show wp S 80 90 [(0, rf 42), (1, iv x1), (2, iv x2), (3, iv x3), (4, iv x4), (5, iv (zI s 47 (((zor x1 (zshl 1 x4)) * 16) + (zla x2 (zI s 46 x4)))))] [iv (zup ((zI s 47 (((zor x1 (zshl 1 x4)) * 16) + (zla x2 (zI s 46 x4)))) + (zI s 44 x4)) (zI s 45 x4)), iv x3] s Q
        obtain ⟨g18, h⟩ := h
        obtain ⟨g19, h⟩ := h
        refine wp_stat (rest := []) (Ls := [(0, iv x3), (1, iv (zup ((zI s 47 (((zor x1 (zshl 1 x4)) * 16) + (zla x2 (zI s 46 x4)))) + (zI s 44 x4)) (zI s 45 x4)))]) r_80_90 (n_80_90 _) rfl ⟨rfl, by decide, by decide, by decide⟩ rfl rfl ⟨rfl, Nat.le_of_ble_eq_true rfl, Nat.le_of_ble_eq_true rfl⟩ rfl (K_Math_min g18 g19) ?_
        rintro _ _ ⟨rfl, rfl⟩
        refine .inl ⟨some (iv (min x3 (zup ((zI s 47 (((zor x1 (zshl 1 x4)) * 16) + (zla x2 (zI s 46 x4)))) + (zI s 44 x4)) (zI s 45 x4)))), rfl, ?_⟩
        show wp S 80 93 [(0, rf 42), (1, iv x1), (2, iv x2), (3, iv x3), (4, iv x4), (5, iv (zI s 47 (((zor x1 (zshl 1 x4)) * 16) + (zla x2 (zI s 46 x4)))))] [iv (min x3 (zup ((zI s 47 (((zor x1 (zshl 1 x4)) * 16) + (zla x2 (zI s 46 x4)))) + (zI s 44 x4)) (zI s 45 x4)))] s Q
        refine i_istore_n (l' := [(0, rf 42), (1, iv x1), (2, iv x2), (3, iv (min x3 (zup ((zI s 47 (((zor x1 (zshl 1 x4)) * 16) + (zla x2 (zI s 46 x4)))) + (zI s 44 x4)) (zI s 45 x4)))), (4, iv x4), (5, iv (zI s 47 (((zor x1 (zshl 1 x4)) * 16) + (zla x2 (zI s 46 x4)))))]) r_80_93 (n_80_93 _) (by decide) rfl ?_
        refine i_iinc (x := x4) (l' := [(0, rf 42), (1, iv x1), (2, iv x2), (3, iv (min x3 (zup ((zI s 47 (((zor x1 (zshl 1 x4)) * 16) + (zla x2 (zI s 46 x4)))) + (zI s 44 x4)) (zI s 45 x4)))), (4, iv (x4 + 1)), (5, iv (zI s 47 (((zor x1 (zshl 1 x4)) * 16) + (zla x2 (zI s 46 x4)))))]) r_80_94 (n_80_94 _) (by decide) rfl rfl ?_
        refine i_goto (t := 22) r_80_97 (n_80_97 _) rfl ?_
        exact wp_pr (l' := [(0, rf 42), (1, iv x1), (2, iv x2), (3, iv (min x3 (zup ((zI s 47 (((zor x1 (zshl 1 x4)) * 16) + (zla x2 (zI s 46 x4)))) + (zI s 44 x4)) (zI s 45 x4)))), (4, iv (x4 + 1))]) rfl h
      · replace h := h.2 c11
        refine i_iload (x := zI s 47 (((zor x1 (zshl 1 x4)) * 16) + (zla x2 (zI s 46 x4)))) r_80_65 (n_80_65 _) rfl ?_
        refine i_goto (t := 90) r_80_67 (n_80_67 _) rfl ?_
        obtain ⟨g21, h⟩ := h
        refine wp_stat (rest := []) (Ls := [(0, iv x3), (1, iv (zI s 47 (((zor x1 (zshl 1 x4)) * 16) + (zla x2 (zI s 46 x4)))))]) r_80_90 (n_80_90 _) rfl ⟨rfl, by decide, by decide, by decide⟩ rfl rfl ⟨rfl, Nat.le_of_ble_eq_true rfl, Nat.le_of_ble_eq_true rfl⟩ rfl (K_Math_min g21 q9) ?_
        rintro _ _ ⟨rfl, rfl⟩
        refine .inl ⟨some (iv (min x3 (zI s 47 (((zor x1 (zshl 1 x4)) * 16) + (zla x2 (zI s 46 x4)))))), rfl, ?_⟩
        show wp S 80 93 [(0, rf 42), (1, iv x1), (2, iv x2), (3, iv x3), (4, iv x4), (5, iv (zI s 47 (((zor x1 (zshl 1 x4)) * 16) + (zla x2 (zI s 46 x4)))))] [iv (min x3 (zI s 47 (((zor x1 (zshl 1 x4)) * 16) + (zla x2 (zI s 46 x4)))))] s Q
        refine i_istore_n (l' := [(0, rf 42), (1, iv x1), (2, iv x2), (3, iv (min x3 (zI s 47 (((zor x1 (zshl 1 x4)) * 16) + (zla x2 (zI s 46 x4)))))), (4, iv x4), (5, iv (zI s 47 (((zor x1 (zshl 1 x4)) * 16) + (zla x2 (zI s 46 x4)))))]) r_80_93 (n_80_93 _) (by decide) rfl ?_
        refine i_iinc (x := x4) (l' := [(0, rf 42), (1, iv x1), (2, iv x2), (3, iv (min x3 (zI s 47 (((zor x1 (zshl 1 x4)) * 16) + (zla x2 (zI s 46 x4)))))), (4, iv (x4 + 1)), (5, iv (zI s 47 (((zor x1 (zshl 1 x4)) * 16) + (zla x2 (zI s 46 x4)))))]) r_80_94 (n_80_94 _) (by decide) rfl rfl ?_
        refine i_goto (t := 22) r_80_97 (n_80_97 _) rfl ?_
        exact wp_pr (l' := [(0, rf 42), (1, iv x1), (2, iv x2), (3, iv (min x3 (zI s 47 (((zor x1 (zshl 1 x4)) * 16) + (zla x2 (zI s 46 x4)))))), (4, iv (x4 + 1))]) rfl h
    · replace h := h.2 c4
      refine i_goto (t := 94) r_80_41 (n_80_41 _) rfl ?_
      refine i_iinc (x := x4) (l' := [(0, rf 42), (1, iv x1), (2, iv x2), (3, iv x3), (4, iv (x4 + 1))]) r_80_94 (n_80_94 _) (by decide) rfl rfl ?_
      refine i_goto (t := 22) r_80_97 (n_80_97 _) rfl ?_
      exact wp_pr (l' := [(0, rf 42), (1, iv x1), (2, iv x2), (3, iv x3), (4, iv (x4 + 1))]) rfl h
theorem r_84_0 : xfetch 84 0 = some (.iconst 0, 1) := by decide +kernel
theorem n_84_0 : ∀ l, xpr 84 0 l = l := xpr_no (by decide +kernel)
theorem r_84_1 : xfetch 84 1 = some (.istore_n 1, 1) := by decide +kernel
theorem n_84_1 : ∀ l, xpr 84 1 l = l := xpr_no (by decide +kernel)
theorem r_84_2 : xfetch 84 2 = some (.iconst 0, 1) := by decide +kernel
theorem n_84_2 : ∀ l, xpr 84 2 l = l := xpr_no (by decide +kernel)
theorem r_84_3 : xfetch 84 3 = some (.istore_n 2, 1) := by decide +kernel
theorem n_84_3 : ∀ l, xpr 84 3 l = l := xpr_no (by decide +kernel)
theorem r_84_4 : xfetch 84 4 = some (.iconst 0, 1) := by decide +kernel
theorem n_84_4 : ∀ l, xpr 84 4 l = l := xpr_no (by decide +kernel)
theorem r_84_5 : xfetch 84 5 = some (.istore_n 3, 1) := by decide +kernel
theorem n_84_5 : ∀ l, xpr 84 5 l = l := xpr_no (by decide +kernel)
theorem r_84_6 : xfetch 84 6 = some (.iconst 0, 1) := by decide +kernel
theorem n_84_6 : ∀ l, xpr 84 6 l = l := xpr_no (by decide +kernel)
theorem r_84_7 : xfetch 84 7 = some (.istore 4, 2) := by decide +kernel
theorem n_84_7 : ∀ l, xpr 84 7 l = l := xpr_no (by decide +kernel)
theorem r_84_9 : xfetch 84 9 = some (.iload 4, 2) := by decide +kernel
theorem r_84_11 : xfetch 84 11 = some (.aload_n 0, 1) := by decide +kernel
theorem n_84_11 : ∀ l, xpr 84 11 l = l := xpr_no (by decide +kernel)
theorem r_84_12 : xfetch 84 12 = some (.getfield 33, 3) := by decide +kernel
theorem n_84_12 : ∀ l, xpr 84 12 l = l := xpr_no (by decide +kernel)
theorem r_84_15 : xfetch 84 15 = some (.if_icmp .ge 123, 3) := by decide +kernel
theorem n_84_15 : ∀ l, xpr 84 15 l = l := xpr_no (by decide +kernel)
theorem r_84_18 : xfetch 84 18 = some (.iconst 0, 1) := by decide +kernel
theorem n_84_18 : ∀ l, xpr 84 18 l = l := xpr_no (by decide +kernel)
theorem r_84_19 : xfetch 84 19 = some (.istore 5, 2) := by decide +kernel
theorem n_84_19 : ∀ l, xpr 84 19 l = l := xpr_no (by decide +kernel)
theorem r_84_21 : xfetch 84 21 = some (.iload 5, 2) := by decide +kernel
theorem r_84_23 : xfetch 84 23 = some (.aload_n 0, 1) := by decide +kernel
theorem n_84_23 : ∀ l, xpr 84 23 l = l := xpr_no (by decide +kernel)
theorem r_84_24 : xfetch 84 24 = some (.getfield 33, 3) := by decide +kernel
theorem n_84_24 : ∀ l, xpr 84 24 l = l := xpr_no (by decide +kernel)
theorem r_84_27 : xfetch 84 27 = some (.if_icmp .ge 105, 3) := by decide +kernel
theorem n_84_27 : ∀ l, xpr 84 27 l = l := xpr_no (by decide +kernel)
theorem r_84_30 : xfetch 84 30 = some (.aload_n 0, 1) := by decide +kernel
theorem n_84_30 : ∀ l, xpr 84 30 l = l := xpr_no (by decide +kernel)
theorem r_84_31 : xfetch 84 31 = some (.iload_n 3, 1) := by decide +kernel
theorem n_84_31 : ∀ l, xpr 84 31 l = l := xpr_no (by decide +kernel)
theorem r_84_32 : xfetch 84 32 = some (.iload 5, 2) := by decide +kernel
theorem n_84_32 : ∀ l, xpr 84 32 l = l := xpr_no (by decide +kernel)
theorem r_84_34 : xfetch 84 34 = some (.invokevirtual 77, 3) := by decide +kernel
theorem n_84_34 : ∀ l, xpr 84 34 l = l := xpr_no (by decide +kernel)
theorem r_84_37 : xfetch 84 37 = some (.ifCond .eq 7, 3) := by decide +kernel
theorem n_84_37 : ∀ l, xpr 84 37 l = l := xpr_no (by decide +kernel)
theorem r_84_40 : xfetch 84 40 = some (.iload_n 2, 1) := by decide +kernel
theorem n_84_40 : ∀ l, xpr 84 40 l = l := xpr_no (by decide +kernel)
theorem r_84_41 : xfetch 84 41 = some (.goto 22, 3) := by decide +kernel
theorem n_84_41 : ∀ l, xpr 84 41 l = l := xpr_no (by decide +kernel)
theorem r_84_44 : xfetch 84 44 = some (.iload_n 2, 1) := by decide +kernel
theorem n_84_44 : ∀ l, xpr 84 44 l = l := xpr_no (by decide +kernel)
theorem r_84_45 : xfetch 84 45 = some (.aload_n 0, 1) := by decide +kernel
theorem n_84_45 : ∀ l, xpr 84 45 l = l := xpr_no (by decide +kernel)
theorem r_84_46 : xfetch 84 46 = some (.getfield 18, 3) := by decide +kernel
theorem n_84_46 : ∀ l, xpr 84 46 l = l := xpr_no (by decide +kernel)
theorem r_84_49 : xfetch 84 49 = some (.iload 5, 2) := by decide +kernel
theorem n_84_49 : ∀ l, xpr 84 49 l = l := xpr_no (by decide +kernel)
theorem r_84_51 : xfetch 84 51 = some (.iaload, 1) := by decide +kernel
theorem n_84_51 : ∀ l, xpr 84 51 l = l := xpr_no (by decide +kernel)
theorem r_84_52 : xfetch 84 52 = some (.invokestatic 56, 3) := by decide +kernel
theorem n_84_52 : ∀ l, xpr 84 52 l = l := xpr_no (by decide +kernel)
theorem r_84_55 : xfetch 84 55 = some (.aload_n 0, 1) := by decide +kernel
theorem n_84_55 : ∀ l, xpr 84 55 l = l := xpr_no (by decide +kernel)
theorem r_84_56 : xfetch 84 56 = some (.getfield 15, 3) := by decide +kernel
theorem n_84_56 : ∀ l, xpr 84 56 l = l := xpr_no (by decide +kernel)
theorem r_84_59 : xfetch 84 59 = some (.iload 5, 2) := by decide +kernel
theorem n_84_59 : ∀ l, xpr 84 59 l = l := xpr_no (by decide +kernel)
theorem r_84_61 : xfetch 84 61 = some (.iaload, 1) := by decide +kernel
theorem n_84_61 : ∀ l, xpr 84 61 l = l := xpr_no (by decide +kernel)
theorem r_84_62 : xfetch 84 62 = some (.iadd, 1) := by decide +kernel
theorem n_84_62 : ∀ l, xpr 84 62 l = l := xpr_no (by decide +kernel)
theorem r_84_63 : xfetch 84 63 = some (.istore 6, 2) := by decide +kernel
theorem n_84_63 : ∀ l, xpr 84 63 l = l := xpr_no (by decide +kernel)
theorem r_84_65 : xfetch 84 65 = some (.iload_n 1, 1) := by decide +kernel
theorem n_84_65 : ∀ l, xpr 84 65 l = l := xpr_no (by decide +kernel)
theorem r_84_66 : xfetch 84 66 = some (.iload 5, 2) := by decide +kernel
theorem n_84_66 : ∀ l, xpr 84 66 l = l := xpr_no (by decide +kernel)
theorem r_84_68 : xfetch 84 68 = some (.ishr, 1) := by decide +kernel
theorem n_84_68 : ∀ l, xpr 84 68 l = l := xpr_no (by decide +kernel)
theorem r_84_69 : xfetch 84 69 = some (.iconst 1, 1) := by decide +kernel
theorem n_84_69 : ∀ l, xpr 84 69 l = l := xpr_no (by decide +kernel)
theorem r_84_70 : xfetch 84 70 = some (.iand, 1) := by decide +kernel
theorem n_84_70 : ∀ l, xpr 84 70 l = l := xpr_no (by decide +kernel)
theorem r_84_71 : xfetch 84 71 = some (.iconst 1, 1) := by decide +kernel
theorem n_84_71 : ∀ l, xpr 84 71 l = l := xpr_no (by decide +kernel)
theorem r_84_72 : xfetch 84 72 = some (.if_icmp .eq 54, 3) := by decide +kernel
theorem n_84_72 : ∀ l, xpr 84 72 l = l := xpr_no (by decide +kernel)
theorem r_84_75 : xfetch 84 75 = some (.iload 6, 2) := by decide +kernel
theorem n_84_75 : ∀ l, xpr 84 75 l = l := xpr_no (by decide +kernel)
theorem r_84_77 : xfetch 84 77 = some (.aload_n 0, 1) := by decide +kernel
theorem n_84_77 : ∀ l, xpr 84 77 l = l := xpr_no (by decide +kernel)
theorem r_84_78 : xfetch 84 78 = some (.iload_n 1, 1) := by decide +kernel
theorem n_84_78 : ∀ l, xpr 84 78 l = l := xpr_no (by decide +kernel)
theorem r_84_79 : xfetch 84 79 = some (.iload_n 3, 1) := by decide +kernel
theorem n_84_79 : ∀ l, xpr 84 79 l = l := xpr_no (by decide +kernel)
theorem r_84_80 : xfetch 84 80 = some (.iload 5, 2) := by decide +kernel
theorem n_84_80 : ∀ l, xpr 84 80 l = l := xpr_no (by decide +kernel)
theorem r_84_82 : xfetch 84 82 = some (.invokevirtual 73, 3) := by decide +kernel
theorem n_84_82 : ∀ l, xpr 84 82 l = l := xpr_no (by decide +kernel)
theorem r_84_85 : xfetch 84 85 = some (.iadd, 1) := by decide +kernel
theorem n_84_85 : ∀ l, xpr 84 85 l = l := xpr_no (by decide +kernel)
theorem r_84_86 : xfetch 84 86 = some (.aload_n 0, 1) := by decide +kernel
theorem n_84_86 : ∀ l, xpr 84 86 l = l := xpr_no (by decide +kernel)
theorem r_84_87 : xfetch 84 87 = some (.getfield 60, 3) := by decide +kernel
theorem n_84_87 : ∀ l, xpr 84 87 l = l := xpr_no (by decide +kernel)
theorem r_84_90 : xfetch 84 90 = some (.if_icmp .le 6, 3) := by decide +kernel
theorem n_84_90 : ∀ l, xpr 84 90 l = l := xpr_no (by decide +kernel)
theorem r_84_93 : xfetch 84 93 = some (.goto 33, 3) := by decide +kernel
theorem n_84_93 : ∀ l, xpr 84 93 l = l := xpr_no (by decide +kernel)
theorem r_84_96 : xfetch 84 96 = some (.aload_n 0, 1) := by decide +kernel
theorem n_84_96 : ∀ l, xpr 84 96 l = l := xpr_no (by decide +kernel)
theorem r_84_97 : xfetch 84 97 = some (.getfield 9, 3) := by decide +kernel
theorem n_84_97 : ∀ l, xpr 84 97 l = l := xpr_no (by decide +kernel)
theorem r_84_100 : xfetch 84 100 = some (.iload 4, 2) := by decide +kernel
theorem n_84_100 : ∀ l, xpr 84 100 l = l := xpr_no (by decide +kernel)
theorem r_84_102 : xfetch 84 102 = some (.iload 5, 2) := by decide +kernel
theorem n_84_102 : ∀ l, xpr 84 102 l = l := xpr_no (by decide +kernel)
theorem r_84_104 : xfetch 84 104 = some (.iastore, 1) := by decide +kernel
theorem n_84_104 : ∀ l, xpr 84 104 l = l := xpr_no (by decide +kernel)
theorem r_84_105 : xfetch 84 105 = some (.iload_n 1, 1) := by decide +kernel
theorem n_84_105 : ∀ l, xpr 84 105 l = l := xpr_no (by decide +kernel)
theorem r_84_106 : xfetch 84 106 = some (.iconst 1, 1) := by decide +kernel
theorem n_84_106 : ∀ l, xpr 84 106 l = l := xpr_no (by decide +kernel)
theorem r_84_107 : xfetch 84 107 = some (.iload 5, 2) := by decide +kernel
theorem n_84_107 : ∀ l, xpr 84 107 l = l := xpr_no (by decide +kernel)
theorem r_84_109 : xfetch 84 109 = some (.ishl, 1) := by decide +kernel
theorem n_84_109 : ∀ l, xpr 84 109 l = l := xpr_no (by decide +kernel)
theorem r_84_110 : xfetch 84 110 = some (.ior, 1) := by decide +kernel
theorem n_84_110 : ∀ l, xpr 84 110 l = l := xpr_no (by decide +kernel)
theorem r_84_111 : xfetch 84 111 = some (.istore_n 1, 1) := by decide +kernel
theorem n_84_111 : ∀ l, xpr 84 111 l = l := xpr_no (by decide +kernel)
theorem r_84_112 : xfetch 84 112 = some (.iload 6, 2) := by decide +kernel
theorem n_84_112 : ∀ l, xpr 84 112 l = l := xpr_no (by decide +kernel)
theorem r_84_114 : xfetch 84 114 = some (.istore_n 2, 1) := by decide +kernel
theorem n_84_114 : ∀ l, xpr 84 114 l = l := xpr_no (by decide +kernel)
theorem r_84_115 : xfetch 84 115 = some (.aload_n 0, 1) := by decide +kernel
theorem n_84_115 : ∀ l, xpr 84 115 l = l := xpr_no (by decide +kernel)
theorem r_84_116 : xfetch 84 116 = some (.iload_n 3, 1) := by decide +kernel
theorem n_84_116 : ∀ l, xpr 84 116 l = l := xpr_no (by decide +kernel)
theorem r_84_117 : xfetch 84 117 = some (.iload 5, 2) := by decide +kernel
theorem n_84_117 : ∀ l, xpr 84 117 l = l := xpr_no (by decide +kernel)
theorem r_84_119 : xfetch 84 119 = some (.invokevirtual 86, 3) := by decide +kernel
theorem n_84_119 : ∀ l, xpr 84 119 l = l := xpr_no (by decide +kernel)
theorem r_84_122 : xfetch 84 122 = some (.istore_n 3, 1) := by decide +kernel
theorem n_84_122 : ∀ l, xpr 84 122 l = l := xpr_no (by decide +kernel)
theorem r_84_123 : xfetch 84 123 = some (.goto 9, 3) := by decide +kernel
theorem n_84_123 : ∀ l, xpr 84 123 l = l := xpr_no (by decide +kernel)
theorem r_84_126 : xfetch 84 126 = some (.iinc 5 1, 3) := by decide +kernel
theorem n_84_126 : ∀ l, xpr 84 126 l = l := xpr_no (by decide +kernel)
theorem r_84_129 : xfetch 84 129 = some (.goto (-108), 3) := by decide +kernel
theorem n_84_129 : ∀ l, xpr 84 129 l = l := xpr_no (by decide +kernel)
theorem r_84_132 : xfetch 84 132 = some (.iinc 4 1, 3) := by decide +kernel
theorem n_84_132 : ∀ l, xpr 84 132 l = l := xpr_no (by decide +kernel)
theorem r_84_135 : xfetch 84 135 = some (.goto (-126), 3) := by decide +kernel
theorem n_84_135 : ∀ l, xpr 84 135 l = l := xpr_no (by decide +kernel)
theorem r_84_138 : xfetch 84 138 = some (.return_, 1) := by decide +kernel
theorem n_84_138 : ∀ l, xpr 84 138 l = l := xpr_no (by decide +kernel)
theorem v_BestOrder_choose_0 {S : Option (Nat × (Nat → Int32))} {s : zSt} {Q : Option Value ⊕ Nat → zSt → Prop}  
    (h : wp S 84 9 [(0, rf 42), (1, iv 0), (2, iv 0), (3, iv 0), (4, iv 0)] [] s Q) :
    wp S 84 0 [(0, rf 42)] [] s Q := by
  refine i_iconst r_84_0 (n_84_0 _) ?_
  refine i_istore_n (l' := [(0, rf 42), (1, iv 0)]) r_84_1 (n_84_1 _) (by decide) rfl ?_
  refine i_iconst r_84_2 (n_84_2 _) ?_
  refine i_istore_n (l' := [(0, rf 42), (1, iv 0), (2, iv 0)]) r_84_3 (n_84_3 _) (by decide) rfl ?_
  refine i_iconst r_84_4 (n_84_4 _) ?_
  refine i_istore_n (l' := [(0, rf 42), (1, iv 0), (2, iv 0), (3, iv 0)]) r_84_5 (n_84_5 _) (by decide) rfl ?_
  refine i_iconst r_84_6 (n_84_6 _) ?_
  refine i_istore (l' := [(0, rf 42), (1, iv 0), (2, iv 0), (3, iv 0), (4, iv 0)]) r_84_7 (n_84_7 _) (by decide) rfl ?_
  exact wp_pr (l' := [(0, rf 42), (1, iv 0), (2, iv 0), (3, iv 0), (4, iv 0)]) rfl h
theorem v_BestOrder_choose_9 {S : Option (Nat × (Nat → Int32))} {s : zSt} {Q : Option Value ⊕ Nat → zSt → Prop} {x1 : Int} {x2 : Int} {x3 : Int} {x4 : Int} 
    (h : rng x4 ∧ (((zI s 42 2) ≤ x4 → Q rU s) ∧ (x4 < (zI s 42 2) → wp S 84 21 [(0, rf 42), (1, iv x1), (2, iv x2), (3, iv x3), (4, iv x4), (5, iv 0)] [] s Q))) :
    wp S 84 9 [(0, rf 42), (1, iv x1), (2, iv x2), (3, iv x3), (4, iv x4)] [] s Q := by
  refine i_iload (x := x4) r_84_9 rfl rfl ?_
  refine i_aload_n (a := 42) r_84_11 (n_84_11 _) rfl ?_
  refine i_getI (a := 42) r_84_12 (n_84_12 _) rfl (by decide) lf_42 (fun q1 => ?_)
  obtain ⟨g2, h⟩ := h
  refine i_icmp (t := 138) r_84_15 (n_84_15 _) rfl (T_ge g2 q1) (fun c3 => ?_) (fun c3 => ?_)
  · replace h := h.1 c3
    exact i_return r_84_138 (n_84_138 _) rfl h
  · replace h := h.2 c3
    refine i_iconst r_84_18 (n_84_18 _) ?_
    refine i_istore (l' := [(0, rf 42), (1, iv x1), (2, iv x2), (3, iv x3), (4, iv x4), (5, iv 0)]) r_84_19 (n_84_19 _) (by decide) rfl ?_
    exact wp_pr (l' := [(0, rf 42), (1, iv x1), (2, iv x2), (3, iv x3), (4, iv x4), (5, iv 0)]) rfl h
theorem v_BestOrder_choose_21 {S : Option (Nat × (Nat → Int32))} {s : zSt} {Q : Option Value ⊕ Nat → zSt → Prop} {x1 : Int} {x2 : Int} {x3 : Int} {x4 : Int} {x5 : Int} 
    (h : rng x5 ∧ (((zI s 42 2) ≤ x5 → wp S 84 9 [(0, rf 42), (1, iv x1), (2, iv x2), (3, iv x3), (4, iv (x4 + 1))] [] s Q) ∧ (x5 < (zI s 42 2) → (0 ≤ x5 ∧ x5 < 8) ∧ (rng x3 ∧ ((¬ (0 < zI s 46 x5 ∧ zI s 46 x5 ≤ x3) → (zp2 (zI s 45 x5)) ∧ ((0 ≤ x2) ∧ ((x2 ≤ 1000000) ∧ (((zand (zshr x1 x5) 1) = 1 → wp S 84 21 [(0, rf 42), (1, iv x1), (2, iv x2), (3, iv x3), (4, iv x4), (5, iv (x5 + 1))] [] s Q) ∧ ((zand (zshr x1 x5) 1) ≠ 1 → (0 ≤ (((zor x1 (zshl 1 x5)) * 16) + (zla x3 (zI s 46 x5))) ∧ (((zor x1 (zshl 1 x5)) * 16) + (zla x3 (zI s 46 x5))) < 4096) ∧ (rng (((zup x2 (zI s 45 x5)) + (zI s 44 x5)) + (zI s 47 (((zor x1 (zshl 1 x5)) * 16) + (zla x3 (zI s 46 x5))))) ∧ (((((zup x2 (zI s 45 x5)) + (zI s 44 x5)) + (zI s 47 (((zor x1 (zshl 1 x5)) * 16) + (zla x3 (zI s 46 x5))))) ≤ (zI s 42 0) → (0 ≤ x4 ∧ x4 < 8) ∧ (wp S 84 9 [(0, rf 42), (1, iv (zor x1 (zshl 1 x5))), (2, iv ((zup x2 (zI s 45 x5)) + (zI s 44 x5))), (3, iv (zla x3 (zI s 46 x5))), (4, iv (x4 + 1))] [] (zwI s 43 x4 x5) Q)) ∧ ((zI s 42 0) < (((zup x2 (zI s 45 x5)) + (zI s 44 x5)) + (zI s 47 (((zor x1 (zshl 1 x5)) * 16) + (zla x3 (zI s 46 x5))))) → wp S 84 21 [(0, rf 42), (1, iv x1), (2, iv x2), (3, iv x3), (4, iv x4), (5, iv (x5 + 1))] [] s Q)))))))) ∧ (0 < zI s 46 x5 ∧ zI s 46 x5 ≤ x3 → ((zand (zshr x1 x5) 1) = 1 → wp S 84 21 [(0, rf 42), (1, iv x1), (2, iv x2), (3, iv x3), (4, iv x4), (5, iv (x5 + 1))] [] s Q) ∧ ((zand (zshr x1 x5) 1) ≠ 1 → (0 ≤ (((zor x1 (zshl 1 x5)) * 16) + (zla x3 (zI s 46 x5))) ∧ (((zor x1 (zshl 1 x5)) * 16) + (zla x3 (zI s 46 x5))) < 4096) ∧ (rng (x2 + (zI s 47 (((zor x1 (zshl 1 x5)) * 16) + (zla x3 (zI s 46 x5))))) ∧ (((x2 + (zI s 47 (((zor x1 (zshl 1 x5)) * 16) + (zla x3 (zI s 46 x5))))) ≤ (zI s 42 0) → (0 ≤ x4 ∧ x4 < 8) ∧ (wp S 84 9 [(0, rf 42), (1, iv (zor x1 (zshl 1 x5))), (2, iv x2), (3, iv (zla x3 (zI s 46 x5))), (4, iv (x4 + 1))] [] (zwI s 43 x4 x5) Q)) ∧ ((zI s 42 0) < (x2 + (zI s 47 (((zor x1 (zshl 1 x5)) * 16) + (zla x3 (zI s 46 x5))))) → wp S 84 21 [(0, rf 42), (1, iv x1), (2, iv x2), (3, iv x3), (4, iv x4), (5, iv (x5 + 1))] [] s Q)))))))))) :
    wp S 84 21 [(0, rf 42), (1, iv x1), (2, iv x2), (3, iv x3), (4, iv x4), (5, iv x5)] [] s Q := by
  refine i_iload (x := x5) r_84_21 rfl rfl ?_
  refine i_aload_n (a := 42) r_84_23 (n_84_23 _) rfl ?_
  refine i_getI (a := 42) r_84_24 (n_84_24 _) rfl (by decide) lf_42 (fun q1 => ?_)
  obtain ⟨g2, h⟩ := h
  refine i_icmp (t := 132) r_84_27 (n_84_27 _) rfl (T_ge g2 q1) (fun c3 => ?_) (fun c3 => ?_)
  · replace h := h.1 c3
    refine i_iinc (x := x4) (l' := [(0, rf 42), (1, iv x1), (2, iv x2), (3, iv x3), (4, iv (x4 + 1)), (5, iv x5)]) r_84_132 (n_84_132 _) (by decide) rfl rfl ?_
    refine i_goto (t := 9) r_84_135 (n_84_135 _) rfl ?_
    exact wp_pr (l' := [(0, rf 42), (1, iv x1), (2, iv x2), (3, iv x3), (4, iv (x4 + 1))]) rfl h
  · replace h := h.2 c3
    refine i_aload_n (a := 42) r_84_30 (n_84_30 _) rfl ?_
    refine i_iload_n (x := x3) r_84_31 (n_84_31 _) rfl ?_
    refine i_iload (x := x5) r_84_32 (n_84_32 _) rfl ?_
    obtain ⟨g4, h⟩ := h
    obtain ⟨g5, h⟩ := h
    refine wp_virt (b := 42) (rest := []) (Ls := [(0, rf 42), (1, iv x3), (2, iv x5)]) r_84_34 (n_84_34 _) rfl ⟨rfl, rfl, by decide, by decide⟩ rfl rfl lf_42 ⟨rfl, Nat.le_of_ble_eq_true rfl, Nat.le_of_ble_eq_true rfl⟩ rfl (K_BestOrder_fits g4 g5) ?_
    rintro _ _ ⟨rfl, rfl⟩
    refine .inl ⟨some (iv (bi (0 < zI s 46 x5 ∧ zI s 46 x5 ≤ x3))), rfl, ?_⟩
    show wp S 84 37 [(0, rf 42), (1, iv x1), (2, iv x2), (3, iv x3), (4, iv x4), (5, iv x5)] [iv (bi (0 < zI s 46 x5 ∧ zI s 46 x5 ≤ x3))] s Q
    refine i_if (t := 44) r_84_37 (n_84_37 _) rfl (TB_eq) (fun c7 => ?_) (fun c7 => ?_)
    · replace h := h.1 c7
      refine i_iload_n (x := x2) r_84_44 (n_84_44 _) rfl ?_
      refine i_aload_n (a := 42) r_84_45 (n_84_45 _) rfl ?_
      refine i_getR (a := 42) (b := 45) r_84_46 (n_84_46 _) rfl rfl rfl (by omega) lf_42 (by omega) ?_
      refine i_iload (x := x5) r_84_49 (n_84_49 _) rfl ?_
      refine i_iaload (a := 45) (j := x5) r_84_51 (n_84_51 _) lf_45 ⟨by omega, by omega⟩ (by omega) (by omega) (fun q8 => ?_)
      obtain ⟨g9, h⟩ := h
      obtain ⟨g10, h⟩ := h
      obtain ⟨g11, h⟩ := h
      refine wp_stat (rest := []) (Ls := [(0, iv x2), (1, iv (zI s 45 x5))]) r_84_52 (n_84_52 _) rfl ⟨rfl, by decide, by decide, by decide⟩ rfl rfl ⟨rfl, Nat.le_of_ble_eq_true rfl, Nat.le_of_ble_eq_true rfl⟩ rfl (K_RL_roundUp g9 g10 g11) ?_
      rintro _ _ ⟨rfl, rfl⟩
      refine .inl ⟨some (iv (zup x2 (zI s 45 x5))), rfl, ?_⟩
      show wp S 84 55 [(0, rf 42), (1, iv x1), (2, iv x2), (3, iv x3), (4, iv x4), (5, iv x5)] [iv (zup x2 (zI s 45 x5))] s Q
      refine i_aload_n (a := 42) r_84_55 (n_84_55 _) rfl ?_
      refine i_getR (a := 42) (b := 44) r_84_56 (n_84_56 _) rfl rfl rfl (by omega) lf_42 (by omega) ?_
      refine i_iload (x := x5) r_84_59 (n_84_59 _) rfl ?_
      refine i_iaload (a := 44) (j := x5) r_84_61 (n_84_61 _) lf_44 ⟨by omega, by omega⟩ (by omega) (by omega) (fun q13 => ?_)
      refine i_iadd r_84_62 (n_84_62 _) ?_
      refine i_istore (l' := [(0, rf 42), (1, iv x1), (2, iv x2), (3, iv x3), (4, iv x4), (5, iv x5), (6, iv ((zup x2 (zI s 45 x5)) + (zI s 44 x5)))]) r_84_63 (n_84_63 _) (by decide) rfl ?_
      refine i_iload_n (x := x1) r_84_65 (n_84_65 _) rfl ?_
      refine i_iload (x := x5) r_84_66 (n_84_66 _) rfl ?_
      refine i_ishr r_84_68 (n_84_68 _) ?_
      refine i_iconst r_84_69 (n_84_69 _) ?_
      refine i_iand r_84_70 (n_84_70 _) ?_
      refine i_iconst r_84_71 (n_84_71 _) ?_
      refine i_icmp (t := 126) r_84_72 (n_84_72 _) rfl (T_eq (rng_to _) ⟨by omega, by omega⟩) (fun c14 => ?_) (fun c14 => ?_)
      · replace h := h.1 c14
        refine i_iinc (x := x5) (l' := [(0, rf 42), (1, iv x1), (2, iv x2), (3, iv x3), (4, iv x4), (5, iv (x5 + 1)), (6, iv ((zup x2 (zI s 45 x5)) + (zI s 44 x5)))]) r_84_126 (n_84_126 _) (by decide) rfl rfl ?_
        refine i_goto (t := 21) r_84_129 (n_84_129 _) rfl ?_
        exact wp_pr (l' := [(0, rf 42), (1, iv x1), (2, iv x2), (3, iv x3), (4, iv x4), (5, iv (x5 + 1))]) rfl h
      · replace h := h.2 c14
        refine i_iload (x := (zup x2 (zI s 45 x5)) + (zI s 44 x5)) r_84_75 (n_84_75 _) rfl ?_
        refine i_aload_n (a := 42) r_84_77 (n_84_77 _) rfl ?_
        refine i_iload_n (x := x1) r_84_78 (n_84_78 _) rfl ?_
        refine i_iload_n (x := x3) r_84_79 (n_84_79 _) rfl ?_
        refine i_iload (x := x5) r_84_80 (n_84_80 _) rfl ?_
        obtain ⟨g15, h⟩ := h
        refine wp_virt (b := 42) (rest := [iv ((zup x2 (zI s 45 x5)) + (zI s 44 x5))]) (Ls := [(0, rf 42), (1, iv x1), (2, iv x3), (3, iv x5)]) r_84_82 (n_84_82 _) rfl ⟨rfl, rfl, by decide, by decide⟩ rfl rfl lf_42 ⟨rfl, Nat.le_of_ble_eq_true rfl, Nat.le_of_ble_eq_true rfl⟩ rfl (K_BestOrder_needAfter g4 g5 g15) ?_
        rintro _ _ ⟨rfl, rfl⟩
        refine .inl ⟨some (iv (zI s 47 (((zor x1 (zshl 1 x5)) * 16) + (zla x3 (zI s 46 x5))))), rfl, ?_⟩
        show wp S 84 85 [(0, rf 42), (1, iv x1), (2, iv x2), (3, iv x3), (4, iv x4), (5, iv x5), (6, iv ((zup x2 (zI s 45 x5)) + (zI s 44 x5)))] [iv (zI s 47 (((zor x1 (zshl 1 x5)) * 16) + (zla x3 (zI s 46 x5)))), iv ((zup x2 (zI s 45 x5)) + (zI s 44 x5))] s Q
        refine wp_rd (a := 47) (j := (((zor x1 (zshl 1 x5)) * 16) + (zla x3 (zI s 46 x5)))) (fun q17 => ?_)
        refine i_iadd r_84_85 (n_84_85 _) ?_
        refine i_aload_n (a := 42) r_84_86 (n_84_86 _) rfl ?_
        refine i_getI (a := 42) r_84_87 (n_84_87 _) rfl (by decide) lf_42 (fun q18 => ?_)
        obtain ⟨g19, h⟩ := h
        refine i_icmp (t := 96) r_84_90 (n_84_90 _) rfl (T_le g19 q18) (fun c20 => ?_) (fun c20 => ?_)
        · replace h := h.1 c20
          refine i_aload_n (a := 42) r_84_96 (n_84_96 _) rfl ?_
          refine i_getR (a := 42) (b := 43) r_84_97 (n_84_97 _) rfl rfl rfl (by omega) lf_42 (by omega) ?_
          refine i_iload (x := x4) r_84_100 (n_84_100 _) rfl ?_
          refine i_iload (x := x5) r_84_102 (n_84_102 _) rfl ?_
          obtain ⟨g21, h⟩ := h
          refine i_iastore (a := 43) (j := x4) (x := x5) r_84_104 (n_84_104 _) lf_43 ⟨by omega, by omega⟩ (by omega) (by omega) g2 ?_
          refine i_iload_n (x := x1) r_84_105 (n_84_105 _) rfl ?_
          refine i_iconst r_84_106 (n_84_106 _) ?_
          refine i_iload (x := x5) r_84_107 (n_84_107 _) rfl ?_
          refine i_ishl r_84_109 (n_84_109 _) ?_
          refine i_ior r_84_110 (n_84_110 _) ?_
          refine i_istore_n (l' := [(0, rf 42), (1, iv (zor x1 (zshl 1 x5))), (2, iv x2), (3, iv x3), (4, iv x4), (5, iv x5), (6, iv ((zup x2 (zI s 45 x5)) + (zI s 44 x5)))]) r_84_111 (n_84_111 _) (by decide) rfl ?_
          refine i_iload (x := (zup x2 (zI s 45 x5)) + (zI s 44 x5)) r_84_112 (n_84_112 _) rfl ?_
          refine i_istore_n (l' := [(0, rf 42), (1, iv (zor x1 (zshl 1 x5))), (2, iv ((zup x2 (zI s 45 x5)) + (zI s 44 x5))), (3, iv x3), (4, iv x4), (5, iv x5), (6, iv ((zup x2 (zI s 45 x5)) + (zI s 44 x5)))]) r_84_114 (n_84_114 _) (by decide) rfl ?_
          refine i_aload_n (a := 42) r_84_115 (n_84_115 _) rfl ?_
          refine i_iload_n (x := x3) r_84_116 (n_84_116 _) rfl ?_
          refine i_iload (x := x5) r_84_117 (n_84_117 _) rfl ?_
          have e22 : zI (zwI s 43 x4 x5) 46 x5 = zI s 46 x5 := zI_ne (by omega)
          refine wp_virt (b := 42) (rest := []) (Ls := [(0, rf 42), (1, iv x3), (2, iv x5)]) r_84_119 (n_84_119 _) rfl ⟨rfl, rfl, by decide, by decide⟩ rfl rfl lf_42 ⟨rfl, Nat.le_of_ble_eq_true rfl, Nat.le_of_ble_eq_true rfl⟩ rfl (K_BestOrder_leftAfter (by (try rw [e22]); exact g4) (by (try rw [e22]); exact g5)) ?_
          rintro _ _ ⟨rfl, rfl⟩
          refine .inl ⟨some (iv (zla x3 (zI s 46 x5))), by (try rw [e22]); (try rfl), ?_⟩
          show wp S 84 122 [(0, rf 42), (1, iv (zor x1 (zshl 1 x5))), (2, iv ((zup x2 (zI s 45 x5)) + (zI s 44 x5))), (3, iv x3), (4, iv x4), (5, iv x5), (6, iv ((zup x2 (zI s 45 x5)) + (zI s 44 x5)))] [iv (zla x3 (zI s 46 x5))] (zwI s 43 x4 x5) Q
          refine i_istore_n (l' := [(0, rf 42), (1, iv (zor x1 (zshl 1 x5))), (2, iv ((zup x2 (zI s 45 x5)) + (zI s 44 x5))), (3, iv (zla x3 (zI s 46 x5))), (4, iv x4), (5, iv x5), (6, iv ((zup x2 (zI s 45 x5)) + (zI s 44 x5)))]) r_84_122 (n_84_122 _) (by decide) rfl ?_
          refine i_goto (t := 132) r_84_123 (n_84_123 _) rfl ?_
          refine i_iinc (x := x4) (l' := [(0, rf 42), (1, iv (zor x1 (zshl 1 x5))), (2, iv ((zup x2 (zI s 45 x5)) + (zI s 44 x5))), (3, iv (zla x3 (zI s 46 x5))), (4, iv (x4 + 1)), (5, iv x5), (6, iv ((zup x2 (zI s 45 x5)) + (zI s 44 x5)))]) r_84_132 (n_84_132 _) (by decide) rfl rfl ?_
          refine i_goto (t := 9) r_84_135 (n_84_135 _) rfl ?_
          exact wp_pr (l' := [(0, rf 42), (1, iv (zor x1 (zshl 1 x5))), (2, iv ((zup x2 (zI s 45 x5)) + (zI s 44 x5))), (3, iv (zla x3 (zI s 46 x5))), (4, iv (x4 + 1))]) rfl h
        · replace h := h.2 c20
          refine i_goto (t := 126) r_84_93 (n_84_93 _) rfl ?_
          refine i_iinc (x := x5) (l' := [(0, rf 42), (1, iv x1), (2, iv x2), (3, iv x3), (4, iv x4), (5, iv (x5 + 1)), (6, iv ((zup x2 (zI s 45 x5)) + (zI s 44 x5)))]) r_84_126 (n_84_126 _) (by decide) rfl rfl ?_
          refine i_goto (t := 21) r_84_129 (n_84_129 _) rfl ?_
          exact wp_pr (l' := [(0, rf 42), (1, iv x1), (2, iv x2), (3, iv x3), (4, iv x4), (5, iv (x5 + 1))]) rfl h
    · replace h := h.2 c7
      refine i_iload_n (x := x2) r_84_40 (n_84_40 _) rfl ?_
      refine i_goto (t := 63) r_84_41 (n_84_41 _) rfl ?_
      refine i_istore (l' := [(0, rf 42), (1, iv x1), (2, iv x2), (3, iv x3), (4, iv x4), (5, iv x5), (6, iv x2)]) r_84_63 (n_84_63 _) (by decide) rfl ?_
      refine i_iload_n (x := x1) r_84_65 (n_84_65 _) rfl ?_
      refine i_iload (x := x5) r_84_66 (n_84_66 _) rfl ?_
      refine i_ishr r_84_68 (n_84_68 _) ?_
      refine i_iconst r_84_69 (n_84_69 _) ?_
      refine i_iand r_84_70 (n_84_70 _) ?_
      refine i_iconst r_84_71 (n_84_71 _) ?_
      refine i_icmp (t := 126) r_84_72 (n_84_72 _) rfl (T_eq (rng_to _) ⟨by omega, by omega⟩) (fun c24 => ?_) (fun c24 => ?_)
      · replace h := h.1 c24
        refine i_iinc (x := x5) (l' := [(0, rf 42), (1, iv x1), (2, iv x2), (3, iv x3), (4, iv x4), (5, iv (x5 + 1)), (6, iv x2)]) r_84_126 (n_84_126 _) (by decide) rfl rfl ?_
        refine i_goto (t := 21) r_84_129 (n_84_129 _) rfl ?_
        exact wp_pr (l' := [(0, rf 42), (1, iv x1), (2, iv x2), (3, iv x3), (4, iv x4), (5, iv (x5 + 1))]) rfl h
      · replace h := h.2 c24
        refine i_iload (x := x2) r_84_75 (n_84_75 _) rfl ?_
        refine i_aload_n (a := 42) r_84_77 (n_84_77 _) rfl ?_
        refine i_iload_n (x := x1) r_84_78 (n_84_78 _) rfl ?_
        refine i_iload_n (x := x3) r_84_79 (n_84_79 _) rfl ?_
        refine i_iload (x := x5) r_84_80 (n_84_80 _) rfl ?_
        obtain ⟨g25, h⟩ := h
        refine wp_virt (b := 42) (rest := [iv x2]) (Ls := [(0, rf 42), (1, iv x1), (2, iv x3), (3, iv x5)]) r_84_82 (n_84_82 _) rfl ⟨rfl, rfl, by decide, by decide⟩ rfl rfl lf_42 ⟨rfl, Nat.le_of_ble_eq_true rfl, Nat.le_of_ble_eq_true rfl⟩ rfl (K_BestOrder_needAfter g4 g5 g25) ?_
        rintro _ _ ⟨rfl, rfl⟩
        refine .inl ⟨some (iv (zI s 47 (((zor x1 (zshl 1 x5)) * 16) + (zla x3 (zI s 46 x5))))), rfl, ?_⟩
        show wp S 84 85 [(0, rf 42), (1, iv x1), (2, iv x2), (3, iv x3), (4, iv x4), (5, iv x5), (6, iv x2)] [iv (zI s 47 (((zor x1 (zshl 1 x5)) * 16) + (zla x3 (zI s 46 x5)))), iv x2] s Q
        refine wp_rd (a := 47) (j := (((zor x1 (zshl 1 x5)) * 16) + (zla x3 (zI s 46 x5)))) (fun q27 => ?_)
        refine i_iadd r_84_85 (n_84_85 _) ?_
        refine i_aload_n (a := 42) r_84_86 (n_84_86 _) rfl ?_
        refine i_getI (a := 42) r_84_87 (n_84_87 _) rfl (by decide) lf_42 (fun q28 => ?_)
        obtain ⟨g29, h⟩ := h
        refine i_icmp (t := 96) r_84_90 (n_84_90 _) rfl (T_le g29 q28) (fun c30 => ?_) (fun c30 => ?_)
        · replace h := h.1 c30
          refine i_aload_n (a := 42) r_84_96 (n_84_96 _) rfl ?_
          refine i_getR (a := 42) (b := 43) r_84_97 (n_84_97 _) rfl rfl rfl (by omega) lf_42 (by omega) ?_
          refine i_iload (x := x4) r_84_100 (n_84_100 _) rfl ?_
          refine i_iload (x := x5) r_84_102 (n_84_102 _) rfl ?_
          obtain ⟨g31, h⟩ := h
          refine i_iastore (a := 43) (j := x4) (x := x5) r_84_104 (n_84_104 _) lf_43 ⟨by omega, by omega⟩ (by omega) (by omega) g2 ?_
          refine i_iload_n (x := x1) r_84_105 (n_84_105 _) rfl ?_
          refine i_iconst r_84_106 (n_84_106 _) ?_
          refine i_iload (x := x5) r_84_107 (n_84_107 _) rfl ?_
          refine i_ishl r_84_109 (n_84_109 _) ?_
          refine i_ior r_84_110 (n_84_110 _) ?_
          refine i_istore_n (l' := [(0, rf 42), (1, iv (zor x1 (zshl 1 x5))), (2, iv x2), (3, iv x3), (4, iv x4), (5, iv x5), (6, iv x2)]) r_84_111 (n_84_111 _) (by decide) rfl ?_
          refine i_iload (x := x2) r_84_112 (n_84_112 _) rfl ?_
          refine i_istore_n (l' := [(0, rf 42), (1, iv (zor x1 (zshl 1 x5))), (2, iv x2), (3, iv x3), (4, iv x4), (5, iv x5), (6, iv x2)]) r_84_114 (n_84_114 _) (by decide) rfl ?_
          refine i_aload_n (a := 42) r_84_115 (n_84_115 _) rfl ?_
          refine i_iload_n (x := x3) r_84_116 (n_84_116 _) rfl ?_
          refine i_iload (x := x5) r_84_117 (n_84_117 _) rfl ?_
          have e32 : zI (zwI s 43 x4 x5) 46 x5 = zI s 46 x5 := zI_ne (by omega)
          refine wp_virt (b := 42) (rest := []) (Ls := [(0, rf 42), (1, iv x3), (2, iv x5)]) r_84_119 (n_84_119 _) rfl ⟨rfl, rfl, by decide, by decide⟩ rfl rfl lf_42 ⟨rfl, Nat.le_of_ble_eq_true rfl, Nat.le_of_ble_eq_true rfl⟩ rfl (K_BestOrder_leftAfter (by (try rw [e32]); exact g4) (by (try rw [e32]); exact g5)) ?_
          rintro _ _ ⟨rfl, rfl⟩
          refine .inl ⟨some (iv (zla x3 (zI s 46 x5))), by (try rw [e32]); (try rfl), ?_⟩
          show wp S 84 122 [(0, rf 42), (1, iv (zor x1 (zshl 1 x5))), (2, iv x2), (3, iv x3), (4, iv x4), (5, iv x5), (6, iv x2)] [iv (zla x3 (zI s 46 x5))] (zwI s 43 x4 x5) Q
          refine i_istore_n (l' := [(0, rf 42), (1, iv (zor x1 (zshl 1 x5))), (2, iv x2), (3, iv (zla x3 (zI s 46 x5))), (4, iv x4), (5, iv x5), (6, iv x2)]) r_84_122 (n_84_122 _) (by decide) rfl ?_
          refine i_goto (t := 132) r_84_123 (n_84_123 _) rfl ?_
          refine i_iinc (x := x4) (l' := [(0, rf 42), (1, iv (zor x1 (zshl 1 x5))), (2, iv x2), (3, iv (zla x3 (zI s 46 x5))), (4, iv (x4 + 1)), (5, iv x5), (6, iv x2)]) r_84_132 (n_84_132 _) (by decide) rfl rfl ?_
          refine i_goto (t := 9) r_84_135 (n_84_135 _) rfl ?_
          exact wp_pr (l' := [(0, rf 42), (1, iv (zor x1 (zshl 1 x5))), (2, iv x2), (3, iv (zla x3 (zI s 46 x5))), (4, iv (x4 + 1))]) rfl h
        · replace h := h.2 c30
          refine i_goto (t := 126) r_84_93 (n_84_93 _) rfl ?_
          refine i_iinc (x := x5) (l' := [(0, rf 42), (1, iv x1), (2, iv x2), (3, iv x3), (4, iv x4), (5, iv (x5 + 1)), (6, iv x2)]) r_84_126 (n_84_126 _) (by decide) rfl rfl ?_
          refine i_goto (t := 21) r_84_129 (n_84_129 _) rfl ?_
          exact wp_pr (l' := [(0, rf 42), (1, iv x1), (2, iv x2), (3, iv x3), (4, iv x4), (5, iv (x5 + 1))]) rfl h
theorem r_86_0 : xfetch 86 0 = some (.aload_n 0, 1) := by decide +kernel
theorem n_86_0 : ∀ l, xpr 86 0 l = l := xpr_no (by decide +kernel)
theorem r_86_1 : xfetch 86 1 = some (.iload_n 1, 1) := by decide +kernel
theorem n_86_1 : ∀ l, xpr 86 1 l = l := xpr_no (by decide +kernel)
theorem r_86_2 : xfetch 86 2 = some (.invokevirtual 95, 3) := by decide +kernel
theorem n_86_2 : ∀ l, xpr 86 2 l = l := xpr_no (by decide +kernel)
theorem r_86_5 : xfetch 86 5 = some (.iload_n 2, 1) := by decide +kernel
theorem n_86_5 : ∀ l, xpr 86 5 l = l := xpr_no (by decide +kernel)
theorem r_86_6 : xfetch 86 6 = some (.ifCond .lt 19, 3) := by decide +kernel
theorem n_86_6 : ∀ l, xpr 86 6 l = l := xpr_no (by decide +kernel)
theorem r_86_9 : xfetch 86 9 = some (.iload_n 2, 1) := by decide +kernel
theorem n_86_9 : ∀ l, xpr 86 9 l = l := xpr_no (by decide +kernel)
theorem r_86_10 : xfetch 86 10 = some (.aload_n 0, 1) := by decide +kernel
theorem n_86_10 : ∀ l, xpr 86 10 l = l := xpr_no (by decide +kernel)
theorem r_86_11 : xfetch 86 11 = some (.getfield 10, 3) := by decide +kernel
theorem n_86_11 : ∀ l, xpr 86 11 l = l := xpr_no (by decide +kernel)
theorem r_86_14 : xfetch 86 14 = some (.getfield 83, 3) := by decide +kernel
theorem n_86_14 : ∀ l, xpr 86 14 l = l := xpr_no (by decide +kernel)
theorem r_86_17 : xfetch 86 17 = some (.iload_n 1, 1) := by decide +kernel
theorem n_86_17 : ∀ l, xpr 86 17 l = l := xpr_no (by decide +kernel)
theorem r_86_18 : xfetch 86 18 = some (.aaload, 1) := by decide +kernel
theorem n_86_18 : ∀ l, xpr 86 18 l = l := xpr_no (by decide +kernel)
theorem r_86_19 : xfetch 86 19 = some (.getfield 133, 3) := by decide +kernel
theorem n_86_19 : ∀ l, xpr 86 19 l = l := xpr_no (by decide +kernel)
theorem r_86_22 : xfetch 86 22 = some (.if_icmp .lt 13, 3) := by decide +kernel
theorem n_86_22 : ∀ l, xpr 86 22 l = l := xpr_no (by decide +kernel)
theorem r_86_25 : xfetch 86 25 = some (.new 157, 3) := by decide +kernel
theorem n_86_25 : ∀ l, xpr 86 25 l = l := xpr_no (by decide +kernel)
theorem r_86_35 : xfetch 86 35 = some (.aload_n 0, 1) := by decide +kernel
theorem n_86_35 : ∀ l, xpr 86 35 l = l := xpr_no (by decide +kernel)
theorem r_86_36 : xfetch 86 36 = some (.iload_n 1, 1) := by decide +kernel
theorem n_86_36 : ∀ l, xpr 86 36 l = l := xpr_no (by decide +kernel)
theorem r_86_37 : xfetch 86 37 = some (.invokevirtual 192, 3) := by decide +kernel
theorem n_86_37 : ∀ l, xpr 86 37 l = l := xpr_no (by decide +kernel)
theorem r_86_40 : xfetch 86 40 = some (.aload_n 0, 1) := by decide +kernel
theorem n_86_40 : ∀ l, xpr 86 40 l = l := xpr_no (by decide +kernel)
theorem r_86_41 : xfetch 86 41 = some (.getfield 36, 3) := by decide +kernel
theorem n_86_41 : ∀ l, xpr 86 41 l = l := xpr_no (by decide +kernel)
theorem r_86_44 : xfetch 86 44 = some (.getfield 200, 3) := by decide +kernel
theorem n_86_44 : ∀ l, xpr 86 44 l = l := xpr_no (by decide +kernel)
theorem r_86_47 : xfetch 86 47 = some (.iload_n 2, 1) := by decide +kernel
theorem n_86_47 : ∀ l, xpr 86 47 l = l := xpr_no (by decide +kernel)
theorem r_86_48 : xfetch 86 48 = some (.iaload, 1) := by decide +kernel
theorem n_86_48 : ∀ l, xpr 86 48 l = l := xpr_no (by decide +kernel)
theorem r_86_49 : xfetch 86 49 = some (.ireturn, 1) := by decide +kernel
theorem n_86_49 : ∀ l, xpr 86 49 l = l := xpr_no (by decide +kernel)
theorem v_RL_bestOrder_0 {S : Option (Nat × (Nat → Int32))} {s : zSt} {Q : Option Value ⊕ Nat → zSt → Prop} {x1 : Int} {x2 : Int} 
    (h : rng x1 ∧ ((0 ≤ x1 ∧ x1 < zI s 3 0 → rng x2 ∧ ((x2 < 0 → Q (rT 2) (zbump s)) ∧ (0 ≤ x2 → (0 ≤ x1 ∧ x1 < 6) ∧ ((x2 < (zI s (7 + 4 * x1) 1) → wp S 76 0 [(0, rf 2), (1, iv x1)] [] s (fun o9 s9 => zkU ((0 ≤ x2 ∧ x2 < 8) ∧ (Q (rI (zI s9 43 x2)) s9)) (fun e9 => False) o9)) ∧ ((zI s (7 + 4 * x1) 1) ≤ x2 → Q (rT 2) (zbump s)))))) ∧ ((¬ (0 ≤ x1 ∧ x1 < zI s 3 0) → Q (rT 2) (zbump s))))) :
    wp S 86 0 [(0, rf 2), (1, iv x1), (2, iv x2)] [] s Q := by
  refine i_aload_n (a := 2) r_86_0 (n_86_0 _) rfl ?_
  refine i_iload_n (x := x1) r_86_1 (n_86_1 _) rfl ?_
  obtain ⟨g1, h⟩ := h
  refine wp_virt (b := 2) (rest := []) (Ls := [(0, rf 2), (1, iv x1)]) r_86_2 (n_86_2 _) rfl ⟨rfl, rfl, by decide, by decide⟩ rfl rfl lf_2 ⟨rfl, Nat.le_of_ble_eq_true rfl, Nat.le_of_ble_eq_true rfl⟩ rfl (K_RL_checkRecord g1) ?_
  rintro _ _ (⟨c2, rfl, rfl⟩ | ⟨c2, rfl, rfl⟩)
  · replace h := h.1 c2
    refine .inl ⟨none, rfl, ?_⟩
    show wp S 86 5 [(0, rf 2), (1, iv x1), (2, iv x2)] [] s Q
    refine i_iload_n (x := x2) r_86_5 (n_86_5 _) rfl ?_
    obtain ⟨g3, h⟩ := h
    refine i_if (t := 25) r_86_6 (n_86_6 _) rfl (T_lt g3 ⟨by omega, by omega⟩) (fun c4 => ?_) (fun c4 => ?_)
    · replace h := h.1 c4
      exact i_throw r_86_25 (n_86_25 _) rfl (by decide) h
    · replace h := h.2 c4
      refine i_iload_n (x := x2) r_86_9 (n_86_9 _) rfl ?_
      refine i_aload_n (a := 2) r_86_10 (n_86_10 _) rfl ?_
      refine i_getR (a := 2) (b := 3) r_86_11 (n_86_11 _) rfl rfl rfl (by omega) lf_2 (by omega) ?_
      refine i_getR (a := 3) (b := 4) r_86_14 (n_86_14 _) rfl rfl rfl (by omega) lf_3 (by omega) ?_
      refine i_iload_n (x := x1) r_86_17 (n_86_17 _) rfl ?_
      obtain ⟨g5, h⟩ := h
      refine i_aaload (c := 1) (a := 4) (j := x1) (b := 7 + 4 * x1) r_86_18 (n_86_18 _) lf_4 ⟨by omega, by omega⟩ (by omega) (by omega) rfl (by omega) ?_
      have t6 := e_1 (j := x1) lf_4 (by omega) (by omega)
      rw [show 4 + 3 + 4 * x1 = 7 + 4 * x1 by omega] at t6
      refine i_getI (a := 7 + 4 * x1) r_86_19 (n_86_19 _) rfl (by decide) t6 (fun q7 => ?_)
      refine i_icmp (t := 35) r_86_22 (n_86_22 _) rfl (T_lt g3 q7) (fun c8 => ?_) (fun c8 => ?_)
      · replace h := h.1 c8
        refine i_aload_n (a := 2) r_86_35 (n_86_35 _) rfl ?_
        refine i_iload_n (x := x1) r_86_36 (n_86_36 _) rfl ?_
        refine wp_virt (b := 2) (rest := []) (Ls := [(0, rf 2), (1, iv x1)]) r_86_37 (n_86_37 _) rfl ⟨rfl, rfl, by decide, by decide⟩ rfl rfl lf_2 ⟨rfl, Nat.le_of_ble_eq_true rfl, Nat.le_of_ble_eq_true rfl⟩ rfl h ?_
        intro o9 s9 h
        rcases h with ⟨rfl, h⟩ | ⟨e9, rfl, h⟩
        · refine .inl ⟨none, rfl, ?_⟩
          refine i_aload_n (a := 2) r_86_40 (n_86_40 _) rfl ?_
          refine i_getR (a := 2) (b := 42) r_86_41 (n_86_41 _) rfl rfl rfl (by omega) lf_2 (by omega) ?_
          refine i_getR (a := 42) (b := 43) r_86_44 (n_86_44 _) rfl rfl rfl (by omega) lf_42 (by omega) ?_
          refine i_iload_n (x := x2) r_86_47 (n_86_47 _) rfl ?_
          obtain ⟨g11, h⟩ := h
          refine i_iaload (a := 43) (j := x2) r_86_48 (n_86_48 _) lf_43 ⟨by omega, by omega⟩ (by omega) (by omega) (fun q12 => ?_)
          exact i_ireturn r_86_49 (n_86_49 _) rfl h
        · skip
          exact h.elim
      · replace h := h.2 c8
        exact i_throw r_86_25 (n_86_25 _) rfl (by decide) h
  · replace h := h.2 c2
    exact .inr ⟨_, rfl, .inl ⟨rfl, h⟩⟩
theorem r_88_0 : xfetch 88 0 = some (.iload_n 1, 1) := by decide +kernel
theorem n_88_0 : ∀ l, xpr 88 0 l = l := xpr_no (by decide +kernel)
theorem r_88_1 : xfetch 88 1 = some (.ifCond .lt 9, 3) := by decide +kernel
theorem n_88_1 : ∀ l, xpr 88 1 l = l := xpr_no (by decide +kernel)
theorem r_88_4 : xfetch 88 4 = some (.iload_n 1, 1) := by decide +kernel
theorem n_88_4 : ∀ l, xpr 88 4 l = l := xpr_no (by decide +kernel)
theorem r_88_5 : xfetch 88 5 = some (.bipush 127, 2) := by decide +kernel
theorem n_88_5 : ∀ l, xpr 88 5 l = l := xpr_no (by decide +kernel)
theorem r_88_7 : xfetch 88 7 = some (.if_icmp .le 13, 3) := by decide +kernel
theorem n_88_7 : ∀ l, xpr 88 7 l = l := xpr_no (by decide +kernel)
theorem r_88_10 : xfetch 88 10 = some (.new 102, 3) := by decide +kernel
theorem n_88_10 : ∀ l, xpr 88 10 l = l := xpr_no (by decide +kernel)
theorem r_88_20 : xfetch 88 20 = some (.aload_n 0, 1) := by decide +kernel
theorem n_88_20 : ∀ l, xpr 88 20 l = l := xpr_no (by decide +kernel)
theorem r_88_21 : xfetch 88 21 = some (.getfield 29, 3) := by decide +kernel
theorem n_88_21 : ∀ l, xpr 88 21 l = l := xpr_no (by decide +kernel)
theorem r_88_24 : xfetch 88 24 = some (.getfield 205, 3) := by decide +kernel
theorem n_88_24 : ∀ l, xpr 88 24 l = l := xpr_no (by decide +kernel)
theorem r_88_27 : xfetch 88 27 = some (.bipush 80, 2) := by decide +kernel
theorem n_88_27 : ∀ l, xpr 88 27 l = l := xpr_no (by decide +kernel)
theorem r_88_29 : xfetch 88 29 = some (.if_icmp .lt 13, 3) := by decide +kernel
theorem n_88_29 : ∀ l, xpr 88 29 l = l := xpr_no (by decide +kernel)
theorem r_88_32 : xfetch 88 32 = some (.new 137, 3) := by decide +kernel
theorem n_88_32 : ∀ l, xpr 88 32 l = l := xpr_no (by decide +kernel)
theorem r_88_42 : xfetch 88 42 = some (.aload_n 0, 1) := by decide +kernel
theorem n_88_42 : ∀ l, xpr 88 42 l = l := xpr_no (by decide +kernel)
theorem r_88_43 : xfetch 88 43 = some (.getfield 29, 3) := by decide +kernel
theorem n_88_43 : ∀ l, xpr 88 43 l = l := xpr_no (by decide +kernel)
theorem r_88_46 : xfetch 88 46 = some (.iload_n 1, 1) := by decide +kernel
theorem n_88_46 : ∀ l, xpr 88 46 l = l := xpr_no (by decide +kernel)
theorem r_88_47 : xfetch 88 47 = some (.invokevirtual 210, 3) := by decide +kernel
theorem n_88_47 : ∀ l, xpr 88 47 l = l := xpr_no (by decide +kernel)
theorem r_88_50 : xfetch 88 50 = some (.aload_n 0, 1) := by decide +kernel
theorem n_88_50 : ∀ l, xpr 88 50 l = l := xpr_no (by decide +kernel)
theorem r_88_51 : xfetch 88 51 = some (.getfield 29, 3) := by decide +kernel
theorem n_88_51 : ∀ l, xpr 88 51 l = l := xpr_no (by decide +kernel)
theorem r_88_54 : xfetch 88 54 = some (.getfield 205, 3) := by decide +kernel
theorem n_88_54 : ∀ l, xpr 88 54 l = l := xpr_no (by decide +kernel)
theorem r_88_57 : xfetch 88 57 = some (.ireturn, 1) := by decide +kernel
theorem n_88_57 : ∀ l, xpr 88 57 l = l := xpr_no (by decide +kernel)
theorem v_RL_append_0 {S : Option (Nat × (Nat → Int32))} {s : zSt} {Q : Option Value ⊕ Nat → zSt → Prop} {x1 : Int} 
    (h : rng x1 ∧ ((x1 < 0 → Q (rT 0) (zbump s)) ∧ (0 ≤ x1 → (x1 ≤ 127 → ((zI s 36 0) < 80 → wp S 89 0 [(0, rf 36), (1, iv x1)] [] s (fun o6 s6 => zkU (Q (rI (zI s6 36 0)) s6) (fun e6 => False) o6)) ∧ (80 ≤ (zI s 36 0) → Q (rT 1) (zbump s))) ∧ (127 < x1 → Q (rT 0) (zbump s))))) :
    wp S 88 0 [(0, rf 2), (1, iv x1)] [] s Q := by
  refine i_iload_n (x := x1) r_88_0 (n_88_0 _) rfl ?_
  obtain ⟨g1, h⟩ := h
  refine i_if (t := 10) r_88_1 (n_88_1 _) rfl (T_lt g1 ⟨by omega, by omega⟩) (fun c2 => ?_) (fun c2 => ?_)
  · replace h := h.1 c2
    exact i_throw r_88_10 (n_88_10 _) rfl (by decide) h
  · replace h := h.2 c2
    refine i_iload_n (x := x1) r_88_4 (n_88_4 _) rfl ?_
    refine i_bipush r_88_5 (n_88_5 _) rfl ?_
    refine i_icmp (t := 20) r_88_7 (n_88_7 _) rfl (T_le g1 ⟨by omega, by omega⟩) (fun c3 => ?_) (fun c3 => ?_)
    · replace h := h.1 c3
      refine i_aload_n (a := 2) r_88_20 (n_88_20 _) rfl ?_
      refine i_getR (a := 2) (b := 36) r_88_21 (n_88_21 _) rfl rfl rfl (by omega) lf_2 (by omega) ?_
      refine i_getI (a := 36) r_88_24 (n_88_24 _) rfl (by decide) lf_36 (fun q4 => ?_)
      refine i_bipush r_88_27 (n_88_27 _) rfl ?_
      refine i_icmp (t := 42) r_88_29 (n_88_29 _) rfl (T_lt q4 ⟨by omega, by omega⟩) (fun c5 => ?_) (fun c5 => ?_)
      · replace h := h.1 c5
        refine i_aload_n (a := 2) r_88_42 (n_88_42 _) rfl ?_
        refine i_getR (a := 2) (b := 36) r_88_43 (n_88_43 _) rfl rfl rfl (by omega) lf_2 (by omega) ?_
        refine i_iload_n (x := x1) r_88_46 (n_88_46 _) rfl ?_
        refine wp_virt (b := 36) (rest := []) (Ls := [(0, rf 36), (1, iv x1)]) r_88_47 (n_88_47 _) rfl ⟨rfl, rfl, by decide, by decide⟩ rfl rfl lf_36 ⟨rfl, Nat.le_of_ble_eq_true rfl, Nat.le_of_ble_eq_true rfl⟩ rfl h ?_
        intro o6 s6 h
        rcases h with ⟨rfl, h⟩ | ⟨e6, rfl, h⟩
        · refine .inl ⟨none, rfl, ?_⟩
          refine i_aload_n (a := 2) r_88_50 (n_88_50 _) rfl ?_
          refine i_getR (a := 2) (b := 36) r_88_51 (n_88_51 _) rfl rfl rfl (by omega) lf_2 (by omega) ?_
          refine i_getI (a := 36) r_88_54 (n_88_54 _) rfl (by decide) lf_36 (fun q8 => ?_)
          exact i_ireturn r_88_57 (n_88_57 _) rfl h
        · skip
          exact h.elim
      · replace h := h.2 c5
        exact i_throw r_88_32 (n_88_32 _) rfl (by decide) h
    · replace h := h.2 c3
      exact i_throw r_88_10 (n_88_10 _) rfl (by decide) h
theorem r_89_0 : xfetch 89 0 = some (.aload_n 0, 1) := by decide +kernel
theorem n_89_0 : ∀ l, xpr 89 0 l = l := xpr_no (by decide +kernel)
theorem r_89_1 : xfetch 89 1 = some (.getfield 22, 3) := by decide +kernel
theorem n_89_1 : ∀ l, xpr 89 1 l = l := xpr_no (by decide +kernel)
theorem r_89_4 : xfetch 89 4 = some (.bipush 80, 2) := by decide +kernel
theorem n_89_4 : ∀ l, xpr 89 4 l = l := xpr_no (by decide +kernel)
theorem r_89_6 : xfetch 89 6 = some (.if_icmp .ge 24, 3) := by decide +kernel
theorem n_89_6 : ∀ l, xpr 89 6 l = l := xpr_no (by decide +kernel)
theorem r_89_9 : xfetch 89 9 = some (.aload_n 0, 1) := by decide +kernel
theorem n_89_9 : ∀ l, xpr 89 9 l = l := xpr_no (by decide +kernel)
theorem r_89_10 : xfetch 89 10 = some (.getfield 18, 3) := by decide +kernel
theorem n_89_10 : ∀ l, xpr 89 10 l = l := xpr_no (by decide +kernel)
theorem r_89_13 : xfetch 89 13 = some (.aload_n 0, 1) := by decide +kernel
theorem n_89_13 : ∀ l, xpr 89 13 l = l := xpr_no (by decide +kernel)
theorem r_89_14 : xfetch 89 14 = some (.getfield 22, 3) := by decide +kernel
theorem n_89_14 : ∀ l, xpr 89 14 l = l := xpr_no (by decide +kernel)
theorem r_89_17 : xfetch 89 17 = some (.iload_n 1, 1) := by decide +kernel
theorem n_89_17 : ∀ l, xpr 89 17 l = l := xpr_no (by decide +kernel)
theorem r_89_18 : xfetch 89 18 = some (.i2b, 1) := by decide +kernel
theorem n_89_18 : ∀ l, xpr 89 18 l = l := xpr_no (by decide +kernel)
theorem r_89_19 : xfetch 89 19 = some (.bastore, 1) := by decide +kernel
theorem n_89_19 : ∀ l, xpr 89 19 l = l := xpr_no (by decide +kernel)
theorem r_89_20 : xfetch 89 20 = some (.aload_n 0, 1) := by decide +kernel
theorem n_89_20 : ∀ l, xpr 89 20 l = l := xpr_no (by decide +kernel)
theorem r_89_21 : xfetch 89 21 = some (.dup, 1) := by decide +kernel
theorem n_89_21 : ∀ l, xpr 89 21 l = l := xpr_no (by decide +kernel)
theorem r_89_22 : xfetch 89 22 = some (.getfield 22, 3) := by decide +kernel
theorem n_89_22 : ∀ l, xpr 89 22 l = l := xpr_no (by decide +kernel)
theorem r_89_25 : xfetch 89 25 = some (.iconst 1, 1) := by decide +kernel
theorem n_89_25 : ∀ l, xpr 89 25 l = l := xpr_no (by decide +kernel)
theorem r_89_26 : xfetch 89 26 = some (.iadd, 1) := by decide +kernel
theorem n_89_26 : ∀ l, xpr 89 26 l = l := xpr_no (by decide +kernel)
theorem r_89_27 : xfetch 89 27 = some (.putfield 22, 3) := by decide +kernel
theorem n_89_27 : ∀ l, xpr 89 27 l = l := xpr_no (by decide +kernel)
theorem r_89_30 : xfetch 89 30 = some (.return_, 1) := by decide +kernel
theorem n_89_30 : ∀ l, xpr 89 30 l = l := xpr_no (by decide +kernel)
theorem v_Text_add_0 {S : Option (Nat × (Nat → Int32))} {s : zSt} {Q : Option Value ⊕ Nat → zSt → Prop} {x1 : Int} 
    (h : (80 ≤ (zI s 36 0) → Q rU s) ∧ ((zI s 36 0) < 80 → (0 ≤ (zI s 36 0) ∧ (zI s 36 0) < 80) ∧ (rng ((zI s 36 0) + 1) ∧ (Q rU (zwI (zwI s 41 (zI s 36 0) (zi2b (zi2b x1))) 36 0 ((zI s 36 0) + 1)))))) :
    wp S 89 0 [(0, rf 36), (1, iv x1)] [] s Q := by
  refine i_aload_n (a := 36) r_89_0 (n_89_0 _) rfl ?_
  refine i_getI (a := 36) r_89_1 (n_89_1 _) rfl (by decide) lf_36 (fun q1 => ?_)
  refine i_bipush r_89_4 (n_89_4 _) rfl ?_
  refine i_icmp (t := 30) r_89_6 (n_89_6 _) rfl (T_ge q1 ⟨by omega, by omega⟩) (fun c2 => ?_) (fun c2 => ?_)
  · replace h := h.1 c2
    exact i_return r_89_30 (n_89_30 _) rfl h
  · replace h := h.2 c2
    refine i_aload_n (a := 36) r_89_9 (n_89_9 _) rfl ?_
    refine i_getR (a := 36) (b := 41) r_89_10 (n_89_10 _) rfl rfl rfl (by omega) lf_36 (by omega) ?_
    refine i_aload_n (a := 36) r_89_13 (n_89_13 _) rfl ?_
    refine i_getI (a := 36) r_89_14 (n_89_14 _) rfl (by decide) lf_36 (fun q3 => ?_)
    refine i_iload_n (x := x1) r_89_17 (n_89_17 _) rfl ?_
    refine i_i2b r_89_18 (n_89_18 _) ?_
    obtain ⟨g4, h⟩ := h
    refine i_bastore (a := 41) (j := zI s 36 0) (x := zi2b x1) r_89_19 (n_89_19 _) lf_41 ⟨by omega, by omega⟩ (by omega) (by omega) ?_
    refine i_aload_n (a := 36) r_89_20 (n_89_20 _) rfl ?_
    refine i_dup r_89_21 (n_89_21 _) rfl ?_
    have e6 : zI (zwI s 41 (zI s 36 0) (zi2b (zi2b x1))) 36 0 = zI s 36 0 := zI_ne (by omega)
    refine i_getIe (a := 36) (x := zI s 36 0) r_89_22 (n_89_22 _) rfl (by decide) lf_36 e6 (fun q5 => ?_)
    refine i_iconst r_89_25 (n_89_25 _) ?_
    refine i_iadd r_89_26 (n_89_26 _) ?_
    obtain ⟨g7, h⟩ := h
    refine i_putI (a := 36) (x := (zI s 36 0) + 1) r_89_27 (n_89_27 _) rfl (.inl rfl) rfl lf_36 g7 ?_
    exact i_return r_89_30 (n_89_30 _) rfl h
theorem r_91_0 : xfetch 91 0 = some (.iload_n 1, 1) := by decide +kernel
theorem n_91_0 : ∀ l, xpr 91 0 l = l := xpr_no (by decide +kernel)
theorem r_91_1 : xfetch 91 1 = some (.invokestatic 70, 3) := by decide +kernel
theorem n_91_1 : ∀ l, xpr 91 1 l = l := xpr_no (by decide +kernel)
theorem r_91_4 : xfetch 91 4 = some (.aload_n 0, 1) := by decide +kernel
theorem n_91_4 : ∀ l, xpr 91 4 l = l := xpr_no (by decide +kernel)
theorem r_91_5 : xfetch 91 5 = some (.invokevirtual 74, 3) := by decide +kernel
theorem n_91_5 : ∀ l, xpr 91 5 l = l := xpr_no (by decide +kernel)
theorem r_91_8 : xfetch 91 8 = some (.aload_n 0, 1) := by decide +kernel
theorem n_91_8 : ∀ l, xpr 91 8 l = l := xpr_no (by decide +kernel)
theorem r_91_9 : xfetch 91 9 = some (.getfield 29, 3) := by decide +kernel
theorem n_91_9 : ∀ l, xpr 91 9 l = l := xpr_no (by decide +kernel)
theorem r_91_12 : xfetch 91 12 = some (.aload_n 0, 1) := by decide +kernel
theorem n_91_12 : ∀ l, xpr 91 12 l = l := xpr_no (by decide +kernel)
theorem r_91_13 : xfetch 91 13 = some (.getfield 18, 3) := by decide +kernel
theorem n_91_13 : ∀ l, xpr 91 13 l = l := xpr_no (by decide +kernel)
theorem r_91_16 : xfetch 91 16 = some (.aload_n 0, 1) := by decide +kernel
theorem n_91_16 : ∀ l, xpr 91 16 l = l := xpr_no (by decide +kernel)
theorem r_91_17 : xfetch 91 17 = some (.getfield 10, 3) := by decide +kernel
theorem n_91_17 : ∀ l, xpr 91 17 l = l := xpr_no (by decide +kernel)
theorem r_91_20 : xfetch 91 20 = some (.getfield 80, 3) := by decide +kernel
theorem n_91_20 : ∀ l, xpr 91 20 l = l := xpr_no (by decide +kernel)
theorem r_91_23 : xfetch 91 23 = some (.invokevirtual 212, 3) := by decide +kernel
theorem n_91_23 : ∀ l, xpr 91 23 l = l := xpr_no (by decide +kernel)
theorem r_91_26 : xfetch 91 26 = some (.istore_n 2, 1) := by decide +kernel
theorem n_91_26 : ∀ l, xpr 91 26 l = l := xpr_no (by decide +kernel)
theorem r_91_27 : xfetch 91 27 = some (.iload_n 2, 1) := by decide +kernel
theorem n_91_27 : ∀ l, xpr 91 27 l = l := xpr_no (by decide +kernel)
theorem r_91_28 : xfetch 91 28 = some (.iconst (-1), 1) := by decide +kernel
theorem n_91_28 : ∀ l, xpr 91 28 l = l := xpr_no (by decide +kernel)
theorem r_91_29 : xfetch 91 29 = some (.if_icmp .eq 8, 3) := by decide +kernel
theorem n_91_29 : ∀ l, xpr 91 29 l = l := xpr_no (by decide +kernel)
theorem r_91_32 : xfetch 91 32 = some (.bipush (-10), 2) := by decide +kernel
theorem n_91_32 : ∀ l, xpr 91 32 l = l := xpr_no (by decide +kernel)
theorem r_91_34 : xfetch 91 34 = some (.iload_n 2, 1) := by decide +kernel
theorem n_91_34 : ∀ l, xpr 91 34 l = l := xpr_no (by decide +kernel)
theorem r_91_35 : xfetch 91 35 = some (.isub, 1) := by decide +kernel
theorem n_91_35 : ∀ l, xpr 91 35 l = l := xpr_no (by decide +kernel)
theorem r_91_36 : xfetch 91 36 = some (.ireturn, 1) := by decide +kernel
theorem n_91_36 : ∀ l, xpr 91 36 l = l := xpr_no (by decide +kernel)
theorem r_91_37 : xfetch 91 37 = some (.aload_n 0, 1) := by decide +kernel
theorem n_91_37 : ∀ l, xpr 91 37 l = l := xpr_no (by decide +kernel)
theorem r_91_38 : xfetch 91 38 = some (.invokevirtual 77, 3) := by decide +kernel
theorem n_91_38 : ∀ l, xpr 91 38 l = l := xpr_no (by decide +kernel)
theorem r_91_41 : xfetch 91 41 = some (.aload_n 0, 1) := by decide +kernel
theorem n_91_41 : ∀ l, xpr 91 41 l = l := xpr_no (by decide +kernel)
theorem r_91_42 : xfetch 91 42 = some (.getfield 10, 3) := by decide +kernel
theorem n_91_42 : ∀ l, xpr 91 42 l = l := xpr_no (by decide +kernel)
theorem r_91_45 : xfetch 91 45 = some (.getfield 80, 3) := by decide +kernel
theorem n_91_45 : ∀ l, xpr 91 45 l = l := xpr_no (by decide +kernel)
theorem r_91_48 : xfetch 91 48 = some (.istore_n 3, 1) := by decide +kernel
theorem n_91_48 : ∀ l, xpr 91 48 l = l := xpr_no (by decide +kernel)
theorem r_91_49 : xfetch 91 49 = some (.aload_n 0, 1) := by decide +kernel
theorem n_91_49 : ∀ l, xpr 91 49 l = l := xpr_no (by decide +kernel)
theorem r_91_50 : xfetch 91 50 = some (.getfield 10, 3) := by decide +kernel
theorem n_91_50 : ∀ l, xpr 91 50 l = l := xpr_no (by decide +kernel)
theorem r_91_53 : xfetch 91 53 = some (.getfield 83, 3) := by decide +kernel
theorem n_91_53 : ∀ l, xpr 91 53 l = l := xpr_no (by decide +kernel)
theorem r_91_56 : xfetch 91 56 = some (.iload_n 3, 1) := by decide +kernel
theorem n_91_56 : ∀ l, xpr 91 56 l = l := xpr_no (by decide +kernel)
theorem r_91_57 : xfetch 91 57 = some (.aaload, 1) := by decide +kernel
theorem n_91_57 : ∀ l, xpr 91 57 l = l := xpr_no (by decide +kernel)
theorem r_91_58 : xfetch 91 58 = some (.aload_n 0, 1) := by decide +kernel
theorem n_91_58 : ∀ l, xpr 91 58 l = l := xpr_no (by decide +kernel)
theorem r_91_59 : xfetch 91 59 = some (.getfield 29, 3) := by decide +kernel
theorem n_91_59 : ∀ l, xpr 91 59 l = l := xpr_no (by decide +kernel)
theorem r_91_62 : xfetch 91 62 = some (.getfield 216, 3) := by decide +kernel
theorem n_91_62 : ∀ l, xpr 91 62 l = l := xpr_no (by decide +kernel)
theorem r_91_65 : xfetch 91 65 = some (.invokevirtual 220, 3) := by decide +kernel
theorem n_91_65 : ∀ l, xpr 91 65 l = l := xpr_no (by decide +kernel)
theorem r_91_68 : xfetch 91 68 = some (.aload_n 0, 1) := by decide +kernel
theorem n_91_68 : ∀ l, xpr 91 68 l = l := xpr_no (by decide +kernel)
theorem r_91_69 : xfetch 91 69 = some (.getfield 10, 3) := by decide +kernel
theorem n_91_69 : ∀ l, xpr 91 69 l = l := xpr_no (by decide +kernel)
theorem r_91_72 : xfetch 91 72 = some (.getfield 83, 3) := by decide +kernel
theorem n_91_72 : ∀ l, xpr 91 72 l = l := xpr_no (by decide +kernel)
theorem r_91_75 : xfetch 91 75 = some (.iload_n 3, 1) := by decide +kernel
theorem n_91_75 : ∀ l, xpr 91 75 l = l := xpr_no (by decide +kernel)
theorem r_91_76 : xfetch 91 76 = some (.aaload, 1) := by decide +kernel
theorem n_91_76 : ∀ l, xpr 91 76 l = l := xpr_no (by decide +kernel)
theorem r_91_77 : xfetch 91 77 = some (.iload_n 1, 1) := by decide +kernel
theorem n_91_77 : ∀ l, xpr 91 77 l = l := xpr_no (by decide +kernel)
theorem r_91_78 : xfetch 91 78 = some (.putfield 224, 3) := by decide +kernel
theorem n_91_78 : ∀ l, xpr 91 78 l = l := xpr_no (by decide +kernel)
theorem r_91_81 : xfetch 91 81 = some (.aload_n 0, 1) := by decide +kernel
theorem n_91_81 : ∀ l, xpr 91 81 l = l := xpr_no (by decide +kernel)
theorem r_91_82 : xfetch 91 82 = some (.getfield 10, 3) := by decide +kernel
theorem n_91_82 : ∀ l, xpr 91 82 l = l := xpr_no (by decide +kernel)
theorem r_91_85 : xfetch 91 85 = some (.dup, 1) := by decide +kernel
theorem n_91_85 : ∀ l, xpr 91 85 l = l := xpr_no (by decide +kernel)
theorem r_91_86 : xfetch 91 86 = some (.getfield 80, 3) := by decide +kernel
theorem n_91_86 : ∀ l, xpr 91 86 l = l := xpr_no (by decide +kernel)
theorem r_91_89 : xfetch 91 89 = some (.iconst 1, 1) := by decide +kernel
theorem n_91_89 : ∀ l, xpr 91 89 l = l := xpr_no (by decide +kernel)
theorem r_91_90 : xfetch 91 90 = some (.iadd, 1) := by decide +kernel
theorem n_91_90 : ∀ l, xpr 91 90 l = l := xpr_no (by decide +kernel)
theorem r_91_91 : xfetch 91 91 = some (.putfield 80, 3) := by decide +kernel
theorem n_91_91 : ∀ l, xpr 91 91 l = l := xpr_no (by decide +kernel)
theorem r_91_94 : xfetch 91 94 = some (.aload_n 0, 1) := by decide +kernel
theorem n_91_94 : ∀ l, xpr 91 94 l = l := xpr_no (by decide +kernel)
theorem r_91_95 : xfetch 91 95 = some (.iload_n 3, 1) := by decide +kernel
theorem n_91_95 : ∀ l, xpr 91 95 l = l := xpr_no (by decide +kernel)
theorem r_91_96 : xfetch 91 96 = some (.invokevirtual 92, 3) := by decide +kernel
theorem n_91_96 : ∀ l, xpr 91 96 l = l := xpr_no (by decide +kernel)
theorem r_91_99 : xfetch 91 99 = some (.iload_n 3, 1) := by decide +kernel
theorem n_91_99 : ∀ l, xpr 91 99 l = l := xpr_no (by decide +kernel)
theorem r_91_100 : xfetch 91 100 = some (.ireturn, 1) := by decide +kernel
theorem n_91_100 : ∀ l, xpr 91 100 l = l := xpr_no (by decide +kernel)
theorem v_RL_define_0 {S : Option (Nat × (Nat → Int32))} {s : zSt} {Q : Option Value ⊕ Nat → zSt → Prop} {x1 : Int} 
    (h : rng x1 ∧ ((x1 = 1 ∨ x1 = 2 ∨ x1 = 4 ∨ x1 = 8 → (zI s 3 0 < 6 → wp S 92 0 [(0, rf 36), (1, rf 34), (2, iv (zI s 3 0))] [] s (fun o5 s5 => zkI (fun y5 => (y5 = (-1) → wp S 18 0 [(0, rf 2)] [] s5 (fun o8 s8 => zkU ((0 ≤ (zI s8 3 0) ∧ (zI s8 3 0) < 6) ∧ (wp S 20 0 [(0, rf (7 + 4 * (zI s8 3 0))), (1, rf 37)] [] s8 (fun o13 s13 => zkU (rng ((zI (zwI s13 (7 + 4 * (zI s8 3 0)) 0 x1) 3 0) + 1) ∧ (wp S 39 0 [(0, rf 2), (1, iv (zI s8 3 0))] [] (zwI (zwI s13 (7 + 4 * (zI s8 3 0)) 0 x1) 3 0 ((zI (zwI s13 (7 + 4 * (zI s8 3 0)) 0 x1) 3 0) + 1)) (fun o18 s18 => zkU (Q (rI (zI s8 3 0)) s18) (fun e18 => False) o18))) (fun e13 => False) o13))) (fun e8 => False) o8)) ∧ (y5 ≠ (-1) → Q (rI ((-10) - y5)) s5)) (fun e5 => False) o5)) ∧ ((¬ (zI s 3 0 < 6) → Q (rT 1) (zbump s)))) ∧ ((¬ (x1 = 1 ∨ x1 = 2 ∨ x1 = 4 ∨ x1 = 8) → Q (rT 0) (zbump s))))) :
    wp S 91 0 [(0, rf 2), (1, iv x1)] [] s Q := by
  refine i_iload_n (x := x1) r_91_0 (n_91_0 _) rfl ?_
  obtain ⟨g1, h⟩ := h
  refine wp_stat (rest := []) (Ls := [(0, iv x1)]) r_91_1 (n_91_1 _) rfl ⟨rfl, by decide, by decide, by decide⟩ rfl rfl ⟨rfl, Nat.le_of_ble_eq_true rfl, Nat.le_of_ble_eq_true rfl⟩ rfl (K_RL_checkPack g1) ?_
  rintro _ _ (⟨c2, rfl, rfl⟩ | ⟨c2, rfl, rfl⟩)
  · replace h := h.1 c2
    refine .inl ⟨none, rfl, ?_⟩
    show wp S 91 4 [(0, rf 2), (1, iv x1)] [] s Q
    refine i_aload_n (a := 2) r_91_4 (n_91_4 _) rfl ?_
    refine wp_virt (b := 2) (rest := []) (Ls := [(0, rf 2)]) r_91_5 (n_91_5 _) rfl ⟨rfl, rfl, by decide, by decide⟩ rfl rfl lf_2 ⟨rfl, Nat.le_of_ble_eq_true rfl, Nat.le_of_ble_eq_true rfl⟩ rfl K_RL_checkRecordRoom ?_
    rintro _ _ (⟨c3, rfl, rfl⟩ | ⟨c3, rfl, rfl⟩)
    · replace h := h.1 c3
      refine .inl ⟨none, rfl, ?_⟩
      show wp S 91 8 [(0, rf 2), (1, iv x1)] [] s Q
      refine i_aload_n (a := 2) r_91_8 (n_91_8 _) rfl ?_
      refine i_getR (a := 2) (b := 36) r_91_9 (n_91_9 _) rfl rfl rfl (by omega) lf_2 (by omega) ?_
      refine i_aload_n (a := 2) r_91_12 (n_91_12 _) rfl ?_
      refine i_getR (a := 2) (b := 34) r_91_13 (n_91_13 _) rfl rfl rfl (by omega) lf_2 (by omega) ?_
      refine i_aload_n (a := 2) r_91_16 (n_91_16 _) rfl ?_
      refine i_getR (a := 2) (b := 3) r_91_17 (n_91_17 _) rfl rfl rfl (by omega) lf_2 (by omega) ?_
      refine i_getI (a := 3) r_91_20 (n_91_20 _) rfl (by decide) lf_3 (fun q4 => ?_)
      refine wp_virt (b := 36) (rest := []) (Ls := [(0, rf 36), (1, rf 34), (2, iv (zI s 3 0))]) r_91_23 (n_91_23 _) rfl ⟨rfl, rfl, by decide, by decide⟩ rfl rfl lf_36 ⟨rfl, Nat.le_of_ble_eq_true rfl, Nat.le_of_ble_eq_true rfl⟩ rfl h ?_
      intro o5 s5 h
      rcases h with ⟨y5, q6, rfl, h⟩ | ⟨e5, rfl, h⟩
      · refine .inl ⟨some (iv y5), rfl, ?_⟩
        show wp S 91 26 [(0, rf 2), (1, iv x1)] [iv y5] s5 Q
        refine i_istore_n (l' := [(0, rf 2), (1, iv x1), (2, iv y5)]) r_91_26 (n_91_26 _) (by decide) rfl ?_
        refine i_iload_n (x := y5) r_91_27 (n_91_27 _) rfl ?_
        refine i_iconst r_91_28 (n_91_28 _) ?_
        refine i_icmp (t := 37) r_91_29 (n_91_29 _) rfl (T_eq q6 ⟨by omega, by omega⟩) (fun c7 => ?_) (fun c7 => ?_)
        · replace h := h.1 c7
          refine i_aload_n (a := 2) r_91_37 (n_91_37 _) rfl ?_
          refine wp_virt (b := 2) (rest := []) (Ls := [(0, rf 2)]) r_91_38 (n_91_38 _) rfl ⟨rfl, rfl, by decide, by decide⟩ rfl rfl lf_2 ⟨rfl, Nat.le_of_ble_eq_true rfl, Nat.le_of_ble_eq_true rfl⟩ rfl h ?_
          intro o8 s8 h
          rcases h with ⟨rfl, h⟩ | ⟨e8, rfl, h⟩
          · refine .inl ⟨none, rfl, ?_⟩
            refine i_aload_n (a := 2) r_91_41 (n_91_41 _) rfl ?_
            refine i_getR (a := 2) (b := 3) r_91_42 (n_91_42 _) rfl rfl rfl (by omega) lf_2 (by omega) ?_
            refine i_getI (a := 3) r_91_45 (n_91_45 _) rfl (by decide) lf_3 (fun q10 => ?_)
            refine i_istore_n (l' := [(0, rf 2), (1, iv x1), (2, iv y5), (3, iv (zI s8 3 0))]) r_91_48 (n_91_48 _) (by decide) rfl ?_
            refine i_aload_n (a := 2) r_91_49 (n_91_49 _) rfl ?_
            refine i_getR (a := 2) (b := 3) r_91_50 (n_91_50 _) rfl rfl rfl (by omega) lf_2 (by omega) ?_
            refine i_getR (a := 3) (b := 4) r_91_53 (n_91_53 _) rfl rfl rfl (by omega) lf_3 (by omega) ?_
            refine i_iload_n (x := zI s8 3 0) r_91_56 (n_91_56 _) rfl ?_
            obtain ⟨g11, h⟩ := h
            refine i_aaload (c := 1) (a := 4) (j := zI s8 3 0) (b := 7 + 4 * (zI s8 3 0)) r_91_57 (n_91_57 _) lf_4 ⟨by omega, by omega⟩ (by omega) (by omega) rfl (by omega) ?_
            have t12 := e_1 (j := zI s8 3 0) lf_4 (by omega) (by omega)
            rw [show 4 + 3 + 4 * (zI s8 3 0) = 7 + 4 * (zI s8 3 0) by omega] at t12
            refine i_aload_n (a := 2) r_91_58 (n_91_58 _) rfl ?_
            refine i_getR (a := 2) (b := 36) r_91_59 (n_91_59 _) rfl rfl rfl (by omega) lf_2 (by omega) ?_
            refine i_getR (a := 36) (b := 37) r_91_62 (n_91_62 _) rfl rfl rfl (by omega) lf_36 (by omega) ?_
            refine wp_virt (b := 7 + 4 * (zI s8 3 0)) (rest := []) (Ls := [(0, rf (7 + 4 * (zI s8 3 0))), (1, rf 37)]) r_91_65 (n_91_65 _) rfl ⟨rfl, rfl, by decide, by decide⟩ rfl rfl t12 ⟨rfl, Nat.le_of_ble_eq_true rfl, Nat.le_of_ble_eq_true rfl⟩ rfl h ?_
            intro o13 s13 h
            rcases h with ⟨rfl, h⟩ | ⟨e13, rfl, h⟩
            · refine .inl ⟨none, rfl, ?_⟩
              refine i_aload_n (a := 2) r_91_68 (n_91_68 _) rfl ?_
              refine i_getR (a := 2) (b := 3) r_91_69 (n_91_69 _) rfl rfl rfl (by omega) lf_2 (by omega) ?_
              refine i_getR (a := 3) (b := 4) r_91_72 (n_91_72 _) rfl rfl rfl (by omega) lf_3 (by omega) ?_
              refine i_iload_n (x := zI s8 3 0) r_91_75 (n_91_75 _) rfl ?_
              refine i_aaload (c := 1) (a := 4) (j := zI s8 3 0) (b := 7 + 4 * (zI s8 3 0)) r_91_76 (n_91_76 _) lf_4 ⟨by omega, by omega⟩ (by omega) (by omega) rfl (by omega) ?_
              have t15 := e_1 (j := zI s8 3 0) lf_4 (by omega) (by omega)
              rw [show 4 + 3 + 4 * (zI s8 3 0) = 7 + 4 * (zI s8 3 0) by omega] at t15
              refine i_iload_n (x := x1) r_91_77 (n_91_77 _) rfl ?_
              refine i_putI (a := 7 + 4 * (zI s8 3 0)) (x := x1) r_91_78 (n_91_78 _) rfl (.inl rfl) rfl t15 g1 ?_
              refine i_aload_n (a := 2) r_91_81 (n_91_81 _) rfl ?_
              refine i_getR (a := 2) (b := 3) r_91_82 (n_91_82 _) rfl rfl rfl (by omega) lf_2 (by omega) ?_
              refine i_dup r_91_85 (n_91_85 _) rfl ?_
              refine i_getI (a := 3) r_91_86 (n_91_86 _) rfl (by decide) lf_3 (fun q16 => ?_)
              refine i_iconst r_91_89 (n_91_89 _) ?_
              refine i_iadd r_91_90 (n_91_90 _) ?_
              obtain ⟨g17, h⟩ := h
              refine i_putI (a := 3) (x := (zI (zwI s13 (7 + 4 * (zI s8 3 0)) 0 x1) 3 0) + 1) r_91_91 (n_91_91 _) rfl (.inl rfl) rfl lf_3 g17 ?_
              refine i_aload_n (a := 2) r_91_94 (n_91_94 _) rfl ?_
              refine i_iload_n (x := zI s8 3 0) r_91_95 (n_91_95 _) rfl ?_
              refine wp_virt (b := 2) (rest := []) (Ls := [(0, rf 2), (1, iv (zI s8 3 0))]) r_91_96 (n_91_96 _) rfl ⟨rfl, rfl, by decide, by decide⟩ rfl rfl lf_2 ⟨rfl, Nat.le_of_ble_eq_true rfl, Nat.le_of_ble_eq_true rfl⟩ rfl h ?_
              intro o18 s18 h
              rcases h with ⟨rfl, h⟩ | ⟨e18, rfl, h⟩
              · refine .inl ⟨none, rfl, ?_⟩
                refine i_iload_n (x := zI s8 3 0) r_91_99 (n_91_99 _) rfl ?_
                exact i_ireturn r_91_100 (n_91_100 _) rfl h
              · skip
                exact h.elim
            · skip
              exact h.elim
          · skip
            exact h.elim
        · replace h := h.2 c7
          refine i_bipush r_91_32 (n_91_32 _) rfl ?_
          refine i_iload_n (x := y5) r_91_34 (n_91_34 _) rfl ?_
          refine i_isub r_91_35 (n_91_35 _) ?_
          exact i_ireturn r_91_36 (n_91_36 _) rfl h
      · skip
        exact h.elim
    · replace h := h.2 c3
      exact .inr ⟨_, rfl, .inl ⟨rfl, h⟩⟩
  · replace h := h.2 c2
    exact .inr ⟨_, rfl, rfl, .inl ⟨rfl, h⟩⟩
theorem r_92_0 : xfetch 92 0 = some (.aload_n 0, 1) := by decide +kernel
theorem n_92_0 : ∀ l, xpr 92 0 l = l := xpr_no (by decide +kernel)
theorem r_92_1 : xfetch 92 1 = some (.iconst 0, 1) := by decide +kernel
theorem n_92_1 : ∀ l, xpr 92 1 l = l := xpr_no (by decide +kernel)
theorem r_92_2 : xfetch 92 2 = some (.putfield 26, 3) := by decide +kernel
theorem n_92_2 : ∀ l, xpr 92 2 l = l := xpr_no (by decide +kernel)
theorem r_92_5 : xfetch 92 5 = some (.aload_n 0, 1) := by decide +kernel
theorem n_92_5 : ∀ l, xpr 92 5 l = l := xpr_no (by decide +kernel)
theorem r_92_6 : xfetch 92 6 = some (.iconst 0, 1) := by decide +kernel
theorem n_92_6 : ∀ l, xpr 92 6 l = l := xpr_no (by decide +kernel)
theorem r_92_7 : xfetch 92 7 = some (.putfield 29, 3) := by decide +kernel
theorem n_92_7 : ∀ l, xpr 92 7 l = l := xpr_no (by decide +kernel)
theorem r_92_10 : xfetch 92 10 = some (.aload_n 0, 1) := by decide +kernel
theorem n_92_10 : ∀ l, xpr 92 10 l = l := xpr_no (by decide +kernel)
theorem r_92_11 : xfetch 92 11 = some (.getfield 12, 3) := by decide +kernel
theorem n_92_11 : ∀ l, xpr 92 11 l = l := xpr_no (by decide +kernel)
theorem r_92_14 : xfetch 92 14 = some (.iconst 1, 1) := by decide +kernel
theorem n_92_14 : ∀ l, xpr 92 14 l = l := xpr_no (by decide +kernel)
theorem r_92_15 : xfetch 92 15 = some (.invokevirtual 32, 3) := by decide +kernel
theorem n_92_15 : ∀ l, xpr 92 15 l = l := xpr_no (by decide +kernel)
theorem r_92_18 : xfetch 92 18 = some (.iconst 0, 1) := by decide +kernel
theorem n_92_18 : ∀ l, xpr 92 18 l = l := xpr_no (by decide +kernel)
theorem r_92_19 : xfetch 92 19 = some (.istore_n 3, 1) := by decide +kernel
theorem n_92_19 : ∀ l, xpr 92 19 l = l := xpr_no (by decide +kernel)
theorem r_92_20 : xfetch 92 20 = some (.iload_n 3, 1) := by decide +kernel
theorem r_92_21 : xfetch 92 21 = some (.bipush 8, 2) := by decide +kernel
theorem n_92_21 : ∀ l, xpr 92 21 l = l := xpr_no (by decide +kernel)
theorem r_92_23 : xfetch 92 23 = some (.if_icmp .gt 36, 3) := by decide +kernel
theorem n_92_23 : ∀ l, xpr 92 23 l = l := xpr_no (by decide +kernel)
theorem r_92_26 : xfetch 92 26 = some (.aload_n 0, 1) := by decide +kernel
theorem n_92_26 : ∀ l, xpr 92 26 l = l := xpr_no (by decide +kernel)
theorem r_92_27 : xfetch 92 27 = some (.aload_n 1, 1) := by decide +kernel
theorem n_92_27 : ∀ l, xpr 92 27 l = l := xpr_no (by decide +kernel)
theorem r_92_28 : xfetch 92 28 = some (.iload_n 2, 1) := by decide +kernel
theorem n_92_28 : ∀ l, xpr 92 28 l = l := xpr_no (by decide +kernel)
theorem r_92_29 : xfetch 92 29 = some (.invokevirtual 36, 3) := by decide +kernel
theorem n_92_29 : ∀ l, xpr 92 29 l = l := xpr_no (by decide +kernel)
theorem r_92_32 : xfetch 92 32 = some (.ifCond .ne 8, 3) := by decide +kernel
theorem n_92_32 : ∀ l, xpr 92 32 l = l := xpr_no (by decide +kernel)
theorem r_92_35 : xfetch 92 35 = some (.aload_n 0, 1) := by decide +kernel
theorem n_92_35 : ∀ l, xpr 92 35 l = l := xpr_no (by decide +kernel)
theorem r_92_36 : xfetch 92 36 = some (.getfield 26, 3) := by decide +kernel
theorem n_92_36 : ∀ l, xpr 92 36 l = l := xpr_no (by decide +kernel)
theorem r_92_39 : xfetch 92 39 = some (.ireturn, 1) := by decide +kernel
theorem n_92_39 : ∀ l, xpr 92 39 l = l := xpr_no (by decide +kernel)
theorem r_92_40 : xfetch 92 40 = some (.aload_n 0, 1) := by decide +kernel
theorem n_92_40 : ∀ l, xpr 92 40 l = l := xpr_no (by decide +kernel)
theorem r_92_41 : xfetch 92 41 = some (.getfield 26, 3) := by decide +kernel
theorem n_92_41 : ∀ l, xpr 92 41 l = l := xpr_no (by decide +kernel)
theorem r_92_44 : xfetch 92 44 = some (.aload_n 0, 1) := by decide +kernel
theorem n_92_44 : ∀ l, xpr 92 44 l = l := xpr_no (by decide +kernel)
theorem r_92_45 : xfetch 92 45 = some (.getfield 22, 3) := by decide +kernel
theorem n_92_45 : ∀ l, xpr 92 45 l = l := xpr_no (by decide +kernel)
theorem r_92_48 : xfetch 92 48 = some (.if_icmp .lt 5, 3) := by decide +kernel
theorem n_92_48 : ∀ l, xpr 92 48 l = l := xpr_no (by decide +kernel)
theorem r_92_51 : xfetch 92 51 = some (.iconst (-1), 1) := by decide +kernel
theorem n_92_51 : ∀ l, xpr 92 51 l = l := xpr_no (by decide +kernel)
theorem r_92_52 : xfetch 92 52 = some (.ireturn, 1) := by decide +kernel
theorem n_92_52 : ∀ l, xpr 92 52 l = l := xpr_no (by decide +kernel)
theorem r_92_53 : xfetch 92 53 = some (.iinc 3 1, 3) := by decide +kernel
theorem n_92_53 : ∀ l, xpr 92 53 l = l := xpr_no (by decide +kernel)
theorem r_92_56 : xfetch 92 56 = some (.goto (-36), 3) := by decide +kernel
theorem n_92_56 : ∀ l, xpr 92 56 l = l := xpr_no (by decide +kernel)
theorem r_92_59 : xfetch 92 59 = some (.aload_n 0, 1) := by decide +kernel
theorem n_92_59 : ∀ l, xpr 92 59 l = l := xpr_no (by decide +kernel)
theorem r_92_60 : xfetch 92 60 = some (.getfield 26, 3) := by decide +kernel
theorem n_92_60 : ∀ l, xpr 92 60 l = l := xpr_no (by decide +kernel)
theorem r_92_63 : xfetch 92 63 = some (.ireturn, 1) := by decide +kernel
theorem n_92_63 : ∀ l, xpr 92 63 l = l := xpr_no (by decide +kernel)
theorem v_Text_readDefinition_0 {S : Option (Nat × (Nat → Int32))} {s : zSt} {Q : Option Value ⊕ Nat → zSt → Prop} {x2 : Int} 
    (h : wp S 92 20 [(0, rf 36), (1, rf 34), (2, iv x2), (3, iv 0)] [] (zwI (zwI (zwI (zwI s 36 3 0) 36 4 0) 37 0 1) 37 1 0) Q) :
    wp S 92 0 [(0, rf 36), (1, rf 34), (2, iv x2)] [] s Q := by
  refine i_aload_n (a := 36) r_92_0 (n_92_0 _) rfl ?_
  refine i_iconst r_92_1 (n_92_1 _) ?_
  refine i_putI (a := 36) (x := 0) r_92_2 (n_92_2 _) rfl (.inl rfl) rfl lf_36 ⟨by omega, by omega⟩ ?_
  refine i_aload_n (a := 36) r_92_5 (n_92_5 _) rfl ?_
  refine i_iconst r_92_6 (n_92_6 _) ?_
  refine i_putI (a := 36) (x := 0) r_92_7 (n_92_7 _) rfl (.inl rfl) rfl lf_36 ⟨by omega, by omega⟩ ?_
  refine i_aload_n (a := 36) r_92_10 (n_92_10 _) rfl ?_
  refine i_getR (a := 36) (b := 37) r_92_11 (n_92_11 _) rfl rfl rfl (by omega) lf_36 (by omega) ?_
  refine i_iconst r_92_14 (n_92_14 _) ?_
  refine wp_virt (b := 37) (rest := []) (Ls := [(0, rf 37), (1, iv 1)]) r_92_15 (n_92_15 _) rfl ⟨rfl, rfl, by decide, by decide⟩ rfl rfl lf_37 ⟨rfl, Nat.le_of_ble_eq_true rfl, Nat.le_of_ble_eq_true rfl⟩ rfl (K_Fields_start lf_37 ⟨by omega, by omega⟩) ?_
  rintro _ _ ⟨rfl, rfl⟩
  refine .inl ⟨none, rfl, ?_⟩
  show wp S 92 18 [(0, rf 36), (1, rf 34), (2, iv x2)] [] (zwI (zwI (zwI (zwI s 36 3 0) 36 4 0) 37 0 1) 37 1 0) Q
  refine i_iconst r_92_18 (n_92_18 _) ?_
  refine i_istore_n (l' := [(0, rf 36), (1, rf 34), (2, iv x2), (3, iv 0)]) r_92_19 (n_92_19 _) (by decide) rfl ?_
  exact wp_pr (l' := [(0, rf 36), (1, rf 34), (2, iv x2), (3, iv 0)]) rfl h
theorem v_Text_readDefinition_20 {S : Option (Nat × (Nat → Int32))} {s : zSt} {Q : Option Value ⊕ Nat → zSt → Prop} {x2 : Int} {x3 : Int} 
    (h : rng x3 ∧ ((8 < x3 → Q (rI (zI s 36 3)) s) ∧ (x3 ≤ 8 → wp S 93 0 [(0, rf 36), (1, rf 34), (2, iv x2)] [] s (fun o4 s4 => zkI (fun y4 => (y4 ≠ 0 → ((zI s4 36 3) < (zI s4 36 0) → wp S 92 20 [(0, rf 36), (1, rf 34), (2, iv x2), (3, iv (x3 + 1))] [] s4 Q) ∧ ((zI s4 36 0) ≤ (zI s4 36 3) → Q (rI (-1)) s4)) ∧ (y4 = 0 → Q (rI (zI s4 36 3)) s4)) (fun e4 => False) o4)))) :
    wp S 92 20 [(0, rf 36), (1, rf 34), (2, iv x2), (3, iv x3)] [] s Q := by
  refine i_iload_n (x := x3) r_92_20 rfl rfl ?_
  refine i_bipush r_92_21 (n_92_21 _) rfl ?_
  obtain ⟨g1, h⟩ := h
  refine i_icmp (t := 59) r_92_23 (n_92_23 _) rfl (T_gt g1 ⟨by omega, by omega⟩) (fun c2 => ?_) (fun c2 => ?_)
  · replace h := h.1 c2
    refine i_aload_n (a := 36) r_92_59 (n_92_59 _) rfl ?_
    refine i_getI (a := 36) r_92_60 (n_92_60 _) rfl (by decide) lf_36 (fun q3 => ?_)
    exact i_ireturn r_92_63 (n_92_63 _) rfl h
  · replace h := h.2 c2
    refine i_aload_n (a := 36) r_92_26 (n_92_26 _) rfl ?_
    refine i_aload_n (a := 34) r_92_27 (n_92_27 _) rfl ?_
    refine i_iload_n (x := x2) r_92_28 (n_92_28 _) rfl ?_
    refine wp_virt (b := 36) (rest := []) (Ls := [(0, rf 36), (1, rf 34), (2, iv x2)]) r_92_29 (n_92_29 _) rfl ⟨rfl, rfl, by decide, by decide⟩ rfl rfl lf_36 ⟨rfl, Nat.le_of_ble_eq_true rfl, Nat.le_of_ble_eq_true rfl⟩ rfl h ?_
    intro o4 s4 h
    rcases h with ⟨y4, q5, rfl, h⟩ | ⟨e4, rfl, h⟩
    · refine .inl ⟨some (iv y4), rfl, ?_⟩
      show wp S 92 32 [(0, rf 36), (1, rf 34), (2, iv x2), (3, iv x3)] [iv y4] s4 Q
      refine i_if (t := 40) r_92_32 (n_92_32 _) rfl (T_ne q5 ⟨by omega, by omega⟩) (fun c6 => ?_) (fun c6 => ?_)
      · replace h := h.1 c6
        refine i_aload_n (a := 36) r_92_40 (n_92_40 _) rfl ?_
        refine i_getI (a := 36) r_92_41 (n_92_41 _) rfl (by decide) lf_36 (fun q7 => ?_)
        refine i_aload_n (a := 36) r_92_44 (n_92_44 _) rfl ?_
        refine i_getI (a := 36) r_92_45 (n_92_45 _) rfl (by decide) lf_36 (fun q8 => ?_)
        refine i_icmp (t := 53) r_92_48 (n_92_48 _) rfl (T_lt q7 q8) (fun c9 => ?_) (fun c9 => ?_)
        · replace h := h.1 c9
          refine i_iinc (x := x3) (l' := [(0, rf 36), (1, rf 34), (2, iv x2), (3, iv (x3 + 1))]) r_92_53 (n_92_53 _) (by decide) rfl rfl ?_
          refine i_goto (t := 20) r_92_56 (n_92_56 _) rfl ?_
          exact wp_pr (l' := [(0, rf 36), (1, rf 34), (2, iv x2), (3, iv (x3 + 1))]) rfl h
        · replace h := h.2 c9
          refine i_iconst r_92_51 (n_92_51 _) ?_
          exact i_ireturn r_92_52 (n_92_52 _) rfl h
      · replace h := h.2 c6
        refine i_aload_n (a := 36) r_92_35 (n_92_35 _) rfl ?_
        refine i_getI (a := 36) r_92_36 (n_92_36 _) rfl (by decide) lf_36 (fun q10 => ?_)
        exact i_ireturn r_92_39 (n_92_39 _) rfl h
    · skip
      exact h.elim
theorem r_93_0 : xfetch 93 0 = some (.aload_n 0, 1) := by decide +kernel
theorem n_93_0 : ∀ l, xpr 93 0 l = l := xpr_no (by decide +kernel)
theorem r_93_1 : xfetch 93 1 = some (.aload_n 0, 1) := by decide +kernel
theorem n_93_1 : ∀ l, xpr 93 1 l = l := xpr_no (by decide +kernel)
theorem r_93_2 : xfetch 93 2 = some (.getfield 26, 3) := by decide +kernel
theorem n_93_2 : ∀ l, xpr 93 2 l = l := xpr_no (by decide +kernel)
theorem r_93_5 : xfetch 93 5 = some (.invokevirtual 40, 3) := by decide +kernel
theorem n_93_5 : ∀ l, xpr 93 5 l = l := xpr_no (by decide +kernel)
theorem r_93_8 : xfetch 93 8 = some (.istore_n 3, 1) := by decide +kernel
theorem n_93_8 : ∀ l, xpr 93 8 l = l := xpr_no (by decide +kernel)
theorem r_93_9 : xfetch 93 9 = some (.iload_n 3, 1) := by decide +kernel
theorem n_93_9 : ∀ l, xpr 93 9 l = l := xpr_no (by decide +kernel)
theorem r_93_10 : xfetch 93 10 = some (.bipush 97, 2) := by decide +kernel
theorem n_93_10 : ∀ l, xpr 93 10 l = l := xpr_no (by decide +kernel)
theorem r_93_12 : xfetch 93 12 = some (.if_icmp .lt 32, 3) := by decide +kernel
theorem n_93_12 : ∀ l, xpr 93 12 l = l := xpr_no (by decide +kernel)
theorem r_93_15 : xfetch 93 15 = some (.iload_n 3, 1) := by decide +kernel
theorem n_93_15 : ∀ l, xpr 93 15 l = l := xpr_no (by decide +kernel)
theorem r_93_16 : xfetch 93 16 = some (.bipush 122, 2) := by decide +kernel
theorem n_93_16 : ∀ l, xpr 93 16 l = l := xpr_no (by decide +kernel)
theorem r_93_18 : xfetch 93 18 = some (.if_icmp .gt 26, 3) := by decide +kernel
theorem n_93_18 : ∀ l, xpr 93 18 l = l := xpr_no (by decide +kernel)
theorem r_93_21 : xfetch 93 21 = some (.aload_n 0, 1) := by decide +kernel
theorem n_93_21 : ∀ l, xpr 93 21 l = l := xpr_no (by decide +kernel)
theorem r_93_22 : xfetch 93 22 = some (.getfield 12, 3) := by decide +kernel
theorem n_93_22 : ∀ l, xpr 93 22 l = l := xpr_no (by decide +kernel)
theorem r_93_25 : xfetch 93 25 = some (.iload_n 3, 1) := by decide +kernel
theorem n_93_25 : ∀ l, xpr 93 25 l = l := xpr_no (by decide +kernel)
theorem r_93_26 : xfetch 93 26 = some (.invokevirtual 44, 3) := by decide +kernel
theorem n_93_26 : ∀ l, xpr 93 26 l = l := xpr_no (by decide +kernel)
theorem r_93_29 : xfetch 93 29 = some (.ifCond .ne 15, 3) := by decide +kernel
theorem n_93_29 : ∀ l, xpr 93 29 l = l := xpr_no (by decide +kernel)
theorem r_93_32 : xfetch 93 32 = some (.aload_n 0, 1) := by decide +kernel
theorem n_93_32 : ∀ l, xpr 93 32 l = l := xpr_no (by decide +kernel)
theorem r_93_33 : xfetch 93 33 = some (.getfield 12, 3) := by decide +kernel
theorem n_93_33 : ∀ l, xpr 93 33 l = l := xpr_no (by decide +kernel)
theorem r_93_36 : xfetch 93 36 = some (.getfield 48, 3) := by decide +kernel
theorem n_93_36 : ∀ l, xpr 93 36 l = l := xpr_no (by decide +kernel)
theorem r_93_39 : xfetch 93 39 = some (.bipush 8, 2) := by decide +kernel
theorem n_93_39 : ∀ l, xpr 93 39 l = l := xpr_no (by decide +kernel)
theorem r_93_41 : xfetch 93 41 = some (.if_icmp .lt 5, 3) := by decide +kernel
theorem n_93_41 : ∀ l, xpr 93 41 l = l := xpr_no (by decide +kernel)
theorem r_93_44 : xfetch 93 44 = some (.iconst 0, 1) := by decide +kernel
theorem n_93_44 : ∀ l, xpr 93 44 l = l := xpr_no (by decide +kernel)
theorem r_93_45 : xfetch 93 45 = some (.ireturn, 1) := by decide +kernel
theorem n_93_45 : ∀ l, xpr 93 45 l = l := xpr_no (by decide +kernel)
theorem r_93_46 : xfetch 93 46 = some (.aload_n 0, 1) := by decide +kernel
theorem n_93_46 : ∀ l, xpr 93 46 l = l := xpr_no (by decide +kernel)
theorem r_93_47 : xfetch 93 47 = some (.dup, 1) := by decide +kernel
theorem n_93_47 : ∀ l, xpr 93 47 l = l := xpr_no (by decide +kernel)
theorem r_93_48 : xfetch 93 48 = some (.getfield 26, 3) := by decide +kernel
theorem n_93_48 : ∀ l, xpr 93 48 l = l := xpr_no (by decide +kernel)
theorem r_93_51 : xfetch 93 51 = some (.iconst 1, 1) := by decide +kernel
theorem n_93_51 : ∀ l, xpr 93 51 l = l := xpr_no (by decide +kernel)
theorem r_93_52 : xfetch 93 52 = some (.iadd, 1) := by decide +kernel
theorem n_93_52 : ∀ l, xpr 93 52 l = l := xpr_no (by decide +kernel)
theorem r_93_53 : xfetch 93 53 = some (.putfield 26, 3) := by decide +kernel
theorem n_93_53 : ∀ l, xpr 93 53 l = l := xpr_no (by decide +kernel)
theorem r_93_56 : xfetch 93 56 = some (.aload_n 0, 1) := by decide +kernel
theorem n_93_56 : ∀ l, xpr 93 56 l = l := xpr_no (by decide +kernel)
theorem r_93_57 : xfetch 93 57 = some (.bipush 58, 2) := by decide +kernel
theorem n_93_57 : ∀ l, xpr 93 57 l = l := xpr_no (by decide +kernel)
theorem r_93_59 : xfetch 93 59 = some (.invokevirtual 51, 3) := by decide +kernel
theorem n_93_59 : ∀ l, xpr 93 59 l = l := xpr_no (by decide +kernel)
theorem r_93_62 : xfetch 93 62 = some (.ifCond .ne 5, 3) := by decide +kernel
theorem n_93_62 : ∀ l, xpr 93 62 l = l := xpr_no (by decide +kernel)
theorem r_93_65 : xfetch 93 65 = some (.iconst 0, 1) := by decide +kernel
theorem n_93_65 : ∀ l, xpr 93 65 l = l := xpr_no (by decide +kernel)
theorem r_93_66 : xfetch 93 66 = some (.ireturn, 1) := by decide +kernel
theorem n_93_66 : ∀ l, xpr 93 66 l = l := xpr_no (by decide +kernel)
theorem r_93_67 : xfetch 93 67 = some (.aload_n 0, 1) := by decide +kernel
theorem n_93_67 : ∀ l, xpr 93 67 l = l := xpr_no (by decide +kernel)
theorem r_93_68 : xfetch 93 68 = some (.aload_n 1, 1) := by decide +kernel
theorem n_93_68 : ∀ l, xpr 93 68 l = l := xpr_no (by decide +kernel)
theorem r_93_69 : xfetch 93 69 = some (.iload_n 2, 1) := by decide +kernel
theorem n_93_69 : ∀ l, xpr 93 69 l = l := xpr_no (by decide +kernel)
theorem r_93_70 : xfetch 93 70 = some (.invokevirtual 55, 3) := by decide +kernel
theorem n_93_70 : ∀ l, xpr 93 70 l = l := xpr_no (by decide +kernel)
theorem r_93_73 : xfetch 93 73 = some (.istore 4, 2) := by decide +kernel
theorem n_93_73 : ∀ l, xpr 93 73 l = l := xpr_no (by decide +kernel)
theorem r_93_75 : xfetch 93 75 = some (.iload 4, 2) := by decide +kernel
theorem n_93_75 : ∀ l, xpr 93 75 l = l := xpr_no (by decide +kernel)
theorem r_93_77 : xfetch 93 77 = some (.iconst (-1), 1) := by decide +kernel
theorem n_93_77 : ∀ l, xpr 93 77 l = l := xpr_no (by decide +kernel)
theorem r_93_78 : xfetch 93 78 = some (.if_icmp .ne 5, 3) := by decide +kernel
theorem n_93_78 : ∀ l, xpr 93 78 l = l := xpr_no (by decide +kernel)
theorem r_93_81 : xfetch 93 81 = some (.iconst 0, 1) := by decide +kernel
theorem n_93_81 : ∀ l, xpr 93 81 l = l := xpr_no (by decide +kernel)
theorem r_93_82 : xfetch 93 82 = some (.ireturn, 1) := by decide +kernel
theorem n_93_82 : ∀ l, xpr 93 82 l = l := xpr_no (by decide +kernel)
theorem r_93_83 : xfetch 93 83 = some (.aload_n 0, 1) := by decide +kernel
theorem n_93_83 : ∀ l, xpr 93 83 l = l := xpr_no (by decide +kernel)
theorem r_93_84 : xfetch 93 84 = some (.iload 4, 2) := by decide +kernel
theorem n_93_84 : ∀ l, xpr 93 84 l = l := xpr_no (by decide +kernel)
theorem r_93_86 : xfetch 93 86 = some (.invokevirtual 59, 3) := by decide +kernel
theorem n_93_86 : ∀ l, xpr 93 86 l = l := xpr_no (by decide +kernel)
theorem r_93_89 : xfetch 93 89 = some (.istore 5, 2) := by decide +kernel
theorem n_93_89 : ∀ l, xpr 93 89 l = l := xpr_no (by decide +kernel)
theorem r_93_91 : xfetch 93 91 = some (.iload 5, 2) := by decide +kernel
theorem n_93_91 : ∀ l, xpr 93 91 l = l := xpr_no (by decide +kernel)
theorem r_93_93 : xfetch 93 93 = some (.iconst (-1), 1) := by decide +kernel
theorem n_93_93 : ∀ l, xpr 93 93 l = l := xpr_no (by decide +kernel)
theorem r_93_94 : xfetch 93 94 = some (.if_icmp .ne 5, 3) := by decide +kernel
theorem n_93_94 : ∀ l, xpr 93 94 l = l := xpr_no (by decide +kernel)
theorem r_93_97 : xfetch 93 97 = some (.iconst 0, 1) := by decide +kernel
theorem n_93_97 : ∀ l, xpr 93 97 l = l := xpr_no (by decide +kernel)
theorem r_93_98 : xfetch 93 98 = some (.ireturn, 1) := by decide +kernel
theorem n_93_98 : ∀ l, xpr 93 98 l = l := xpr_no (by decide +kernel)
theorem r_93_99 : xfetch 93 99 = some (.aload_n 0, 1) := by decide +kernel
theorem n_93_99 : ∀ l, xpr 93 99 l = l := xpr_no (by decide +kernel)
theorem r_93_100 : xfetch 93 100 = some (.dup, 1) := by decide +kernel
theorem n_93_100 : ∀ l, xpr 93 100 l = l := xpr_no (by decide +kernel)
theorem r_93_101 : xfetch 93 101 = some (.getfield 29, 3) := by decide +kernel
theorem n_93_101 : ∀ l, xpr 93 101 l = l := xpr_no (by decide +kernel)
theorem r_93_104 : xfetch 93 104 = some (.iload 5, 2) := by decide +kernel
theorem n_93_104 : ∀ l, xpr 93 104 l = l := xpr_no (by decide +kernel)
theorem r_93_106 : xfetch 93 106 = some (.iload 4, 2) := by decide +kernel
theorem n_93_106 : ∀ l, xpr 93 106 l = l := xpr_no (by decide +kernel)
theorem r_93_108 : xfetch 93 108 = some (.bipush 100, 2) := by decide +kernel
theorem n_93_108 : ∀ l, xpr 93 108 l = l := xpr_no (by decide +kernel)
theorem r_93_110 : xfetch 93 110 = some (.if_icmp .lt 19, 3) := by decide +kernel
theorem n_93_110 : ∀ l, xpr 93 110 l = l := xpr_no (by decide +kernel)
theorem r_93_113 : xfetch 93 113 = some (.aload_n 1, 1) := by decide +kernel
theorem n_93_113 : ∀ l, xpr 93 113 l = l := xpr_no (by decide +kernel)
theorem r_93_114 : xfetch 93 114 = some (.iload 4, 2) := by decide +kernel
theorem n_93_114 : ∀ l, xpr 93 114 l = l := xpr_no (by decide +kernel)
theorem r_93_116 : xfetch 93 116 = some (.bipush 100, 2) := by decide +kernel
theorem n_93_116 : ∀ l, xpr 93 116 l = l := xpr_no (by decide +kernel)
theorem r_93_118 : xfetch 93 118 = some (.isub, 1) := by decide +kernel
theorem n_93_118 : ∀ l, xpr 93 118 l = l := xpr_no (by decide +kernel)
theorem r_93_119 : xfetch 93 119 = some (.aaload, 1) := by decide +kernel
theorem n_93_119 : ∀ l, xpr 93 119 l = l := xpr_no (by decide +kernel)
theorem r_93_120 : xfetch 93 120 = some (.getfield 62, 3) := by decide +kernel
theorem n_93_120 : ∀ l, xpr 93 120 l = l := xpr_no (by decide +kernel)
theorem r_93_123 : xfetch 93 123 = some (.getfield 67, 3) := by decide +kernel
theorem n_93_123 : ∀ l, xpr 93 123 l = l := xpr_no (by decide +kernel)
theorem r_93_126 : xfetch 93 126 = some (.goto 4, 3) := by decide +kernel
theorem n_93_126 : ∀ l, xpr 93 126 l = l := xpr_no (by decide +kernel)
theorem r_93_129 : xfetch 93 129 = some (.iconst 1, 1) := by decide +kernel
theorem n_93_129 : ∀ l, xpr 93 129 l = l := xpr_no (by decide +kernel)
theorem r_93_130 : xfetch 93 130 = some (.imul, 1) := by decide +kernel
theorem n_93_130 : ∀ l, xpr 93 130 l = l := xpr_no (by decide +kernel)
theorem r_93_131 : xfetch 93 131 = some (.iadd, 1) := by decide +kernel
theorem n_93_131 : ∀ l, xpr 93 131 l = l := xpr_no (by decide +kernel)
theorem r_93_132 : xfetch 93 132 = some (.putfield 29, 3) := by decide +kernel
theorem n_93_132 : ∀ l, xpr 93 132 l = l := xpr_no (by decide +kernel)
theorem r_93_135 : xfetch 93 135 = some (.aload_n 0, 1) := by decide +kernel
theorem n_93_135 : ∀ l, xpr 93 135 l = l := xpr_no (by decide +kernel)
theorem r_93_136 : xfetch 93 136 = some (.getfield 12, 3) := by decide +kernel
theorem n_93_136 : ∀ l, xpr 93 136 l = l := xpr_no (by decide +kernel)
theorem r_93_139 : xfetch 93 139 = some (.iload_n 3, 1) := by decide +kernel
theorem n_93_139 : ∀ l, xpr 93 139 l = l := xpr_no (by decide +kernel)
theorem r_93_140 : xfetch 93 140 = some (.iload 4, 2) := by decide +kernel
theorem n_93_140 : ∀ l, xpr 93 140 l = l := xpr_no (by decide +kernel)
theorem r_93_142 : xfetch 93 142 = some (.iload 5, 2) := by decide +kernel
theorem n_93_142 : ∀ l, xpr 93 142 l = l := xpr_no (by decide +kernel)
theorem r_93_144 : xfetch 93 144 = some (.invokevirtual 70, 3) := by decide +kernel
theorem n_93_144 : ∀ l, xpr 93 144 l = l := xpr_no (by decide +kernel)
theorem r_93_147 : xfetch 93 147 = some (.aload_n 0, 1) := by decide +kernel
theorem n_93_147 : ∀ l, xpr 93 147 l = l := xpr_no (by decide +kernel)
theorem r_93_148 : xfetch 93 148 = some (.getfield 29, 3) := by decide +kernel
theorem n_93_148 : ∀ l, xpr 93 148 l = l := xpr_no (by decide +kernel)
theorem r_93_151 : xfetch 93 151 = some (.bipush 40, 2) := by decide +kernel
theorem n_93_151 : ∀ l, xpr 93 151 l = l := xpr_no (by decide +kernel)
theorem r_93_153 : xfetch 93 153 = some (.if_icmp .gt 16, 3) := by decide +kernel
theorem n_93_153 : ∀ l, xpr 93 153 l = l := xpr_no (by decide +kernel)
theorem r_93_156 : xfetch 93 156 = some (.aload_n 0, 1) := by decide +kernel
theorem n_93_156 : ∀ l, xpr 93 156 l = l := xpr_no (by decide +kernel)
theorem r_93_157 : xfetch 93 157 = some (.bipush 59, 2) := by decide +kernel
theorem n_93_157 : ∀ l, xpr 93 157 l = l := xpr_no (by decide +kernel)
theorem r_93_159 : xfetch 93 159 = some (.invokevirtual 51, 3) := by decide +kernel
theorem n_93_159 : ∀ l, xpr 93 159 l = l := xpr_no (by decide +kernel)
theorem r_93_162 : xfetch 93 162 = some (.ifCond .eq 7, 3) := by decide +kernel
theorem n_93_162 : ∀ l, xpr 93 162 l = l := xpr_no (by decide +kernel)
theorem r_93_165 : xfetch 93 165 = some (.iconst 1, 1) := by decide +kernel
theorem n_93_165 : ∀ l, xpr 93 165 l = l := xpr_no (by decide +kernel)
theorem r_93_166 : xfetch 93 166 = some (.goto 4, 3) := by decide +kernel
theorem n_93_166 : ∀ l, xpr 93 166 l = l := xpr_no (by decide +kernel)
theorem r_93_169 : xfetch 93 169 = some (.iconst 0, 1) := by decide +kernel
theorem n_93_169 : ∀ l, xpr 93 169 l = l := xpr_no (by decide +kernel)
theorem r_93_170 : xfetch 93 170 = some (.ireturn, 1) := by decide +kernel
theorem n_93_170 : ∀ l, xpr 93 170 l = l := xpr_no (by decide +kernel)
theorem v_Text_readField_0 {S : Option (Nat × (Nat → Int32))} {s : zSt} {Q : Option Value ⊕ Nat → zSt → Prop} {x2 : Int} 
    (h : (0 ≤ (zI s 36 3) → (zI s 36 3) < zI s 36 0 → (zI s 36 3) < 80) ∧ (rng (zsg (zI s 36 3) (zI s 36 0) (zI s 41 (zI s 36 3))) ∧ (((zsg (zI s 36 3) (zI s 36 0) (zI s 41 (zI s 36 3))) < 97 → Q (rI 0) s) ∧ (97 ≤ (zsg (zI s 36 3) (zI s 36 0) (zI s 41 (zI s 36 3))) → (122 < (zsg (zI s 36 3) (zI s 36 0) (zI s 41 (zI s 36 3))) → Q (rI 0) s) ∧ ((zsg (zI s 36 3) (zI s 36 0) (zI s 41 (zI s 36 3))) ≤ 122 → wp S 55 0 [(0, rf 37), (1, iv (zsg (zI s 36 3) (zI s 36 0) (zI s 41 (zI s 36 3))))] [] s (fun o7 s7 => zkI (fun y7 => (y7 ≠ 0 → Q (rI 0) s7) ∧ (y7 = 0 → ((zI s7 37 1) < 8 → rng ((zI s7 36 3) + 1) ∧ ((0 ≤ ((zI s7 36 3) + 1) → ((zI s7 36 3) + 1) < (zI s7 36 0) → ((zI s7 36 3) + 1) < 80) ∧ (rng (((zI s7 36 3) + 1) + 1) ∧ ((zsg ((zI s7 36 3) + 1) (zI s7 36 0) (zI s7 41 ((zI s7 36 3) + 1)) = 58 → wp S 95 0 [(0, rf 36), (1, rf 34), (2, iv x2)] [] (zwI (zwI s7 36 3 ((zI s7 36 3) + 1)) 36 3 (((zI s7 36 3) + 1) + 1)) (fun o20 s20 => zkI (fun y20 => (y20 ≠ (-1) → wp S 100 0 [(0, rf 36), (1, iv y20)] [] s20 (fun o23 s23 => zkI (fun y23 => (y23 ≠ (-1) → (y20 < 100 → rng ((zI s23 36 4) + (y23 * 1)) ∧ (wp S 21 0 [(0, rf 37), (1, iv (zsg (zI s 36 3) (zI s 36 0) (zI s 41 (zI s 36 3)))), (2, iv y20), (3, iv y23)] [] (zwI s23 36 4 ((zI s23 36 4) + (y23 * 1))) (fun o29 s29 => zkU ((40 < (zI s29 36 4) → Q (rI 0) s29) ∧ ((zI s29 36 4) ≤ 40 → (0 ≤ zI s29 36 3 → zI s29 36 3 < zI s29 36 0 → zI s29 36 3 < 80) ∧ (rng (zI s29 36 3 + 1) ∧ ((zsg (zI s29 36 3) (zI s29 36 0) (zI s29 41 (zI s29 36 3)) = 59 → Q (rI 1) (zwI s29 36 3 (zI s29 36 3 + 1))) ∧ ((zsg (zI s29 36 3) (zI s29 36 0) (zI s29 41 (zI s29 36 3)) ≠ 59 → Q (rI 0) s29)))))) (fun e29 => False) o29))) ∧ (100 ≤ y20 → (0 ≤ (y20 - 100) ∧ (y20 - 100) < 6) ∧ (rng ((zI s23 36 4) + (y23 * (zI s23 (67 + 11 * (y20 - 100)) 0))) ∧ (wp S 21 0 [(0, rf 37), (1, iv (zsg (zI s 36 3) (zI s 36 0) (zI s 41 (zI s 36 3)))), (2, iv y20), (3, iv y23)] [] (zwI s23 36 4 ((zI s23 36 4) + (y23 * (zI s23 (67 + 11 * (y20 - 100)) 0)))) (fun o41 s41 => zkU ((40 < (zI s41 36 4) → Q (rI 0) s41) ∧ ((zI s41 36 4) ≤ 40 → (0 ≤ zI s41 36 3 → zI s41 36 3 < zI s41 36 0 → zI s41 36 3 < 80) ∧ (rng (zI s41 36 3 + 1) ∧ ((zsg (zI s41 36 3) (zI s41 36 0) (zI s41 41 (zI s41 36 3)) = 59 → Q (rI 1) (zwI s41 36 3 (zI s41 36 3 + 1))) ∧ ((zsg (zI s41 36 3) (zI s41 36 0) (zI s41 41 (zI s41 36 3)) ≠ 59 → Q (rI 0) s41)))))) (fun e41 => False) o41))))) ∧ (y23 = (-1) → Q (rI 0) s23)) (fun e23 => False) o23)) ∧ (y20 = (-1) → Q (rI 0) s20)) (fun e20 => False) o20)) ∧ ((zsg ((zI s7 36 3) + 1) (zI s7 36 0) (zI s7 41 ((zI s7 36 3) + 1)) ≠ 58 → Q (rI 0) (zwI s7 36 3 ((zI s7 36 3) + 1)))))))) ∧ (8 ≤ (zI s7 37 1) → Q (rI 0) s7))) (fun e7 => False) o7)))))) :
    wp S 93 0 [(0, rf 36), (1, rf 34), (2, iv x2)] [] s Q := by
  refine i_aload_n (a := 36) r_93_0 (n_93_0 _) rfl ?_
  refine i_aload_n (a := 36) r_93_1 (n_93_1 _) rfl ?_
  refine i_getI (a := 36) r_93_2 (n_93_2 _) rfl (by decide) lf_36 (fun q1 => ?_)
  obtain ⟨g2, h⟩ := h
  refine wp_virt (b := 36) (rest := []) (Ls := [(0, rf 36), (1, iv (zI s 36 3))]) r_93_5 (n_93_5 _) rfl ⟨rfl, rfl, by decide, by decide⟩ rfl rfl lf_36 ⟨rfl, Nat.le_of_ble_eq_true rfl, Nat.le_of_ble_eq_true rfl⟩ rfl (K_Text_signAt q1 g2) ?_
  rintro _ _ ⟨rfl, rfl⟩
  refine .inl ⟨some (iv (zsg (zI s 36 3) (zI s 36 0) (zI s 41 (zI s 36 3)))), rfl, ?_⟩
  show wp S 93 8 [(0, rf 36), (1, rf 34), (2, iv x2)] [iv (zsg (zI s 36 3) (zI s 36 0) (zI s 41 (zI s 36 3)))] s Q
  refine i_istore_n (l' := [(0, rf 36), (1, rf 34), (2, iv x2), (3, iv (zsg (zI s 36 3) (zI s 36 0) (zI s 41 (zI s 36 3))))]) r_93_8 (n_93_8 _) (by decide) rfl ?_
  refine i_iload_n (x := zsg (zI s 36 3) (zI s 36 0) (zI s 41 (zI s 36 3))) r_93_9 (n_93_9 _) rfl ?_
  refine i_bipush r_93_10 (n_93_10 _) rfl ?_
  obtain ⟨g4, h⟩ := h
  refine i_icmp (t := 44) r_93_12 (n_93_12 _) rfl (T_lt g4 ⟨by omega, by omega⟩) (fun c5 => ?_) (fun c5 => ?_)
  · replace h := h.1 c5
    refine i_iconst r_93_44 (n_93_44 _) ?_
    exact i_zreturn r_93_45 (n_93_45 _) rfl (by decide) h
  · replace h := h.2 c5
    refine i_iload_n (x := zsg (zI s 36 3) (zI s 36 0) (zI s 41 (zI s 36 3))) r_93_15 (n_93_15 _) rfl ?_
    refine i_bipush r_93_16 (n_93_16 _) rfl ?_
    refine i_icmp (t := 44) r_93_18 (n_93_18 _) rfl (T_gt g4 ⟨by omega, by omega⟩) (fun c6 => ?_) (fun c6 => ?_)
    · replace h := h.1 c6
      refine i_iconst r_93_44 (n_93_44 _) ?_
      exact i_zreturn r_93_45 (n_93_45 _) rfl (by decide) h
    · replace h := h.2 c6
      refine i_aload_n (a := 36) r_93_21 (n_93_21 _) rfl ?_
      refine i_getR (a := 36) (b := 37) r_93_22 (n_93_22 _) rfl rfl rfl (by omega) lf_36 (by omega) ?_
      refine i_iload_n (x := zsg (zI s 36 3) (zI s 36 0) (zI s 41 (zI s 36 3))) r_93_25 (n_93_25 _) rfl ?_
      refine wp_virt (b := 37) (rest := []) (Ls := [(0, rf 37), (1, iv (zsg (zI s 36 3) (zI s 36 0) (zI s 41 (zI s 36 3))))]) r_93_26 (n_93_26 _) rfl ⟨rfl, rfl, by decide, by decide⟩ rfl rfl lf_37 ⟨rfl, Nat.le_of_ble_eq_true rfl, Nat.le_of_ble_eq_true rfl⟩ rfl h ?_
      intro o7 s7 h
      rcases h with ⟨y7, q8, rfl, h⟩ | ⟨e7, rfl, h⟩
      · refine .inl ⟨some (iv y7), rfl, ?_⟩
        show wp S 93 29 [(0, rf 36), (1, rf 34), (2, iv x2), (3, iv (zsg (zI s 36 3) (zI s 36 0) (zI s 41 (zI s 36 3))))] [iv y7] s7 Q
        refine i_if (t := 44) r_93_29 (n_93_29 _) rfl (T_ne q8 ⟨by omega, by omega⟩) (fun c9 => ?_) (fun c9 => ?_)
        · replace h := h.1 c9
          refine i_iconst r_93_44 (n_93_44 _) ?_
          exact i_zreturn r_93_45 (n_93_45 _) rfl (by decide) h
        · replace h := h.2 c9
          refine i_aload_n (a := 36) r_93_32 (n_93_32 _) rfl ?_
          refine i_getR (a := 36) (b := 37) r_93_33 (n_93_33 _) rfl rfl rfl (by omega) lf_36 (by omega) ?_
          refine i_getI (a := 37) r_93_36 (n_93_36 _) rfl (by decide) lf_37 (fun q10 => ?_)
          refine i_bipush r_93_39 (n_93_39 _) rfl ?_
          refine i_icmp (t := 46) r_93_41 (n_93_41 _) rfl (T_lt q10 ⟨by omega, by omega⟩) (fun c11 => ?_) (fun c11 => ?_)
          · replace h := h.1 c11
            refine i_aload_n (a := 36) r_93_46 (n_93_46 _) rfl ?_
            refine i_dup r_93_47 (n_93_47 _) rfl ?_
            refine i_getI (a := 36) r_93_48 (n_93_48 _) rfl (by decide) lf_36 (fun q12 => ?_)
            refine i_iconst r_93_51 (n_93_51 _) ?_
            refine i_iadd r_93_52 (n_93_52 _) ?_
            obtain ⟨g13, h⟩ := h
            refine i_putI (a := 36) (x := (zI s7 36 3) + 1) r_93_53 (n_93_53 _) rfl (.inl rfl) rfl lf_36 g13 ?_
            refine i_aload_n (a := 36) r_93_56 (n_93_56 _) rfl ?_
            refine i_bipush r_93_57 (n_93_57 _) rfl ?_
            have e14 : zI (zwI s7 36 3 ((zI s7 36 3) + 1)) 36 3 = (zI s7 36 3) + 1 := zI_eq
            have e15 : zI (zwI s7 36 3 ((zI s7 36 3) + 1)) 36 0 = zI s7 36 0 := zI_nj (by omega)
            have e16 : zI (zwI s7 36 3 ((zI s7 36 3) + 1)) 41 ((zI s7 36 3) + 1) = zI s7 41 ((zI s7 36 3) + 1) := zI_ne (by omega)
            obtain ⟨g17, h⟩ := h
            obtain ⟨g18, h⟩ := h
            refine wp_virt (b := 36) (rest := []) (Ls := [(0, rf 36), (1, iv 58)]) r_93_59 (n_93_59 _) rfl ⟨rfl, rfl, by decide, by decide⟩ rfl rfl lf_36 ⟨rfl, Nat.le_of_ble_eq_true rfl, Nat.le_of_ble_eq_true rfl⟩ rfl (K_Text_takes (by (try rw [e14]); (try rw [e15]); (try rw [e16]); exact g17) (by (try rw [e14]); (try rw [e15]); (try rw [e16]); exact ⟨by omega, by omega⟩) (by (try rw [e14]); (try rw [e15]); (try rw [e16]); exact g18)) ?_
            rintro _ _ (⟨c19, rfl, rfl⟩ | ⟨c19, rfl, rfl⟩)
            · (try rw [e14] at c19); (try rw [e15] at c19); (try rw [e16] at c19); replace h := h.1 c19
              refine .inl ⟨some (iv 1), by (try rw [e14]); (try rw [e15]); (try rw [e16]); (try rfl), ?_⟩
              (try rw [e14]); (try rw [e15]); (try rw [e16])
              show wp S 93 62 [(0, rf 36), (1, rf 34), (2, iv x2), (3, iv (zsg (zI s 36 3) (zI s 36 0) (zI s 41 (zI s 36 3))))] [iv 1] (zwI (zwI s7 36 3 ((zI s7 36 3) + 1)) 36 3 (((zI s7 36 3) + 1) + 1)) Q
              refine i_if (t := 67) r_93_62 (n_93_62 _) rfl (T_ne ⟨by omega, by omega⟩ ⟨by omega, by omega⟩) (fun _ => ?_) (fun z => absurd z (by omega))
              refine i_aload_n (a := 36) r_93_67 (n_93_67 _) rfl ?_
              refine i_aload_n (a := 34) r_93_68 (n_93_68 _) rfl ?_
              refine i_iload_n (x := x2) r_93_69 (n_93_69 _) rfl ?_
              refine wp_virt (b := 36) (rest := []) (Ls := [(0, rf 36), (1, rf 34), (2, iv x2)]) r_93_70 (n_93_70 _) rfl ⟨rfl, rfl, by decide, by decide⟩ rfl rfl lf_36 ⟨rfl, Nat.le_of_ble_eq_true rfl, Nat.le_of_ble_eq_true rfl⟩ rfl h ?_
              intro o20 s20 h
              rcases h with ⟨y20, q21, rfl, h⟩ | ⟨e20, rfl, h⟩
              · refine .inl ⟨some (iv y20), rfl, ?_⟩
                show wp S 93 73 [(0, rf 36), (1, rf 34), (2, iv x2), (3, iv (zsg (zI s 36 3) (zI s 36 0) (zI s 41 (zI s 36 3))))] [iv y20] s20 Q
                refine i_istore (l' := [(0, rf 36), (1, rf 34), (2, iv x2), (3, iv (zsg (zI s 36 3) (zI s 36 0) (zI s 41 (zI s 36 3)))), (4, iv y20)]) r_93_73 (n_93_73 _) (by decide) rfl ?_
                refine i_iload (x := y20) r_93_75 (n_93_75 _) rfl ?_
                refine i_iconst r_93_77 (n_93_77 _) ?_
                refine i_icmp (t := 83) r_93_78 (n_93_78 _) rfl (T_ne q21 ⟨by omega, by omega⟩) (fun c22 => ?_) (fun c22 => ?_)
                · replace h := h.1 c22
                  refine i_aload_n (a := 36) r_93_83 (n_93_83 _) rfl ?_
                  refine i_iload (x := y20) r_93_84 (n_93_84 _) rfl ?_
                  refine wp_virt (b := 36) (rest := []) (Ls := [(0, rf 36), (1, iv y20)]) r_93_86 (n_93_86 _) rfl ⟨rfl, rfl, by decide, by decide⟩ rfl rfl lf_36 ⟨rfl, Nat.le_of_ble_eq_true rfl, Nat.le_of_ble_eq_true rfl⟩ rfl h ?_
                  intro o23 s23 h
                  rcases h with ⟨y23, q24, rfl, h⟩ | ⟨e23, rfl, h⟩
                  · refine .inl ⟨some (iv y23), rfl, ?_⟩
                    show wp S 93 89 [(0, rf 36), (1, rf 34), (2, iv x2), (3, iv (zsg (zI s 36 3) (zI s 36 0) (zI s 41 (zI s 36 3)))), (4, iv y20)] [iv y23] s23 Q
                    refine i_istore (l' := [(0, rf 36), (1, rf 34), (2, iv x2), (3, iv (zsg (zI s 36 3) (zI s 36 0) (zI s 41 (zI s 36 3)))), (4, iv y20), (5, iv y23)]) r_93_89 (n_93_89 _) (by decide) rfl ?_
                    refine i_iload (x := y23) r_93_91 (n_93_91 _) rfl ?_
                    refine i_iconst r_93_93 (n_93_93 _) ?_
                    refine i_icmp (t := 99) r_93_94 (n_93_94 _) rfl (T_ne q24 ⟨by omega, by omega⟩) (fun c25 => ?_) (fun c25 => ?_)
                    · replace h := h.1 c25
                      refine i_aload_n (a := 36) r_93_99 (n_93_99 _) rfl ?_
                      refine i_dup r_93_100 (n_93_100 _) rfl ?_
                      refine i_getI (a := 36) r_93_101 (n_93_101 _) rfl (by decide) lf_36 (fun q26 => ?_)
                      refine i_iload (x := y23) r_93_104 (n_93_104 _) rfl ?_
                      refine i_iload (x := y20) r_93_106 (n_93_106 _) rfl ?_
                      refine i_bipush r_93_108 (n_93_108 _) rfl ?_
                      refine i_icmp (t := 129) r_93_110 (n_93_110 _) rfl (T_lt q21 ⟨by omega, by omega⟩) (fun c27 => ?_) (fun c27 => ?_)
                      · replace h := h.1 c27
                        refine i_iconst r_93_129 (n_93_129 _) ?_
                        refine i_imul r_93_130 (n_93_130 _) ?_
                        refine i_iadd r_93_131 (n_93_131 _) ?_
                        obtain ⟨g28, h⟩ := h
                        refine i_putI (a := 36) (x := (zI s23 36 4) + (y23 * 1)) r_93_132 (n_93_132 _) rfl (.inl rfl) rfl lf_36 g28 ?_
                        refine i_aload_n (a := 36) r_93_135 (n_93_135 _) rfl ?_
                        refine i_getR (a := 36) (b := 37) r_93_136 (n_93_136 _) rfl rfl rfl (by omega) lf_36 (by omega) ?_
                        refine i_iload_n (x := zsg (zI s 36 3) (zI s 36 0) (zI s 41 (zI s 36 3))) r_93_139 (n_93_139 _) rfl ?_
                        refine i_iload (x := y20) r_93_140 (n_93_140 _) rfl ?_
                        refine i_iload (x := y23) r_93_142 (n_93_142 _) rfl ?_
                        refine wp_virt (b := 37) (rest := []) (Ls := [(0, rf 37), (1, iv (zsg (zI s 36 3) (zI s 36 0) (zI s 41 (zI s 36 3)))), (2, iv y20), (3, iv y23)]) r_93_144 (n_93_144 _) rfl ⟨rfl, rfl, by decide, by decide⟩ rfl rfl lf_37 ⟨rfl, Nat.le_of_ble_eq_true rfl, Nat.le_of_ble_eq_true rfl⟩ rfl h ?_
                        intro o29 s29 h
                        rcases h with ⟨rfl, h⟩ | ⟨e29, rfl, h⟩
                        · refine .inl ⟨none, rfl, ?_⟩
                          refine i_aload_n (a := 36) r_93_147 (n_93_147 _) rfl ?_
                          refine i_getI (a := 36) r_93_148 (n_93_148 _) rfl (by decide) lf_36 (fun q31 => ?_)
                          refine i_bipush r_93_151 (n_93_151 _) rfl ?_
                          refine i_icmp (t := 169) r_93_153 (n_93_153 _) rfl (T_gt q31 ⟨by omega, by omega⟩) (fun c32 => ?_) (fun c32 => ?_)
                          · replace h := h.1 c32
                            refine i_iconst r_93_169 (n_93_169 _) ?_
                            exact i_zreturn r_93_170 (n_93_170 _) rfl (by decide) h
                          · replace h := h.2 c32
                            refine i_aload_n (a := 36) r_93_156 (n_93_156 _) rfl ?_
                            refine i_bipush r_93_157 (n_93_157 _) rfl ?_
                            obtain ⟨g33, h⟩ := h
                            obtain ⟨g34, h⟩ := h
                            refine wp_virt (b := 36) (rest := []) (Ls := [(0, rf 36), (1, iv 59)]) r_93_159 (n_93_159 _) rfl ⟨rfl, rfl, by decide, by decide⟩ rfl rfl lf_36 ⟨rfl, Nat.le_of_ble_eq_true rfl, Nat.le_of_ble_eq_true rfl⟩ rfl (K_Text_takes g33 ⟨by omega, by omega⟩ g34) ?_
                            rintro _ _ (⟨c35, rfl, rfl⟩ | ⟨c35, rfl, rfl⟩)
                            · replace h := h.1 c35
                              refine .inl ⟨some (iv 1), rfl, ?_⟩
                              show wp S 93 162 [(0, rf 36), (1, rf 34), (2, iv x2), (3, iv (zsg (zI s 36 3) (zI s 36 0) (zI s 41 (zI s 36 3)))), (4, iv y20), (5, iv y23)] [iv 1] (zwI s29 36 3 (zI s29 36 3 + 1)) Q
                              refine i_if (t := 169) r_93_162 (n_93_162 _) rfl (T_eq ⟨by omega, by omega⟩ ⟨by omega, by omega⟩) (fun z => absurd z (by omega)) (fun _ => ?_)
                              refine i_iconst r_93_165 (n_93_165 _) ?_
                              refine i_goto (t := 170) r_93_166 (n_93_166 _) rfl ?_
                              exact i_zreturn r_93_170 (n_93_170 _) rfl (by decide) h
                            · replace h := h.2 c35
                              refine .inl ⟨some (iv 0), rfl, ?_⟩
                              show wp S 93 162 [(0, rf 36), (1, rf 34), (2, iv x2), (3, iv (zsg (zI s 36 3) (zI s 36 0) (zI s 41 (zI s 36 3)))), (4, iv y20), (5, iv y23)] [iv 0] s29 Q
                              refine i_if (t := 169) r_93_162 (n_93_162 _) rfl (T_eq ⟨by omega, by omega⟩ ⟨by omega, by omega⟩) (fun _ => ?_) (fun z => absurd z (by omega))
                              refine i_iconst r_93_169 (n_93_169 _) ?_
                              exact i_zreturn r_93_170 (n_93_170 _) rfl (by decide) h
                        · skip
                          exact h.elim
                      · replace h := h.2 c27
                        refine i_aload_n (a := 34) r_93_113 (n_93_113 _) rfl ?_
                        refine i_iload (x := y20) r_93_114 (n_93_114 _) rfl ?_
                        refine i_bipush r_93_116 (n_93_116 _) rfl ?_
                        refine i_isub r_93_118 (n_93_118 _) ?_
                        obtain ⟨g36, h⟩ := h
                        refine i_aaload (c := 4) (a := 34) (j := y20 - 100) (b := 62 + 11 * (y20 - 100)) r_93_119 (n_93_119 _) lf_34 ⟨by omega, by omega⟩ (by omega) (by omega) rfl (by omega) ?_
                        have t37 := e_4 (j := y20 - 100) lf_34 (by omega) (by omega)
                        rw [show 34 + 28 + 11 * (y20 - 100) = 62 + 11 * (y20 - 100) by omega] at t37
                        refine i_getR (a := 62 + 11 * (y20 - 100)) (b := 67 + 11 * (y20 - 100)) r_93_120 (n_93_120 _) rfl rfl rfl (by omega) t37 (by omega) ?_
                        have t38 := (t_4_4 t37)
                        rw [show (62 + 11 * (y20 - 100)) + 5 = 67 + 11 * (y20 - 100) by omega] at t38
                        refine i_getI (a := 67 + 11 * (y20 - 100)) r_93_123 (n_93_123 _) rfl (by decide) t38 (fun q39 => ?_)
                        refine i_goto (t := 130) r_93_126 (n_93_126 _) rfl ?_
                        refine i_imul r_93_130 (n_93_130 _) ?_
                        refine i_iadd r_93_131 (n_93_131 _) ?_
                        obtain ⟨g40, h⟩ := h
                        refine i_putI (a := 36) (x := (zI s23 36 4) + (y23 * (zI s23 (67 + 11 * (y20 - 100)) 0))) r_93_132 (n_93_132 _) rfl (.inl rfl) rfl lf_36 g40 ?_
                        refine i_aload_n (a := 36) r_93_135 (n_93_135 _) rfl ?_
                        refine i_getR (a := 36) (b := 37) r_93_136 (n_93_136 _) rfl rfl rfl (by omega) lf_36 (by omega) ?_
                        refine i_iload_n (x := zsg (zI s 36 3) (zI s 36 0) (zI s 41 (zI s 36 3))) r_93_139 (n_93_139 _) rfl ?_
                        refine i_iload (x := y20) r_93_140 (n_93_140 _) rfl ?_
                        refine i_iload (x := y23) r_93_142 (n_93_142 _) rfl ?_
                        refine wp_virt (b := 37) (rest := []) (Ls := [(0, rf 37), (1, iv (zsg (zI s 36 3) (zI s 36 0) (zI s 41 (zI s 36 3)))), (2, iv y20), (3, iv y23)]) r_93_144 (n_93_144 _) rfl ⟨rfl, rfl, by decide, by decide⟩ rfl rfl lf_37 ⟨rfl, Nat.le_of_ble_eq_true rfl, Nat.le_of_ble_eq_true rfl⟩ rfl h ?_
                        intro o41 s41 h
                        rcases h with ⟨rfl, h⟩ | ⟨e41, rfl, h⟩
                        · refine .inl ⟨none, rfl, ?_⟩
                          refine i_aload_n (a := 36) r_93_147 (n_93_147 _) rfl ?_
                          refine i_getI (a := 36) r_93_148 (n_93_148 _) rfl (by decide) lf_36 (fun q43 => ?_)
                          refine i_bipush r_93_151 (n_93_151 _) rfl ?_
                          refine i_icmp (t := 169) r_93_153 (n_93_153 _) rfl (T_gt q43 ⟨by omega, by omega⟩) (fun c44 => ?_) (fun c44 => ?_)
                          · replace h := h.1 c44
                            refine i_iconst r_93_169 (n_93_169 _) ?_
                            exact i_zreturn r_93_170 (n_93_170 _) rfl (by decide) h
                          · replace h := h.2 c44
                            refine i_aload_n (a := 36) r_93_156 (n_93_156 _) rfl ?_
                            refine i_bipush r_93_157 (n_93_157 _) rfl ?_
                            obtain ⟨g45, h⟩ := h
                            obtain ⟨g46, h⟩ := h
                            refine wp_virt (b := 36) (rest := []) (Ls := [(0, rf 36), (1, iv 59)]) r_93_159 (n_93_159 _) rfl ⟨rfl, rfl, by decide, by decide⟩ rfl rfl lf_36 ⟨rfl, Nat.le_of_ble_eq_true rfl, Nat.le_of_ble_eq_true rfl⟩ rfl (K_Text_takes g45 ⟨by omega, by omega⟩ g46) ?_
                            rintro _ _ (⟨c47, rfl, rfl⟩ | ⟨c47, rfl, rfl⟩)
                            · replace h := h.1 c47
                              refine .inl ⟨some (iv 1), rfl, ?_⟩
                              show wp S 93 162 [(0, rf 36), (1, rf 34), (2, iv x2), (3, iv (zsg (zI s 36 3) (zI s 36 0) (zI s 41 (zI s 36 3)))), (4, iv y20), (5, iv y23)] [iv 1] (zwI s41 36 3 (zI s41 36 3 + 1)) Q
                              refine i_if (t := 169) r_93_162 (n_93_162 _) rfl (T_eq ⟨by omega, by omega⟩ ⟨by omega, by omega⟩) (fun z => absurd z (by omega)) (fun _ => ?_)
                              refine i_iconst r_93_165 (n_93_165 _) ?_
                              refine i_goto (t := 170) r_93_166 (n_93_166 _) rfl ?_
                              exact i_zreturn r_93_170 (n_93_170 _) rfl (by decide) h
                            · replace h := h.2 c47
                              refine .inl ⟨some (iv 0), rfl, ?_⟩
                              show wp S 93 162 [(0, rf 36), (1, rf 34), (2, iv x2), (3, iv (zsg (zI s 36 3) (zI s 36 0) (zI s 41 (zI s 36 3)))), (4, iv y20), (5, iv y23)] [iv 0] s41 Q
                              refine i_if (t := 169) r_93_162 (n_93_162 _) rfl (T_eq ⟨by omega, by omega⟩ ⟨by omega, by omega⟩) (fun _ => ?_) (fun z => absurd z (by omega))
                              refine i_iconst r_93_169 (n_93_169 _) ?_
                              exact i_zreturn r_93_170 (n_93_170 _) rfl (by decide) h
                        · skip
                          exact h.elim
                    · replace h := h.2 c25
                      refine i_iconst r_93_97 (n_93_97 _) ?_
                      exact i_zreturn r_93_98 (n_93_98 _) rfl (by decide) h
                  · skip
                    exact h.elim
                · replace h := h.2 c22
                  refine i_iconst r_93_81 (n_93_81 _) ?_
                  exact i_zreturn r_93_82 (n_93_82 _) rfl (by decide) h
              · skip
                exact h.elim
            · (try rw [e14] at c19); (try rw [e15] at c19); (try rw [e16] at c19); replace h := h.2 c19
              refine .inl ⟨some (iv 0), by (try rw [e14]); (try rw [e15]); (try rw [e16]); (try rfl), ?_⟩
              show wp S 93 62 [(0, rf 36), (1, rf 34), (2, iv x2), (3, iv (zsg (zI s 36 3) (zI s 36 0) (zI s 41 (zI s 36 3))))] [iv 0] (zwI s7 36 3 ((zI s7 36 3) + 1)) Q
              refine i_if (t := 67) r_93_62 (n_93_62 _) rfl (T_ne ⟨by omega, by omega⟩ ⟨by omega, by omega⟩) (fun z => absurd z (by omega)) (fun _ => ?_)
              refine i_iconst r_93_65 (n_93_65 _) ?_
              exact i_zreturn r_93_66 (n_93_66 _) rfl (by decide) h
          · replace h := h.2 c11
            refine i_iconst r_93_44 (n_93_44 _) ?_
            exact i_zreturn r_93_45 (n_93_45 _) rfl (by decide) h
      · skip
        exact h.elim
theorem r_95_0 : xfetch 95 0 = some (.aload_n 0, 1) := by decide +kernel
theorem n_95_0 : ∀ l, xpr 95 0 l = l := xpr_no (by decide +kernel)
theorem r_95_1 : xfetch 95 1 = some (.bipush 98, 2) := by decide +kernel
theorem n_95_1 : ∀ l, xpr 95 1 l = l := xpr_no (by decide +kernel)
theorem r_95_3 : xfetch 95 3 = some (.invokevirtual 51, 3) := by decide +kernel
theorem n_95_3 : ∀ l, xpr 95 3 l = l := xpr_no (by decide +kernel)
theorem r_95_6 : xfetch 95 6 = some (.ifCond .eq 6, 3) := by decide +kernel
theorem n_95_6 : ∀ l, xpr 95 6 l = l := xpr_no (by decide +kernel)
theorem r_95_9 : xfetch 95 9 = some (.bipush 7, 2) := by decide +kernel
theorem n_95_9 : ∀ l, xpr 95 9 l = l := xpr_no (by decide +kernel)
theorem r_95_11 : xfetch 95 11 = some (.ireturn, 1) := by decide +kernel
theorem n_95_11 : ∀ l, xpr 95 11 l = l := xpr_no (by decide +kernel)
theorem r_95_12 : xfetch 95 12 = some (.aload_n 0, 1) := by decide +kernel
theorem n_95_12 : ∀ l, xpr 95 12 l = l := xpr_no (by decide +kernel)
theorem r_95_13 : xfetch 95 13 = some (.bipush 105, 2) := by decide +kernel
theorem n_95_13 : ∀ l, xpr 95 13 l = l := xpr_no (by decide +kernel)
theorem r_95_15 : xfetch 95 15 = some (.invokevirtual 51, 3) := by decide +kernel
theorem n_95_15 : ∀ l, xpr 95 15 l = l := xpr_no (by decide +kernel)
theorem r_95_18 : xfetch 95 18 = some (.ifCond .eq 9, 3) := by decide +kernel
theorem n_95_18 : ∀ l, xpr 95 18 l = l := xpr_no (by decide +kernel)
theorem r_95_21 : xfetch 95 21 = some (.aload_n 0, 1) := by decide +kernel
theorem n_95_21 : ∀ l, xpr 95 21 l = l := xpr_no (by decide +kernel)
theorem r_95_22 : xfetch 95 22 = some (.iconst 1, 1) := by decide +kernel
theorem n_95_22 : ∀ l, xpr 95 22 l = l := xpr_no (by decide +kernel)
theorem r_95_23 : xfetch 95 23 = some (.invokevirtual 74, 3) := by decide +kernel
theorem n_95_23 : ∀ l, xpr 95 23 l = l := xpr_no (by decide +kernel)
theorem r_95_26 : xfetch 95 26 = some (.ireturn, 1) := by decide +kernel
theorem n_95_26 : ∀ l, xpr 95 26 l = l := xpr_no (by decide +kernel)
theorem r_95_27 : xfetch 95 27 = some (.aload_n 0, 1) := by decide +kernel
theorem n_95_27 : ∀ l, xpr 95 27 l = l := xpr_no (by decide +kernel)
theorem r_95_28 : xfetch 95 28 = some (.bipush 117, 2) := by decide +kernel
theorem n_95_28 : ∀ l, xpr 95 28 l = l := xpr_no (by decide +kernel)
theorem r_95_30 : xfetch 95 30 = some (.invokevirtual 51, 3) := by decide +kernel
theorem n_95_30 : ∀ l, xpr 95 30 l = l := xpr_no (by decide +kernel)
theorem r_95_33 : xfetch 95 33 = some (.ifCond .eq 9, 3) := by decide +kernel
theorem n_95_33 : ∀ l, xpr 95 33 l = l := xpr_no (by decide +kernel)
theorem r_95_36 : xfetch 95 36 = some (.aload_n 0, 1) := by decide +kernel
theorem n_95_36 : ∀ l, xpr 95 36 l = l := xpr_no (by decide +kernel)
theorem r_95_37 : xfetch 95 37 = some (.iconst 0, 1) := by decide +kernel
theorem n_95_37 : ∀ l, xpr 95 37 l = l := xpr_no (by decide +kernel)
theorem r_95_38 : xfetch 95 38 = some (.invokevirtual 74, 3) := by decide +kernel
theorem n_95_38 : ∀ l, xpr 95 38 l = l := xpr_no (by decide +kernel)
theorem r_95_41 : xfetch 95 41 = some (.ireturn, 1) := by decide +kernel
theorem n_95_41 : ∀ l, xpr 95 41 l = l := xpr_no (by decide +kernel)
theorem r_95_42 : xfetch 95 42 = some (.aload_n 0, 1) := by decide +kernel
theorem n_95_42 : ∀ l, xpr 95 42 l = l := xpr_no (by decide +kernel)
theorem r_95_43 : xfetch 95 43 = some (.bipush 35, 2) := by decide +kernel
theorem n_95_43 : ∀ l, xpr 95 43 l = l := xpr_no (by decide +kernel)
theorem r_95_45 : xfetch 95 45 = some (.invokevirtual 51, 3) := by decide +kernel
theorem n_95_45 : ∀ l, xpr 95 45 l = l := xpr_no (by decide +kernel)
theorem r_95_48 : xfetch 95 48 = some (.ifCond .eq 10, 3) := by decide +kernel
theorem n_95_48 : ∀ l, xpr 95 48 l = l := xpr_no (by decide +kernel)
theorem r_95_51 : xfetch 95 51 = some (.aload_n 0, 1) := by decide +kernel
theorem n_95_51 : ∀ l, xpr 95 51 l = l := xpr_no (by decide +kernel)
theorem r_95_52 : xfetch 95 52 = some (.aload_n 1, 1) := by decide +kernel
theorem n_95_52 : ∀ l, xpr 95 52 l = l := xpr_no (by decide +kernel)
theorem r_95_53 : xfetch 95 53 = some (.iload_n 2, 1) := by decide +kernel
theorem n_95_53 : ∀ l, xpr 95 53 l = l := xpr_no (by decide +kernel)
theorem r_95_54 : xfetch 95 54 = some (.invokevirtual 78, 3) := by decide +kernel
theorem n_95_54 : ∀ l, xpr 95 54 l = l := xpr_no (by decide +kernel)
theorem r_95_57 : xfetch 95 57 = some (.ireturn, 1) := by decide +kernel
theorem n_95_57 : ∀ l, xpr 95 57 l = l := xpr_no (by decide +kernel)
theorem r_95_58 : xfetch 95 58 = some (.aload_n 0, 1) := by decide +kernel
theorem n_95_58 : ∀ l, xpr 95 58 l = l := xpr_no (by decide +kernel)
theorem r_95_59 : xfetch 95 59 = some (.bipush 37, 2) := by decide +kernel
theorem n_95_59 : ∀ l, xpr 95 59 l = l := xpr_no (by decide +kernel)
theorem r_95_61 : xfetch 95 61 = some (.invokevirtual 51, 3) := by decide +kernel
theorem n_95_61 : ∀ l, xpr 95 61 l = l := xpr_no (by decide +kernel)
theorem r_95_64 : xfetch 95 64 = some (.ifCond .eq 10, 3) := by decide +kernel
theorem n_95_64 : ∀ l, xpr 95 64 l = l := xpr_no (by decide +kernel)
theorem r_95_67 : xfetch 95 67 = some (.aload_n 0, 1) := by decide +kernel
theorem n_95_67 : ∀ l, xpr 95 67 l = l := xpr_no (by decide +kernel)
theorem r_95_68 : xfetch 95 68 = some (.invokevirtual 81, 3) := by decide +kernel
theorem n_95_68 : ∀ l, xpr 95 68 l = l := xpr_no (by decide +kernel)
theorem r_95_71 : xfetch 95 71 = some (.goto 4, 3) := by decide +kernel
theorem n_95_71 : ∀ l, xpr 95 71 l = l := xpr_no (by decide +kernel)
theorem r_95_74 : xfetch 95 74 = some (.iconst (-1), 1) := by decide +kernel
theorem n_95_74 : ∀ l, xpr 95 74 l = l := xpr_no (by decide +kernel)
theorem r_95_75 : xfetch 95 75 = some (.ireturn, 1) := by decide +kernel
theorem n_95_75 : ∀ l, xpr 95 75 l = l := xpr_no (by decide +kernel)
theorem v_Text_readType_0 {S : Option (Nat × (Nat → Int32))} {s : zSt} {Q : Option Value ⊕ Nat → zSt → Prop} {x2 : Int} 
    (h : (0 ≤ zI s 36 3 → zI s 36 3 < zI s 36 0 → zI s 36 3 < 80) ∧ (rng (zI s 36 3 + 1) ∧ ((zsg (zI s 36 3) (zI s 36 0) (zI s 41 (zI s 36 3)) = 98 → Q (rI 7) (zwI s 36 3 (zI s 36 3 + 1))) ∧ ((zsg (zI s 36 3) (zI s 36 0) (zI s 41 (zI s 36 3)) ≠ 98 → (zsg (zI s 36 3) (zI s 36 0) (zI s 41 (zI s 36 3)) = 105 → wp S 96 0 [(0, rf 36), (1, iv 1)] [] (zwI s 36 3 (zI s 36 3 + 1)) (fun o5 s5 => zkI (fun y5 => Q (rI y5) s5) (fun e5 => False) o5)) ∧ ((zsg (zI s 36 3) (zI s 36 0) (zI s 41 (zI s 36 3)) ≠ 105 → (zsg (zI s 36 3) (zI s 36 0) (zI s 41 (zI s 36 3)) = 117 → wp S 96 0 [(0, rf 36), (1, iv 0)] [] (zwI s 36 3 (zI s 36 3 + 1)) (fun o8 s8 => zkI (fun y8 => Q (rI y8) s8) (fun e8 => False) o8)) ∧ ((zsg (zI s 36 3) (zI s 36 0) (zI s 41 (zI s 36 3)) ≠ 117 → (zsg (zI s 36 3) (zI s 36 0) (zI s 41 (zI s 36 3)) = 35 → wp S 97 0 [(0, rf 36), (1, rf 34), (2, iv x2)] [] (zwI s 36 3 (zI s 36 3 + 1)) (fun o11 s11 => zkI (fun y11 => Q (rI y11) s11) (fun e11 => False) o11)) ∧ ((zsg (zI s 36 3) (zI s 36 0) (zI s 41 (zI s 36 3)) ≠ 35 → (zsg (zI s 36 3) (zI s 36 0) (zI s 41 (zI s 36 3)) = 37 → wp S 99 0 [(0, rf 36)] [] (zwI s 36 3 (zI s 36 3 + 1)) (fun o14 s14 => zkI (fun y14 => Q (rI y14) s14) (fun e14 => False) o14)) ∧ ((zsg (zI s 36 3) (zI s 36 0) (zI s 41 (zI s 36 3)) ≠ 37 → Q (rI (-1)) s))))))))))))) :
    wp S 95 0 [(0, rf 36), (1, rf 34), (2, iv x2)] [] s Q := by
  refine i_aload_n (a := 36) r_95_0 (n_95_0 _) rfl ?_
  refine i_bipush r_95_1 (n_95_1 _) rfl ?_
  obtain ⟨g1, h⟩ := h
  obtain ⟨g2, h⟩ := h
  refine wp_virt (b := 36) (rest := []) (Ls := [(0, rf 36), (1, iv 98)]) r_95_3 (n_95_3 _) rfl ⟨rfl, rfl, by decide, by decide⟩ rfl rfl lf_36 ⟨rfl, Nat.le_of_ble_eq_true rfl, Nat.le_of_ble_eq_true rfl⟩ rfl (K_Text_takes g1 ⟨by omega, by omega⟩ g2) ?_
  rintro _ _ (⟨c3, rfl, rfl⟩ | ⟨c3, rfl, rfl⟩)
  · replace h := h.1 c3
    refine .inl ⟨some (iv 1), rfl, ?_⟩
    show wp S 95 6 [(0, rf 36), (1, rf 34), (2, iv x2)] [iv 1] (zwI s 36 3 (zI s 36 3 + 1)) Q
    refine i_if (t := 12) r_95_6 (n_95_6 _) rfl (T_eq ⟨by omega, by omega⟩ ⟨by omega, by omega⟩) (fun z => absurd z (by omega)) (fun _ => ?_)
    refine i_bipush r_95_9 (n_95_9 _) rfl ?_
    exact i_ireturn r_95_11 (n_95_11 _) rfl h
  · replace h := h.2 c3
    refine .inl ⟨some (iv 0), rfl, ?_⟩
    show wp S 95 6 [(0, rf 36), (1, rf 34), (2, iv x2)] [iv 0] s Q
    refine i_if (t := 12) r_95_6 (n_95_6 _) rfl (T_eq ⟨by omega, by omega⟩ ⟨by omega, by omega⟩) (fun _ => ?_) (fun z => absurd z (by omega))
    refine i_aload_n (a := 36) r_95_12 (n_95_12 _) rfl ?_
    refine i_bipush r_95_13 (n_95_13 _) rfl ?_
    refine wp_virt (b := 36) (rest := []) (Ls := [(0, rf 36), (1, iv 105)]) r_95_15 (n_95_15 _) rfl ⟨rfl, rfl, by decide, by decide⟩ rfl rfl lf_36 ⟨rfl, Nat.le_of_ble_eq_true rfl, Nat.le_of_ble_eq_true rfl⟩ rfl (K_Text_takes g1 ⟨by omega, by omega⟩ g2) ?_
    rintro _ _ (⟨c4, rfl, rfl⟩ | ⟨c4, rfl, rfl⟩)
    · replace h := h.1 c4
      refine .inl ⟨some (iv 1), rfl, ?_⟩
      show wp S 95 18 [(0, rf 36), (1, rf 34), (2, iv x2)] [iv 1] (zwI s 36 3 (zI s 36 3 + 1)) Q
      refine i_if (t := 27) r_95_18 (n_95_18 _) rfl (T_eq ⟨by omega, by omega⟩ ⟨by omega, by omega⟩) (fun z => absurd z (by omega)) (fun _ => ?_)
      refine i_aload_n (a := 36) r_95_21 (n_95_21 _) rfl ?_
      refine i_iconst r_95_22 (n_95_22 _) ?_
      refine wp_virt (b := 36) (rest := []) (Ls := [(0, rf 36), (1, iv 1)]) r_95_23 (n_95_23 _) rfl ⟨rfl, rfl, by decide, by decide⟩ rfl rfl lf_36 ⟨rfl, Nat.le_of_ble_eq_true rfl, Nat.le_of_ble_eq_true rfl⟩ rfl h ?_
      intro o5 s5 h
      rcases h with ⟨y5, q6, rfl, h⟩ | ⟨e5, rfl, h⟩
      · refine .inl ⟨some (iv y5), rfl, ?_⟩
        show wp S 95 26 [(0, rf 36), (1, rf 34), (2, iv x2)] [iv y5] s5 Q
        exact i_ireturn r_95_26 (n_95_26 _) rfl h
      · skip
        exact h.elim
    · replace h := h.2 c4
      refine .inl ⟨some (iv 0), rfl, ?_⟩
      show wp S 95 18 [(0, rf 36), (1, rf 34), (2, iv x2)] [iv 0] s Q
      refine i_if (t := 27) r_95_18 (n_95_18 _) rfl (T_eq ⟨by omega, by omega⟩ ⟨by omega, by omega⟩) (fun _ => ?_) (fun z => absurd z (by omega))
      refine i_aload_n (a := 36) r_95_27 (n_95_27 _) rfl ?_
      refine i_bipush r_95_28 (n_95_28 _) rfl ?_
      refine wp_virt (b := 36) (rest := []) (Ls := [(0, rf 36), (1, iv 117)]) r_95_30 (n_95_30 _) rfl ⟨rfl, rfl, by decide, by decide⟩ rfl rfl lf_36 ⟨rfl, Nat.le_of_ble_eq_true rfl, Nat.le_of_ble_eq_true rfl⟩ rfl (K_Text_takes g1 ⟨by omega, by omega⟩ g2) ?_
      rintro _ _ (⟨c7, rfl, rfl⟩ | ⟨c7, rfl, rfl⟩)
      · replace h := h.1 c7
        refine .inl ⟨some (iv 1), rfl, ?_⟩
        show wp S 95 33 [(0, rf 36), (1, rf 34), (2, iv x2)] [iv 1] (zwI s 36 3 (zI s 36 3 + 1)) Q
        refine i_if (t := 42) r_95_33 (n_95_33 _) rfl (T_eq ⟨by omega, by omega⟩ ⟨by omega, by omega⟩) (fun z => absurd z (by omega)) (fun _ => ?_)
        refine i_aload_n (a := 36) r_95_36 (n_95_36 _) rfl ?_
        refine i_iconst r_95_37 (n_95_37 _) ?_
        refine wp_virt (b := 36) (rest := []) (Ls := [(0, rf 36), (1, iv 0)]) r_95_38 (n_95_38 _) rfl ⟨rfl, rfl, by decide, by decide⟩ rfl rfl lf_36 ⟨rfl, Nat.le_of_ble_eq_true rfl, Nat.le_of_ble_eq_true rfl⟩ rfl h ?_
        intro o8 s8 h
        rcases h with ⟨y8, q9, rfl, h⟩ | ⟨e8, rfl, h⟩
        · refine .inl ⟨some (iv y8), rfl, ?_⟩
          show wp S 95 41 [(0, rf 36), (1, rf 34), (2, iv x2)] [iv y8] s8 Q
          exact i_ireturn r_95_41 (n_95_41 _) rfl h
        · skip
          exact h.elim
      · replace h := h.2 c7
        refine .inl ⟨some (iv 0), rfl, ?_⟩
        show wp S 95 33 [(0, rf 36), (1, rf 34), (2, iv x2)] [iv 0] s Q
        refine i_if (t := 42) r_95_33 (n_95_33 _) rfl (T_eq ⟨by omega, by omega⟩ ⟨by omega, by omega⟩) (fun _ => ?_) (fun z => absurd z (by omega))
        refine i_aload_n (a := 36) r_95_42 (n_95_42 _) rfl ?_
        refine i_bipush r_95_43 (n_95_43 _) rfl ?_
        refine wp_virt (b := 36) (rest := []) (Ls := [(0, rf 36), (1, iv 35)]) r_95_45 (n_95_45 _) rfl ⟨rfl, rfl, by decide, by decide⟩ rfl rfl lf_36 ⟨rfl, Nat.le_of_ble_eq_true rfl, Nat.le_of_ble_eq_true rfl⟩ rfl (K_Text_takes g1 ⟨by omega, by omega⟩ g2) ?_
        rintro _ _ (⟨c10, rfl, rfl⟩ | ⟨c10, rfl, rfl⟩)
        · replace h := h.1 c10
          refine .inl ⟨some (iv 1), rfl, ?_⟩
          show wp S 95 48 [(0, rf 36), (1, rf 34), (2, iv x2)] [iv 1] (zwI s 36 3 (zI s 36 3 + 1)) Q
          refine i_if (t := 58) r_95_48 (n_95_48 _) rfl (T_eq ⟨by omega, by omega⟩ ⟨by omega, by omega⟩) (fun z => absurd z (by omega)) (fun _ => ?_)
          refine i_aload_n (a := 36) r_95_51 (n_95_51 _) rfl ?_
          refine i_aload_n (a := 34) r_95_52 (n_95_52 _) rfl ?_
          refine i_iload_n (x := x2) r_95_53 (n_95_53 _) rfl ?_
          refine wp_virt (b := 36) (rest := []) (Ls := [(0, rf 36), (1, rf 34), (2, iv x2)]) r_95_54 (n_95_54 _) rfl ⟨rfl, rfl, by decide, by decide⟩ rfl rfl lf_36 ⟨rfl, Nat.le_of_ble_eq_true rfl, Nat.le_of_ble_eq_true rfl⟩ rfl h ?_
          intro o11 s11 h
          rcases h with ⟨y11, q12, rfl, h⟩ | ⟨e11, rfl, h⟩
          · refine .inl ⟨some (iv y11), rfl, ?_⟩
            show wp S 95 57 [(0, rf 36), (1, rf 34), (2, iv x2)] [iv y11] s11 Q
            exact i_ireturn r_95_57 (n_95_57 _) rfl h
          · skip
            exact h.elim
        · replace h := h.2 c10
          refine .inl ⟨some (iv 0), rfl, ?_⟩
          show wp S 95 48 [(0, rf 36), (1, rf 34), (2, iv x2)] [iv 0] s Q
          refine i_if (t := 58) r_95_48 (n_95_48 _) rfl (T_eq ⟨by omega, by omega⟩ ⟨by omega, by omega⟩) (fun _ => ?_) (fun z => absurd z (by omega))
          refine i_aload_n (a := 36) r_95_58 (n_95_58 _) rfl ?_
          refine i_bipush r_95_59 (n_95_59 _) rfl ?_
          refine wp_virt (b := 36) (rest := []) (Ls := [(0, rf 36), (1, iv 37)]) r_95_61 (n_95_61 _) rfl ⟨rfl, rfl, by decide, by decide⟩ rfl rfl lf_36 ⟨rfl, Nat.le_of_ble_eq_true rfl, Nat.le_of_ble_eq_true rfl⟩ rfl (K_Text_takes g1 ⟨by omega, by omega⟩ g2) ?_
          rintro _ _ (⟨c13, rfl, rfl⟩ | ⟨c13, rfl, rfl⟩)
          · replace h := h.1 c13
            refine .inl ⟨some (iv 1), rfl, ?_⟩
            show wp S 95 64 [(0, rf 36), (1, rf 34), (2, iv x2)] [iv 1] (zwI s 36 3 (zI s 36 3 + 1)) Q
            refine i_if (t := 74) r_95_64 (n_95_64 _) rfl (T_eq ⟨by omega, by omega⟩ ⟨by omega, by omega⟩) (fun z => absurd z (by omega)) (fun _ => ?_)
            refine i_aload_n (a := 36) r_95_67 (n_95_67 _) rfl ?_
            refine wp_virt (b := 36) (rest := []) (Ls := [(0, rf 36)]) r_95_68 (n_95_68 _) rfl ⟨rfl, rfl, by decide, by decide⟩ rfl rfl lf_36 ⟨rfl, Nat.le_of_ble_eq_true rfl, Nat.le_of_ble_eq_true rfl⟩ rfl h ?_
            intro o14 s14 h
            rcases h with ⟨y14, q15, rfl, h⟩ | ⟨e14, rfl, h⟩
            · refine .inl ⟨some (iv y14), rfl, ?_⟩
              show wp S 95 71 [(0, rf 36), (1, rf 34), (2, iv x2)] [iv y14] s14 Q
              refine i_goto (t := 75) r_95_71 (n_95_71 _) rfl ?_
              exact i_ireturn r_95_75 (n_95_75 _) rfl h
            · skip
              exact h.elim
          · replace h := h.2 c13
            refine .inl ⟨some (iv 0), rfl, ?_⟩
            show wp S 95 64 [(0, rf 36), (1, rf 34), (2, iv x2)] [iv 0] s Q
            refine i_if (t := 74) r_95_64 (n_95_64 _) rfl (T_eq ⟨by omega, by omega⟩ ⟨by omega, by omega⟩) (fun _ => ?_) (fun z => absurd z (by omega))
            refine i_iconst r_95_74 (n_95_74 _) ?_
            exact i_ireturn r_95_75 (n_95_75 _) rfl h
theorem r_96_0 : xfetch 96 0 = some (.iload_n 1, 1) := by decide +kernel
theorem n_96_0 : ∀ l, xpr 96 0 l = l := xpr_no (by decide +kernel)
theorem r_96_1 : xfetch 96 1 = some (.ifCond .eq 7, 3) := by decide +kernel
theorem n_96_1 : ∀ l, xpr 96 1 l = l := xpr_no (by decide +kernel)
theorem r_96_4 : xfetch 96 4 = some (.iconst 0, 1) := by decide +kernel
theorem n_96_4 : ∀ l, xpr 96 4 l = l := xpr_no (by decide +kernel)
theorem r_96_5 : xfetch 96 5 = some (.goto 4, 3) := by decide +kernel
theorem n_96_5 : ∀ l, xpr 96 5 l = l := xpr_no (by decide +kernel)
theorem r_96_8 : xfetch 96 8 = some (.iconst 1, 1) := by decide +kernel
theorem n_96_8 : ∀ l, xpr 96 8 l = l := xpr_no (by decide +kernel)
theorem r_96_9 : xfetch 96 9 = some (.istore_n 2, 1) := by decide +kernel
theorem r_96_10 : xfetch 96 10 = some (.aload_n 0, 1) := by decide +kernel
theorem n_96_10 : ∀ l, xpr 96 10 l = l := xpr_no (by decide +kernel)
theorem r_96_11 : xfetch 96 11 = some (.bipush 56, 2) := by decide +kernel
theorem n_96_11 : ∀ l, xpr 96 11 l = l := xpr_no (by decide +kernel)
theorem r_96_13 : xfetch 96 13 = some (.invokevirtual 51, 3) := by decide +kernel
theorem n_96_13 : ∀ l, xpr 96 13 l = l := xpr_no (by decide +kernel)
theorem r_96_16 : xfetch 96 16 = some (.ifCond .eq 7, 3) := by decide +kernel
theorem n_96_16 : ∀ l, xpr 96 16 l = l := xpr_no (by decide +kernel)
theorem r_96_19 : xfetch 96 19 = some (.iconst 0, 1) := by decide +kernel
theorem n_96_19 : ∀ l, xpr 96 19 l = l := xpr_no (by decide +kernel)
theorem r_96_20 : xfetch 96 20 = some (.iload_n 2, 1) := by decide +kernel
theorem n_96_20 : ∀ l, xpr 96 20 l = l := xpr_no (by decide +kernel)
theorem r_96_21 : xfetch 96 21 = some (.iadd, 1) := by decide +kernel
theorem n_96_21 : ∀ l, xpr 96 21 l = l := xpr_no (by decide +kernel)
theorem r_96_22 : xfetch 96 22 = some (.ireturn, 1) := by decide +kernel
theorem n_96_22 : ∀ l, xpr 96 22 l = l := xpr_no (by decide +kernel)
theorem r_96_23 : xfetch 96 23 = some (.aload_n 0, 1) := by decide +kernel
theorem n_96_23 : ∀ l, xpr 96 23 l = l := xpr_no (by decide +kernel)
theorem r_96_24 : xfetch 96 24 = some (.bipush 49, 2) := by decide +kernel
theorem n_96_24 : ∀ l, xpr 96 24 l = l := xpr_no (by decide +kernel)
theorem r_96_26 : xfetch 96 26 = some (.invokevirtual 51, 3) := by decide +kernel
theorem n_96_26 : ∀ l, xpr 96 26 l = l := xpr_no (by decide +kernel)
theorem r_96_29 : xfetch 96 29 = some (.ifCond .eq 20, 3) := by decide +kernel
theorem n_96_29 : ∀ l, xpr 96 29 l = l := xpr_no (by decide +kernel)
theorem r_96_32 : xfetch 96 32 = some (.aload_n 0, 1) := by decide +kernel
theorem n_96_32 : ∀ l, xpr 96 32 l = l := xpr_no (by decide +kernel)
theorem r_96_33 : xfetch 96 33 = some (.bipush 54, 2) := by decide +kernel
theorem n_96_33 : ∀ l, xpr 96 33 l = l := xpr_no (by decide +kernel)
theorem r_96_35 : xfetch 96 35 = some (.invokevirtual 51, 3) := by decide +kernel
theorem n_96_35 : ∀ l, xpr 96 35 l = l := xpr_no (by decide +kernel)
theorem r_96_38 : xfetch 96 38 = some (.ifCond .eq 9, 3) := by decide +kernel
theorem n_96_38 : ∀ l, xpr 96 38 l = l := xpr_no (by decide +kernel)
theorem r_96_41 : xfetch 96 41 = some (.iconst 2, 1) := by decide +kernel
theorem n_96_41 : ∀ l, xpr 96 41 l = l := xpr_no (by decide +kernel)
theorem r_96_42 : xfetch 96 42 = some (.iload_n 2, 1) := by decide +kernel
theorem n_96_42 : ∀ l, xpr 96 42 l = l := xpr_no (by decide +kernel)
theorem r_96_43 : xfetch 96 43 = some (.iadd, 1) := by decide +kernel
theorem n_96_43 : ∀ l, xpr 96 43 l = l := xpr_no (by decide +kernel)
theorem r_96_44 : xfetch 96 44 = some (.goto 4, 3) := by decide +kernel
theorem n_96_44 : ∀ l, xpr 96 44 l = l := xpr_no (by decide +kernel)
theorem r_96_47 : xfetch 96 47 = some (.iconst (-1), 1) := by decide +kernel
theorem n_96_47 : ∀ l, xpr 96 47 l = l := xpr_no (by decide +kernel)
theorem r_96_48 : xfetch 96 48 = some (.ireturn, 1) := by decide +kernel
theorem n_96_48 : ∀ l, xpr 96 48 l = l := xpr_no (by decide +kernel)
theorem r_96_49 : xfetch 96 49 = some (.aload_n 0, 1) := by decide +kernel
theorem n_96_49 : ∀ l, xpr 96 49 l = l := xpr_no (by decide +kernel)
theorem r_96_50 : xfetch 96 50 = some (.bipush 51, 2) := by decide +kernel
theorem n_96_50 : ∀ l, xpr 96 50 l = l := xpr_no (by decide +kernel)
theorem r_96_52 : xfetch 96 52 = some (.invokevirtual 51, 3) := by decide +kernel
theorem n_96_52 : ∀ l, xpr 96 52 l = l := xpr_no (by decide +kernel)
theorem r_96_55 : xfetch 96 55 = some (.ifCond .eq 20, 3) := by decide +kernel
theorem n_96_55 : ∀ l, xpr 96 55 l = l := xpr_no (by decide +kernel)
theorem r_96_58 : xfetch 96 58 = some (.aload_n 0, 1) := by decide +kernel
theorem n_96_58 : ∀ l, xpr 96 58 l = l := xpr_no (by decide +kernel)
theorem r_96_59 : xfetch 96 59 = some (.bipush 50, 2) := by decide +kernel
theorem n_96_59 : ∀ l, xpr 96 59 l = l := xpr_no (by decide +kernel)
theorem r_96_61 : xfetch 96 61 = some (.invokevirtual 51, 3) := by decide +kernel
theorem n_96_61 : ∀ l, xpr 96 61 l = l := xpr_no (by decide +kernel)
theorem r_96_64 : xfetch 96 64 = some (.ifCond .eq 9, 3) := by decide +kernel
theorem n_96_64 : ∀ l, xpr 96 64 l = l := xpr_no (by decide +kernel)
theorem r_96_67 : xfetch 96 67 = some (.iconst 4, 1) := by decide +kernel
theorem n_96_67 : ∀ l, xpr 96 67 l = l := xpr_no (by decide +kernel)
theorem r_96_68 : xfetch 96 68 = some (.iload_n 2, 1) := by decide +kernel
theorem n_96_68 : ∀ l, xpr 96 68 l = l := xpr_no (by decide +kernel)
theorem r_96_69 : xfetch 96 69 = some (.iadd, 1) := by decide +kernel
theorem n_96_69 : ∀ l, xpr 96 69 l = l := xpr_no (by decide +kernel)
theorem r_96_70 : xfetch 96 70 = some (.goto 4, 3) := by decide +kernel
theorem n_96_70 : ∀ l, xpr 96 70 l = l := xpr_no (by decide +kernel)
theorem r_96_73 : xfetch 96 73 = some (.iconst (-1), 1) := by decide +kernel
theorem n_96_73 : ∀ l, xpr 96 73 l = l := xpr_no (by decide +kernel)
theorem r_96_74 : xfetch 96 74 = some (.ireturn, 1) := by decide +kernel
theorem n_96_74 : ∀ l, xpr 96 74 l = l := xpr_no (by decide +kernel)
theorem r_96_75 : xfetch 96 75 = some (.iload_n 1, 1) := by decide +kernel
theorem n_96_75 : ∀ l, xpr 96 75 l = l := xpr_no (by decide +kernel)
theorem r_96_76 : xfetch 96 76 = some (.ifCond .eq 26, 3) := by decide +kernel
theorem n_96_76 : ∀ l, xpr 96 76 l = l := xpr_no (by decide +kernel)
theorem r_96_79 : xfetch 96 79 = some (.aload_n 0, 1) := by decide +kernel
theorem n_96_79 : ∀ l, xpr 96 79 l = l := xpr_no (by decide +kernel)
theorem r_96_80 : xfetch 96 80 = some (.bipush 54, 2) := by decide +kernel
theorem n_96_80 : ∀ l, xpr 96 80 l = l := xpr_no (by decide +kernel)
theorem r_96_82 : xfetch 96 82 = some (.invokevirtual 51, 3) := by decide +kernel
theorem n_96_82 : ∀ l, xpr 96 82 l = l := xpr_no (by decide +kernel)
theorem r_96_85 : xfetch 96 85 = some (.ifCond .eq 17, 3) := by decide +kernel
theorem n_96_85 : ∀ l, xpr 96 85 l = l := xpr_no (by decide +kernel)
theorem r_96_88 : xfetch 96 88 = some (.aload_n 0, 1) := by decide +kernel
theorem n_96_88 : ∀ l, xpr 96 88 l = l := xpr_no (by decide +kernel)
theorem r_96_89 : xfetch 96 89 = some (.bipush 52, 2) := by decide +kernel
theorem n_96_89 : ∀ l, xpr 96 89 l = l := xpr_no (by decide +kernel)
theorem r_96_91 : xfetch 96 91 = some (.invokevirtual 51, 3) := by decide +kernel
theorem n_96_91 : ∀ l, xpr 96 91 l = l := xpr_no (by decide +kernel)
theorem r_96_94 : xfetch 96 94 = some (.ifCond .eq 8, 3) := by decide +kernel
theorem n_96_94 : ∀ l, xpr 96 94 l = l := xpr_no (by decide +kernel)
theorem r_96_97 : xfetch 96 97 = some (.bipush 6, 2) := by decide +kernel
theorem n_96_97 : ∀ l, xpr 96 97 l = l := xpr_no (by decide +kernel)
theorem r_96_99 : xfetch 96 99 = some (.goto 4, 3) := by decide +kernel
theorem n_96_99 : ∀ l, xpr 96 99 l = l := xpr_no (by decide +kernel)
theorem r_96_102 : xfetch 96 102 = some (.iconst (-1), 1) := by decide +kernel
theorem n_96_102 : ∀ l, xpr 96 102 l = l := xpr_no (by decide +kernel)
theorem r_96_103 : xfetch 96 103 = some (.ireturn, 1) := by decide +kernel
theorem n_96_103 : ∀ l, xpr 96 103 l = l := xpr_no (by decide +kernel)
theorem v_Text_readSize_0 {S : Option (Nat × (Nat → Int32))} {s : zSt} {Q : Option Value ⊕ Nat → zSt → Prop} {x1 : Int} 
    (h : rng x1 ∧ ((x1 = 0 → wp S 96 9 [(0, rf 36), (1, iv x1)] [iv 1] s Q) ∧ (x1 ≠ 0 → wp S 96 9 [(0, rf 36), (1, iv x1)] [iv 0] s Q))) :
    wp S 96 0 [(0, rf 36), (1, iv x1)] [] s Q := by
  refine i_iload_n (x := x1) r_96_0 (n_96_0 _) rfl ?_
  obtain ⟨g1, h⟩ := h
  refine i_if (t := 8) r_96_1 (n_96_1 _) rfl (T_eq g1 ⟨by omega, by omega⟩) (fun c2 => ?_) (fun c2 => ?_)
  · replace h := h.1 c2
    refine i_iconst r_96_8 (n_96_8 _) ?_
    exact wp_pr (l' := [(0, rf 36), (1, iv x1)]) rfl h
  · replace h := h.2 c2
    refine i_iconst r_96_4 (n_96_4 _) ?_
    refine i_goto (t := 9) r_96_5 (n_96_5 _) rfl ?_
    exact wp_pr (l' := [(0, rf 36), (1, iv x1)]) rfl h
theorem v_Text_readSize_9 {S : Option (Nat × (Nat → Int32))} {s : zSt} {Q : Option Value ⊕ Nat → zSt → Prop} {x1 : Int} {x90 : Int} 
    (h : (0 ≤ zI s 36 3 → zI s 36 3 < zI s 36 0 → zI s 36 3 < 80) ∧ (rng (zI s 36 3 + 1) ∧ ((zsg (zI s 36 3) (zI s 36 0) (zI s 41 (zI s 36 3)) = 56 → Q (rI (0 + x90)) (zwI s 36 3 (zI s 36 3 + 1))) ∧ ((zsg (zI s 36 3) (zI s 36 0) (zI s 41 (zI s 36 3)) ≠ 56 → (zsg (zI s 36 3) (zI s 36 0) (zI s 41 (zI s 36 3)) = 49 → (0 ≤ (zI s 36 3 + 1) → (zI s 36 3 + 1) < (zI s 36 0) → (zI s 36 3 + 1) < 80) ∧ (rng ((zI s 36 3 + 1) + 1) ∧ ((zsg (zI s 36 3 + 1) (zI s 36 0) (zI s 41 (zI s 36 3 + 1)) = 54 → Q (rI (2 + x90)) (zwI (zwI s 36 3 (zI s 36 3 + 1)) 36 3 ((zI s 36 3 + 1) + 1))) ∧ ((zsg (zI s 36 3 + 1) (zI s 36 0) (zI s 41 (zI s 36 3 + 1)) ≠ 54 → Q (rI (-1)) (zwI s 36 3 (zI s 36 3 + 1))))))) ∧ ((zsg (zI s 36 3) (zI s 36 0) (zI s 41 (zI s 36 3)) ≠ 49 → (zsg (zI s 36 3) (zI s 36 0) (zI s 41 (zI s 36 3)) = 51 → (0 ≤ (zI s 36 3 + 1) → (zI s 36 3 + 1) < (zI s 36 0) → (zI s 36 3 + 1) < 80) ∧ (rng ((zI s 36 3 + 1) + 1) ∧ ((zsg (zI s 36 3 + 1) (zI s 36 0) (zI s 41 (zI s 36 3 + 1)) = 50 → Q (rI (4 + x90)) (zwI (zwI s 36 3 (zI s 36 3 + 1)) 36 3 ((zI s 36 3 + 1) + 1))) ∧ ((zsg (zI s 36 3 + 1) (zI s 36 0) (zI s 41 (zI s 36 3 + 1)) ≠ 50 → Q (rI (-1)) (zwI s 36 3 (zI s 36 3 + 1))))))) ∧ ((zsg (zI s 36 3) (zI s 36 0) (zI s 41 (zI s 36 3)) ≠ 51 → rng x1 ∧ ((x1 = 0 → Q (rI (-1)) s) ∧ (x1 ≠ 0 → (zsg (zI s 36 3) (zI s 36 0) (zI s 41 (zI s 36 3)) = 54 → (0 ≤ (zI s 36 3 + 1) → (zI s 36 3 + 1) < (zI s 36 0) → (zI s 36 3 + 1) < 80) ∧ (rng ((zI s 36 3 + 1) + 1) ∧ ((zsg (zI s 36 3 + 1) (zI s 36 0) (zI s 41 (zI s 36 3 + 1)) = 52 → Q (rI 6) (zwI (zwI s 36 3 (zI s 36 3 + 1)) 36 3 ((zI s 36 3 + 1) + 1))) ∧ ((zsg (zI s 36 3 + 1) (zI s 36 0) (zI s 41 (zI s 36 3 + 1)) ≠ 52 → Q (rI (-1)) (zwI s 36 3 (zI s 36 3 + 1))))))) ∧ ((zsg (zI s 36 3) (zI s 36 0) (zI s 41 (zI s 36 3)) ≠ 54 → Q (rI (-1)) s))))))))))))) :
    wp S 96 9 [(0, rf 36), (1, iv x1)] [iv x90] s Q := by
  refine i_istore_n (l' := [(0, rf 36), (1, iv x1), (2, iv x90)]) r_96_9 rfl (by decide) rfl ?_
  refine i_aload_n (a := 36) r_96_10 (n_96_10 _) rfl ?_
  refine i_bipush r_96_11 (n_96_11 _) rfl ?_
  obtain ⟨g1, h⟩ := h
  obtain ⟨g2, h⟩ := h
  refine wp_virt (b := 36) (rest := []) (Ls := [(0, rf 36), (1, iv 56)]) r_96_13 (n_96_13 _) rfl ⟨rfl, rfl, by decide, by decide⟩ rfl rfl lf_36 ⟨rfl, Nat.le_of_ble_eq_true rfl, Nat.le_of_ble_eq_true rfl⟩ rfl (K_Text_takes g1 ⟨by omega, by omega⟩ g2) ?_
  rintro _ _ (⟨c3, rfl, rfl⟩ | ⟨c3, rfl, rfl⟩)
  · replace h := h.1 c3
    refine .inl ⟨some (iv 1), rfl, ?_⟩
    show wp S 96 16 [(0, rf 36), (1, iv x1), (2, iv x90)] [iv 1] (zwI s 36 3 (zI s 36 3 + 1)) Q
    refine i_if (t := 23) r_96_16 (n_96_16 _) rfl (T_eq ⟨by omega, by omega⟩ ⟨by omega, by omega⟩) (fun z => absurd z (by omega)) (fun _ => ?_)
    refine i_iconst r_96_19 (n_96_19 _) ?_
    refine i_iload_n (x := x90) r_96_20 (n_96_20 _) rfl ?_
    refine i_iadd r_96_21 (n_96_21 _) ?_
    exact i_ireturn r_96_22 (n_96_22 _) rfl h
  · replace h := h.2 c3
    refine .inl ⟨some (iv 0), rfl, ?_⟩
    show wp S 96 16 [(0, rf 36), (1, iv x1), (2, iv x90)] [iv 0] s Q
    refine i_if (t := 23) r_96_16 (n_96_16 _) rfl (T_eq ⟨by omega, by omega⟩ ⟨by omega, by omega⟩) (fun _ => ?_) (fun z => absurd z (by omega))
    refine i_aload_n (a := 36) r_96_23 (n_96_23 _) rfl ?_
    refine i_bipush r_96_24 (n_96_24 _) rfl ?_
    refine wp_virt (b := 36) (rest := []) (Ls := [(0, rf 36), (1, iv 49)]) r_96_26 (n_96_26 _) rfl ⟨rfl, rfl, by decide, by decide⟩ rfl rfl lf_36 ⟨rfl, Nat.le_of_ble_eq_true rfl, Nat.le_of_ble_eq_true rfl⟩ rfl (K_Text_takes g1 ⟨by omega, by omega⟩ g2) ?_
    rintro _ _ (⟨c4, rfl, rfl⟩ | ⟨c4, rfl, rfl⟩)
    · replace h := h.1 c4
      refine .inl ⟨some (iv 1), rfl, ?_⟩
      show wp S 96 29 [(0, rf 36), (1, iv x1), (2, iv x90)] [iv 1] (zwI s 36 3 (zI s 36 3 + 1)) Q
      refine i_if (t := 49) r_96_29 (n_96_29 _) rfl (T_eq ⟨by omega, by omega⟩ ⟨by omega, by omega⟩) (fun z => absurd z (by omega)) (fun _ => ?_)
      refine i_aload_n (a := 36) r_96_32 (n_96_32 _) rfl ?_
      refine i_bipush r_96_33 (n_96_33 _) rfl ?_
      have e5 : zI (zwI s 36 3 (zI s 36 3 + 1)) 36 3 = zI s 36 3 + 1 := zI_eq
      have e6 : zI (zwI s 36 3 (zI s 36 3 + 1)) 36 0 = zI s 36 0 := zI_nj (by omega)
      have e7 : zI (zwI s 36 3 (zI s 36 3 + 1)) 41 (zI s 36 3 + 1) = zI s 41 (zI s 36 3 + 1) := zI_ne (by omega)
      obtain ⟨g8, h⟩ := h
      obtain ⟨g9, h⟩ := h
      refine wp_virt (b := 36) (rest := []) (Ls := [(0, rf 36), (1, iv 54)]) r_96_35 (n_96_35 _) rfl ⟨rfl, rfl, by decide, by decide⟩ rfl rfl lf_36 ⟨rfl, Nat.le_of_ble_eq_true rfl, Nat.le_of_ble_eq_true rfl⟩ rfl (K_Text_takes (by (try rw [e5]); (try rw [e6]); (try rw [e7]); exact g8) (by (try rw [e5]); (try rw [e6]); (try rw [e7]); exact ⟨by omega, by omega⟩) (by (try rw [e5]); (try rw [e6]); (try rw [e7]); exact g9)) ?_
      rintro _ _ (⟨c10, rfl, rfl⟩ | ⟨c10, rfl, rfl⟩)
      · (try rw [e5] at c10); (try rw [e6] at c10); (try rw [e7] at c10); replace h := h.1 c10
        refine .inl ⟨some (iv 1), by (try rw [e5]); (try rw [e6]); (try rw [e7]); (try rfl), ?_⟩
        (try rw [e5]); (try rw [e6]); (try rw [e7])
        show wp S 96 38 [(0, rf 36), (1, iv x1), (2, iv x90)] [iv 1] (zwI (zwI s 36 3 (zI s 36 3 + 1)) 36 3 ((zI s 36 3 + 1) + 1)) Q
        refine i_if (t := 47) r_96_38 (n_96_38 _) rfl (T_eq ⟨by omega, by omega⟩ ⟨by omega, by omega⟩) (fun z => absurd z (by omega)) (fun _ => ?_)
        refine i_iconst r_96_41 (n_96_41 _) ?_
        refine i_iload_n (x := x90) r_96_42 (n_96_42 _) rfl ?_
        refine i_iadd r_96_43 (n_96_43 _) ?_
        refine i_goto (t := 48) r_96_44 (n_96_44 _) rfl ?_
        exact i_ireturn r_96_48 (n_96_48 _) rfl h
      · (try rw [e5] at c10); (try rw [e6] at c10); (try rw [e7] at c10); replace h := h.2 c10
        refine .inl ⟨some (iv 0), by (try rw [e5]); (try rw [e6]); (try rw [e7]); (try rfl), ?_⟩
        show wp S 96 38 [(0, rf 36), (1, iv x1), (2, iv x90)] [iv 0] (zwI s 36 3 (zI s 36 3 + 1)) Q
        refine i_if (t := 47) r_96_38 (n_96_38 _) rfl (T_eq ⟨by omega, by omega⟩ ⟨by omega, by omega⟩) (fun _ => ?_) (fun z => absurd z (by omega))
        refine i_iconst r_96_47 (n_96_47 _) ?_
        exact i_ireturn r_96_48 (n_96_48 _) rfl h
    · replace h := h.2 c4
      refine .inl ⟨some (iv 0), rfl, ?_⟩
      show wp S 96 29 [(0, rf 36), (1, iv x1), (2, iv x90)] [iv 0] s Q
      refine i_if (t := 49) r_96_29 (n_96_29 _) rfl (T_eq ⟨by omega, by omega⟩ ⟨by omega, by omega⟩) (fun _ => ?_) (fun z => absurd z (by omega))
      refine i_aload_n (a := 36) r_96_49 (n_96_49 _) rfl ?_
      refine i_bipush r_96_50 (n_96_50 _) rfl ?_
      refine wp_virt (b := 36) (rest := []) (Ls := [(0, rf 36), (1, iv 51)]) r_96_52 (n_96_52 _) rfl ⟨rfl, rfl, by decide, by decide⟩ rfl rfl lf_36 ⟨rfl, Nat.le_of_ble_eq_true rfl, Nat.le_of_ble_eq_true rfl⟩ rfl (K_Text_takes g1 ⟨by omega, by omega⟩ g2) ?_
      rintro _ _ (⟨c11, rfl, rfl⟩ | ⟨c11, rfl, rfl⟩)
      · replace h := h.1 c11
        refine .inl ⟨some (iv 1), rfl, ?_⟩
        show wp S 96 55 [(0, rf 36), (1, iv x1), (2, iv x90)] [iv 1] (zwI s 36 3 (zI s 36 3 + 1)) Q
        refine i_if (t := 75) r_96_55 (n_96_55 _) rfl (T_eq ⟨by omega, by omega⟩ ⟨by omega, by omega⟩) (fun z => absurd z (by omega)) (fun _ => ?_)
        refine i_aload_n (a := 36) r_96_58 (n_96_58 _) rfl ?_
        refine i_bipush r_96_59 (n_96_59 _) rfl ?_
        have e12 : zI (zwI s 36 3 (zI s 36 3 + 1)) 36 3 = zI s 36 3 + 1 := zI_eq
        have e13 : zI (zwI s 36 3 (zI s 36 3 + 1)) 36 0 = zI s 36 0 := zI_nj (by omega)
        have e14 : zI (zwI s 36 3 (zI s 36 3 + 1)) 41 (zI s 36 3 + 1) = zI s 41 (zI s 36 3 + 1) := zI_ne (by omega)
        obtain ⟨g15, h⟩ := h
        obtain ⟨g16, h⟩ := h
        refine wp_virt (b := 36) (rest := []) (Ls := [(0, rf 36), (1, iv 50)]) r_96_61 (n_96_61 _) rfl ⟨rfl, rfl, by decide, by decide⟩ rfl rfl lf_36 ⟨rfl, Nat.le_of_ble_eq_true rfl, Nat.le_of_ble_eq_true rfl⟩ rfl (K_Text_takes (by (try rw [e12]); (try rw [e13]); (try rw [e14]); exact g15) (by (try rw [e12]); (try rw [e13]); (try rw [e14]); exact ⟨by omega, by omega⟩) (by (try rw [e12]); (try rw [e13]); (try rw [e14]); exact g16)) ?_
        rintro _ _ (⟨c17, rfl, rfl⟩ | ⟨c17, rfl, rfl⟩)
        · (try rw [e12] at c17); (try rw [e13] at c17); (try rw [e14] at c17); replace h := h.1 c17
          refine .inl ⟨some (iv 1), by (try rw [e12]); (try rw [e13]); (try rw [e14]); (try rfl), ?_⟩
          (try rw [e12]); (try rw [e13]); (try rw [e14])
          show wp S 96 64 [(0, rf 36), (1, iv x1), (2, iv x90)] [iv 1] (zwI (zwI s 36 3 (zI s 36 3 + 1)) 36 3 ((zI s 36 3 + 1) + 1)) Q
          refine i_if (t := 73) r_96_64 (n_96_64 _) rfl (T_eq ⟨by omega, by omega⟩ ⟨by omega, by omega⟩) (fun z => absurd z (by omega)) (fun _ => ?_)
          refine i_iconst r_96_67 (n_96_67 _) ?_
          refine i_iload_n (x := x90) r_96_68 (n_96_68 _) rfl ?_
          refine i_iadd r_96_69 (n_96_69 _) ?_
          refine i_goto (t := 74) r_96_70 (n_96_70 _) rfl ?_
          exact i_ireturn r_96_74 (n_96_74 _) rfl h
        · (try rw [e12] at c17); (try rw [e13] at c17); (try rw [e14] at c17); replace h := h.2 c17
          refine .inl ⟨some (iv 0), by (try rw [e12]); (try rw [e13]); (try rw [e14]); (try rfl), ?_⟩
          show wp S 96 64 [(0, rf 36), (1, iv x1), (2, iv x90)] [iv 0] (zwI s 36 3 (zI s 36 3 + 1)) Q
          refine i_if (t := 73) r_96_64 (n_96_64 _) rfl (T_eq ⟨by omega, by omega⟩ ⟨by omega, by omega⟩) (fun _ => ?_) (fun z => absurd z (by omega))
          refine i_iconst r_96_73 (n_96_73 _) ?_
          exact i_ireturn r_96_74 (n_96_74 _) rfl h
      · replace h := h.2 c11
        refine .inl ⟨some (iv 0), rfl, ?_⟩
        show wp S 96 55 [(0, rf 36), (1, iv x1), (2, iv x90)] [iv 0] s Q
        refine i_if (t := 75) r_96_55 (n_96_55 _) rfl (T_eq ⟨by omega, by omega⟩ ⟨by omega, by omega⟩) (fun _ => ?_) (fun z => absurd z (by omega))
        refine i_iload_n (x := x1) r_96_75 (n_96_75 _) rfl ?_
        obtain ⟨g18, h⟩ := h
        refine i_if (t := 102) r_96_76 (n_96_76 _) rfl (T_eq g18 ⟨by omega, by omega⟩) (fun c19 => ?_) (fun c19 => ?_)
        · replace h := h.1 c19
          refine i_iconst r_96_102 (n_96_102 _) ?_
          exact i_ireturn r_96_103 (n_96_103 _) rfl h
        · replace h := h.2 c19
          refine i_aload_n (a := 36) r_96_79 (n_96_79 _) rfl ?_
          refine i_bipush r_96_80 (n_96_80 _) rfl ?_
          refine wp_virt (b := 36) (rest := []) (Ls := [(0, rf 36), (1, iv 54)]) r_96_82 (n_96_82 _) rfl ⟨rfl, rfl, by decide, by decide⟩ rfl rfl lf_36 ⟨rfl, Nat.le_of_ble_eq_true rfl, Nat.le_of_ble_eq_true rfl⟩ rfl (K_Text_takes g1 ⟨by omega, by omega⟩ g2) ?_
          rintro _ _ (⟨c20, rfl, rfl⟩ | ⟨c20, rfl, rfl⟩)
          · replace h := h.1 c20
            refine .inl ⟨some (iv 1), rfl, ?_⟩
            show wp S 96 85 [(0, rf 36), (1, iv x1), (2, iv x90)] [iv 1] (zwI s 36 3 (zI s 36 3 + 1)) Q
            refine i_if (t := 102) r_96_85 (n_96_85 _) rfl (T_eq ⟨by omega, by omega⟩ ⟨by omega, by omega⟩) (fun z => absurd z (by omega)) (fun _ => ?_)
            refine i_aload_n (a := 36) r_96_88 (n_96_88 _) rfl ?_
            refine i_bipush r_96_89 (n_96_89 _) rfl ?_
            have e21 : zI (zwI s 36 3 (zI s 36 3 + 1)) 36 3 = zI s 36 3 + 1 := zI_eq
            have e22 : zI (zwI s 36 3 (zI s 36 3 + 1)) 36 0 = zI s 36 0 := zI_nj (by omega)
            have e23 : zI (zwI s 36 3 (zI s 36 3 + 1)) 41 (zI s 36 3 + 1) = zI s 41 (zI s 36 3 + 1) := zI_ne (by omega)
            obtain ⟨g24, h⟩ := h
            obtain ⟨g25, h⟩ := h
            refine wp_virt (b := 36) (rest := []) (Ls := [(0, rf 36), (1, iv 52)]) r_96_91 (n_96_91 _) rfl ⟨rfl, rfl, by decide, by decide⟩ rfl rfl lf_36 ⟨rfl, Nat.le_of_ble_eq_true rfl, Nat.le_of_ble_eq_true rfl⟩ rfl (K_Text_takes (by (try rw [e21]); (try rw [e22]); (try rw [e23]); exact g24) (by (try rw [e21]); (try rw [e22]); (try rw [e23]); exact ⟨by omega, by omega⟩) (by (try rw [e21]); (try rw [e22]); (try rw [e23]); exact g25)) ?_
            rintro _ _ (⟨c26, rfl, rfl⟩ | ⟨c26, rfl, rfl⟩)
            · (try rw [e21] at c26); (try rw [e22] at c26); (try rw [e23] at c26); replace h := h.1 c26
              refine .inl ⟨some (iv 1), by (try rw [e21]); (try rw [e22]); (try rw [e23]); (try rfl), ?_⟩
              (try rw [e21]); (try rw [e22]); (try rw [e23])
              show wp S 96 94 [(0, rf 36), (1, iv x1), (2, iv x90)] [iv 1] (zwI (zwI s 36 3 (zI s 36 3 + 1)) 36 3 ((zI s 36 3 + 1) + 1)) Q
              refine i_if (t := 102) r_96_94 (n_96_94 _) rfl (T_eq ⟨by omega, by omega⟩ ⟨by omega, by omega⟩) (fun z => absurd z (by omega)) (fun _ => ?_)
              refine i_bipush r_96_97 (n_96_97 _) rfl ?_
              refine i_goto (t := 103) r_96_99 (n_96_99 _) rfl ?_
              exact i_ireturn r_96_103 (n_96_103 _) rfl h
            · (try rw [e21] at c26); (try rw [e22] at c26); (try rw [e23] at c26); replace h := h.2 c26
              refine .inl ⟨some (iv 0), by (try rw [e21]); (try rw [e22]); (try rw [e23]); (try rfl), ?_⟩
              show wp S 96 94 [(0, rf 36), (1, iv x1), (2, iv x90)] [iv 0] (zwI s 36 3 (zI s 36 3 + 1)) Q
              refine i_if (t := 102) r_96_94 (n_96_94 _) rfl (T_eq ⟨by omega, by omega⟩ ⟨by omega, by omega⟩) (fun _ => ?_) (fun z => absurd z (by omega))
              refine i_iconst r_96_102 (n_96_102 _) ?_
              exact i_ireturn r_96_103 (n_96_103 _) rfl h
          · replace h := h.2 c20
            refine .inl ⟨some (iv 0), rfl, ?_⟩
            show wp S 96 85 [(0, rf 36), (1, iv x1), (2, iv x90)] [iv 0] s Q
            refine i_if (t := 102) r_96_85 (n_96_85 _) rfl (T_eq ⟨by omega, by omega⟩ ⟨by omega, by omega⟩) (fun _ => ?_) (fun z => absurd z (by omega))
            refine i_iconst r_96_102 (n_96_102 _) ?_
            exact i_ireturn r_96_103 (n_96_103 _) rfl h
theorem r_97_0 : xfetch 97 0 = some (.aload_n 0, 1) := by decide +kernel
theorem n_97_0 : ∀ l, xpr 97 0 l = l := xpr_no (by decide +kernel)
theorem r_97_1 : xfetch 97 1 = some (.invokevirtual 85, 3) := by decide +kernel
theorem n_97_1 : ∀ l, xpr 97 1 l = l := xpr_no (by decide +kernel)
theorem r_97_4 : xfetch 97 4 = some (.istore_n 3, 1) := by decide +kernel
theorem n_97_4 : ∀ l, xpr 97 4 l = l := xpr_no (by decide +kernel)
theorem r_97_5 : xfetch 97 5 = some (.iload_n 3, 1) := by decide +kernel
theorem n_97_5 : ∀ l, xpr 97 5 l = l := xpr_no (by decide +kernel)
theorem r_97_6 : xfetch 97 6 = some (.iconst (-1), 1) := by decide +kernel
theorem n_97_6 : ∀ l, xpr 97 6 l = l := xpr_no (by decide +kernel)
theorem r_97_7 : xfetch 97 7 = some (.if_icmp .eq 21, 3) := by decide +kernel
theorem n_97_7 : ∀ l, xpr 97 7 l = l := xpr_no (by decide +kernel)
theorem r_97_10 : xfetch 97 10 = some (.iload_n 3, 1) := by decide +kernel
theorem n_97_10 : ∀ l, xpr 97 10 l = l := xpr_no (by decide +kernel)
theorem r_97_11 : xfetch 97 11 = some (.iload_n 2, 1) := by decide +kernel
theorem n_97_11 : ∀ l, xpr 97 11 l = l := xpr_no (by decide +kernel)
theorem r_97_12 : xfetch 97 12 = some (.if_icmp .ge 16, 3) := by decide +kernel
theorem n_97_12 : ∀ l, xpr 97 12 l = l := xpr_no (by decide +kernel)
theorem r_97_15 : xfetch 97 15 = some (.aload_n 1, 1) := by decide +kernel
theorem n_97_15 : ∀ l, xpr 97 15 l = l := xpr_no (by decide +kernel)
theorem r_97_16 : xfetch 97 16 = some (.iload_n 3, 1) := by decide +kernel
theorem n_97_16 : ∀ l, xpr 97 16 l = l := xpr_no (by decide +kernel)
theorem r_97_17 : xfetch 97 17 = some (.aaload, 1) := by decide +kernel
theorem n_97_17 : ∀ l, xpr 97 17 l = l := xpr_no (by decide +kernel)
theorem r_97_18 : xfetch 97 18 = some (.getfield 62, 3) := by decide +kernel
theorem n_97_18 : ∀ l, xpr 97 18 l = l := xpr_no (by decide +kernel)
theorem r_97_21 : xfetch 97 21 = some (.getfield 67, 3) := by decide +kernel
theorem n_97_21 : ∀ l, xpr 97 21 l = l := xpr_no (by decide +kernel)
theorem r_97_24 : xfetch 97 24 = some (.iconst 1, 1) := by decide +kernel
theorem n_97_24 : ∀ l, xpr 97 24 l = l := xpr_no (by decide +kernel)
theorem r_97_25 : xfetch 97 25 = some (.if_icmp .ge 5, 3) := by decide +kernel
theorem n_97_25 : ∀ l, xpr 97 25 l = l := xpr_no (by decide +kernel)
theorem r_97_28 : xfetch 97 28 = some (.iconst (-1), 1) := by decide +kernel
theorem n_97_28 : ∀ l, xpr 97 28 l = l := xpr_no (by decide +kernel)
theorem r_97_29 : xfetch 97 29 = some (.ireturn, 1) := by decide +kernel
theorem n_97_29 : ∀ l, xpr 97 29 l = l := xpr_no (by decide +kernel)
theorem r_97_30 : xfetch 97 30 = some (.aload_n 0, 1) := by decide +kernel
theorem n_97_30 : ∀ l, xpr 97 30 l = l := xpr_no (by decide +kernel)
theorem r_97_31 : xfetch 97 31 = some (.dup, 1) := by decide +kernel
theorem n_97_31 : ∀ l, xpr 97 31 l = l := xpr_no (by decide +kernel)
theorem r_97_32 : xfetch 97 32 = some (.getfield 26, 3) := by decide +kernel
theorem n_97_32 : ∀ l, xpr 97 32 l = l := xpr_no (by decide +kernel)
theorem r_97_35 : xfetch 97 35 = some (.iconst 1, 1) := by decide +kernel
theorem n_97_35 : ∀ l, xpr 97 35 l = l := xpr_no (by decide +kernel)
theorem r_97_36 : xfetch 97 36 = some (.iadd, 1) := by decide +kernel
theorem n_97_36 : ∀ l, xpr 97 36 l = l := xpr_no (by decide +kernel)
theorem r_97_37 : xfetch 97 37 = some (.putfield 26, 3) := by decide +kernel
theorem n_97_37 : ∀ l, xpr 97 37 l = l := xpr_no (by decide +kernel)
theorem r_97_40 : xfetch 97 40 = some (.bipush 100, 2) := by decide +kernel
theorem n_97_40 : ∀ l, xpr 97 40 l = l := xpr_no (by decide +kernel)
theorem r_97_42 : xfetch 97 42 = some (.iload_n 3, 1) := by decide +kernel
theorem n_97_42 : ∀ l, xpr 97 42 l = l := xpr_no (by decide +kernel)
theorem r_97_43 : xfetch 97 43 = some (.iadd, 1) := by decide +kernel
theorem n_97_43 : ∀ l, xpr 97 43 l = l := xpr_no (by decide +kernel)
theorem r_97_44 : xfetch 97 44 = some (.ireturn, 1) := by decide +kernel
theorem n_97_44 : ∀ l, xpr 97 44 l = l := xpr_no (by decide +kernel)
theorem v_Text_readRecord_0 {S : Option (Nat × (Nat → Int32))} {s : zSt} {Q : Option Value ⊕ Nat → zSt → Prop} {x2 : Int} 
    (h : (0 ≤ zI s 36 3 → zI s 36 3 < zI s 36 0 → zI s 36 3 < 80) ∧ (rng (zdg (zsg (zI s 36 3) (zI s 36 0) (zI s 41 (zI s 36 3)))) ∧ (((zdg (zsg (zI s 36 3) (zI s 36 0) (zI s 41 (zI s 36 3)))) = (-1) → Q (rI (-1)) s) ∧ ((zdg (zsg (zI s 36 3) (zI s 36 0) (zI s 41 (zI s 36 3)))) ≠ (-1) → rng x2 ∧ ((x2 ≤ (zdg (zsg (zI s 36 3) (zI s 36 0) (zI s 41 (zI s 36 3)))) → Q (rI (-1)) s) ∧ ((zdg (zsg (zI s 36 3) (zI s 36 0) (zI s 41 (zI s 36 3)))) < x2 → (0 ≤ (zdg (zsg (zI s 36 3) (zI s 36 0) (zI s 41 (zI s 36 3)))) ∧ (zdg (zsg (zI s 36 3) (zI s 36 0) (zI s 41 (zI s 36 3)))) < 6) ∧ ((1 ≤ (zI s (67 + 11 * (zdg (zsg (zI s 36 3) (zI s 36 0) (zI s 41 (zI s 36 3))))) 0) → rng ((zI s 36 3) + 1) ∧ (Q (rI (100 + (zdg (zsg (zI s 36 3) (zI s 36 0) (zI s 41 (zI s 36 3)))))) (zwI s 36 3 ((zI s 36 3) + 1)))) ∧ ((zI s (67 + 11 * (zdg (zsg (zI s 36 3) (zI s 36 0) (zI s 41 (zI s 36 3))))) 0) < 1 → Q (rI (-1)) s)))))))) :
    wp S 97 0 [(0, rf 36), (1, rf 34), (2, iv x2)] [] s Q := by
  refine i_aload_n (a := 36) r_97_0 (n_97_0 _) rfl ?_
  obtain ⟨g1, h⟩ := h
  refine wp_virt (b := 36) (rest := []) (Ls := [(0, rf 36)]) r_97_1 (n_97_1 _) rfl ⟨rfl, rfl, by decide, by decide⟩ rfl rfl lf_36 ⟨rfl, Nat.le_of_ble_eq_true rfl, Nat.le_of_ble_eq_true rfl⟩ rfl (K_Text_digit g1) ?_
  rintro _ _ ⟨rfl, rfl⟩
  refine .inl ⟨some (iv (zdg (zsg (zI s 36 3) (zI s 36 0) (zI s 41 (zI s 36 3))))), rfl, ?_⟩
  show wp S 97 4 [(0, rf 36), (1, rf 34), (2, iv x2)] [iv (zdg (zsg (zI s 36 3) (zI s 36 0) (zI s 41 (zI s 36 3))))] s Q
  refine i_istore_n (l' := [(0, rf 36), (1, rf 34), (2, iv x2), (3, iv (zdg (zsg (zI s 36 3) (zI s 36 0) (zI s 41 (zI s 36 3)))))]) r_97_4 (n_97_4 _) (by decide) rfl ?_
  refine i_iload_n (x := zdg (zsg (zI s 36 3) (zI s 36 0) (zI s 41 (zI s 36 3)))) r_97_5 (n_97_5 _) rfl ?_
  refine i_iconst r_97_6 (n_97_6 _) ?_
  obtain ⟨g3, h⟩ := h
  refine i_icmp (t := 28) r_97_7 (n_97_7 _) rfl (T_eq g3 ⟨by omega, by omega⟩) (fun c4 => ?_) (fun c4 => ?_)
  · replace h := h.1 c4
    refine i_iconst r_97_28 (n_97_28 _) ?_
    exact i_ireturn r_97_29 (n_97_29 _) rfl h
  · replace h := h.2 c4
    refine i_iload_n (x := zdg (zsg (zI s 36 3) (zI s 36 0) (zI s 41 (zI s 36 3)))) r_97_10 (n_97_10 _) rfl ?_
    refine i_iload_n (x := x2) r_97_11 (n_97_11 _) rfl ?_
    obtain ⟨g5, h⟩ := h
    refine i_icmp (t := 28) r_97_12 (n_97_12 _) rfl (T_ge g3 g5) (fun c6 => ?_) (fun c6 => ?_)
    · replace h := h.1 c6
      refine i_iconst r_97_28 (n_97_28 _) ?_
      exact i_ireturn r_97_29 (n_97_29 _) rfl h
    · replace h := h.2 c6
      refine i_aload_n (a := 34) r_97_15 (n_97_15 _) rfl ?_
      refine i_iload_n (x := zdg (zsg (zI s 36 3) (zI s 36 0) (zI s 41 (zI s 36 3)))) r_97_16 (n_97_16 _) rfl ?_
      obtain ⟨g7, h⟩ := h
      refine i_aaload (c := 4) (a := 34) (j := zdg (zsg (zI s 36 3) (zI s 36 0) (zI s 41 (zI s 36 3)))) (b := 62 + 11 * (zdg (zsg (zI s 36 3) (zI s 36 0) (zI s 41 (zI s 36 3))))) r_97_17 (n_97_17 _) lf_34 ⟨by omega, by omega⟩ (by omega) (by omega) rfl (by omega) ?_
      have t8 := e_4 (j := zdg (zsg (zI s 36 3) (zI s 36 0) (zI s 41 (zI s 36 3)))) lf_34 (by omega) (by omega)
      rw [show 34 + 28 + 11 * (zdg (zsg (zI s 36 3) (zI s 36 0) (zI s 41 (zI s 36 3)))) = 62 + 11 * (zdg (zsg (zI s 36 3) (zI s 36 0) (zI s 41 (zI s 36 3)))) by omega] at t8
      refine i_getR (a := 62 + 11 * (zdg (zsg (zI s 36 3) (zI s 36 0) (zI s 41 (zI s 36 3))))) (b := 67 + 11 * (zdg (zsg (zI s 36 3) (zI s 36 0) (zI s 41 (zI s 36 3))))) r_97_18 (n_97_18 _) rfl rfl rfl (by omega) t8 (by omega) ?_
      have t9 := (t_4_4 t8)
      rw [show (62 + 11 * (zdg (zsg (zI s 36 3) (zI s 36 0) (zI s 41 (zI s 36 3))))) + 5 = 67 + 11 * (zdg (zsg (zI s 36 3) (zI s 36 0) (zI s 41 (zI s 36 3)))) by omega] at t9
      refine i_getI (a := 67 + 11 * (zdg (zsg (zI s 36 3) (zI s 36 0) (zI s 41 (zI s 36 3))))) r_97_21 (n_97_21 _) rfl (by decide) t9 (fun q10 => ?_)
      refine i_iconst r_97_24 (n_97_24 _) ?_
      refine i_icmp (t := 30) r_97_25 (n_97_25 _) rfl (T_ge q10 ⟨by omega, by omega⟩) (fun c11 => ?_) (fun c11 => ?_)
      · replace h := h.1 c11
        refine i_aload_n (a := 36) r_97_30 (n_97_30 _) rfl ?_
        refine i_dup r_97_31 (n_97_31 _) rfl ?_
        refine i_getI (a := 36) r_97_32 (n_97_32 _) rfl (by decide) lf_36 (fun q12 => ?_)
        refine i_iconst r_97_35 (n_97_35 _) ?_
        refine i_iadd r_97_36 (n_97_36 _) ?_
        obtain ⟨g13, h⟩ := h
        refine i_putI (a := 36) (x := (zI s 36 3) + 1) r_97_37 (n_97_37 _) rfl (.inl rfl) rfl lf_36 g13 ?_
        refine i_bipush r_97_40 (n_97_40 _) rfl ?_
        refine i_iload_n (x := zdg (zsg (zI s 36 3) (zI s 36 0) (zI s 41 (zI s 36 3)))) r_97_42 (n_97_42 _) rfl ?_
        refine i_iadd r_97_43 (n_97_43 _) ?_
        exact i_ireturn r_97_44 (n_97_44 _) rfl h
      · replace h := h.2 c11
        refine i_iconst r_97_28 (n_97_28 _) ?_
        exact i_ireturn r_97_29 (n_97_29 _) rfl h
theorem r_99_0 : xfetch 99 0 = some (.aload_n 0, 1) := by decide +kernel
theorem n_99_0 : ∀ l, xpr 99 0 l = l := xpr_no (by decide +kernel)
theorem r_99_1 : xfetch 99 1 = some (.invokevirtual 85, 3) := by decide +kernel
theorem n_99_1 : ∀ l, xpr 99 1 l = l := xpr_no (by decide +kernel)
theorem r_99_4 : xfetch 99 4 = some (.istore_n 1, 1) := by decide +kernel
theorem n_99_4 : ∀ l, xpr 99 4 l = l := xpr_no (by decide +kernel)
theorem r_99_5 : xfetch 99 5 = some (.iload_n 1, 1) := by decide +kernel
theorem n_99_5 : ∀ l, xpr 99 5 l = l := xpr_no (by decide +kernel)
theorem r_99_6 : xfetch 99 6 = some (.iconst 1, 1) := by decide +kernel
theorem n_99_6 : ∀ l, xpr 99 6 l = l := xpr_no (by decide +kernel)
theorem r_99_7 : xfetch 99 7 = some (.if_icmp .ge 5, 3) := by decide +kernel
theorem n_99_7 : ∀ l, xpr 99 7 l = l := xpr_no (by decide +kernel)
theorem r_99_10 : xfetch 99 10 = some (.iconst (-1), 1) := by decide +kernel
theorem n_99_10 : ∀ l, xpr 99 10 l = l := xpr_no (by decide +kernel)
theorem r_99_11 : xfetch 99 11 = some (.ireturn, 1) := by decide +kernel
theorem n_99_11 : ∀ l, xpr 99 11 l = l := xpr_no (by decide +kernel)
theorem r_99_12 : xfetch 99 12 = some (.aload_n 0, 1) := by decide +kernel
theorem n_99_12 : ∀ l, xpr 99 12 l = l := xpr_no (by decide +kernel)
theorem r_99_13 : xfetch 99 13 = some (.dup, 1) := by decide +kernel
theorem n_99_13 : ∀ l, xpr 99 13 l = l := xpr_no (by decide +kernel)
theorem r_99_14 : xfetch 99 14 = some (.getfield 26, 3) := by decide +kernel
theorem n_99_14 : ∀ l, xpr 99 14 l = l := xpr_no (by decide +kernel)
theorem r_99_17 : xfetch 99 17 = some (.iconst 1, 1) := by decide +kernel
theorem n_99_17 : ∀ l, xpr 99 17 l = l := xpr_no (by decide +kernel)
theorem r_99_18 : xfetch 99 18 = some (.iadd, 1) := by decide +kernel
theorem n_99_18 : ∀ l, xpr 99 18 l = l := xpr_no (by decide +kernel)
theorem r_99_19 : xfetch 99 19 = some (.putfield 26, 3) := by decide +kernel
theorem n_99_19 : ∀ l, xpr 99 19 l = l := xpr_no (by decide +kernel)
theorem r_99_22 : xfetch 99 22 = some (.aload_n 0, 1) := by decide +kernel
theorem n_99_22 : ∀ l, xpr 99 22 l = l := xpr_no (by decide +kernel)
theorem r_99_23 : xfetch 99 23 = some (.invokevirtual 85, 3) := by decide +kernel
theorem n_99_23 : ∀ l, xpr 99 23 l = l := xpr_no (by decide +kernel)
theorem r_99_26 : xfetch 99 26 = some (.istore_n 2, 1) := by decide +kernel
theorem n_99_26 : ∀ l, xpr 99 26 l = l := xpr_no (by decide +kernel)
theorem r_99_27 : xfetch 99 27 = some (.iload_n 2, 1) := by decide +kernel
theorem n_99_27 : ∀ l, xpr 99 27 l = l := xpr_no (by decide +kernel)
theorem r_99_28 : xfetch 99 28 = some (.iconst (-1), 1) := by decide +kernel
theorem n_99_28 : ∀ l, xpr 99 28 l = l := xpr_no (by decide +kernel)
theorem r_99_29 : xfetch 99 29 = some (.if_icmp .eq 31, 3) := by decide +kernel
theorem n_99_29 : ∀ l, xpr 99 29 l = l := xpr_no (by decide +kernel)
theorem r_99_32 : xfetch 99 32 = some (.iload_n 1, 1) := by decide +kernel
theorem n_99_32 : ∀ l, xpr 99 32 l = l := xpr_no (by decide +kernel)
theorem r_99_33 : xfetch 99 33 = some (.bipush 10, 2) := by decide +kernel
theorem n_99_33 : ∀ l, xpr 99 33 l = l := xpr_no (by decide +kernel)
theorem r_99_35 : xfetch 99 35 = some (.imul, 1) := by decide +kernel
theorem n_99_35 : ∀ l, xpr 99 35 l = l := xpr_no (by decide +kernel)
theorem r_99_36 : xfetch 99 36 = some (.iload_n 2, 1) := by decide +kernel
theorem n_99_36 : ∀ l, xpr 99 36 l = l := xpr_no (by decide +kernel)
theorem r_99_37 : xfetch 99 37 = some (.iadd, 1) := by decide +kernel
theorem n_99_37 : ∀ l, xpr 99 37 l = l := xpr_no (by decide +kernel)
theorem r_99_38 : xfetch 99 38 = some (.bipush 16, 2) := by decide +kernel
theorem n_99_38 : ∀ l, xpr 99 38 l = l := xpr_no (by decide +kernel)
theorem r_99_40 : xfetch 99 40 = some (.if_icmp .gt 20, 3) := by decide +kernel
theorem n_99_40 : ∀ l, xpr 99 40 l = l := xpr_no (by decide +kernel)
theorem r_99_43 : xfetch 99 43 = some (.aload_n 0, 1) := by decide +kernel
theorem n_99_43 : ∀ l, xpr 99 43 l = l := xpr_no (by decide +kernel)
theorem r_99_44 : xfetch 99 44 = some (.dup, 1) := by decide +kernel
theorem n_99_44 : ∀ l, xpr 99 44 l = l := xpr_no (by decide +kernel)
theorem r_99_45 : xfetch 99 45 = some (.getfield 26, 3) := by decide +kernel
theorem n_99_45 : ∀ l, xpr 99 45 l = l := xpr_no (by decide +kernel)
theorem r_99_48 : xfetch 99 48 = some (.iconst 1, 1) := by decide +kernel
theorem n_99_48 : ∀ l, xpr 99 48 l = l := xpr_no (by decide +kernel)
theorem r_99_49 : xfetch 99 49 = some (.iadd, 1) := by decide +kernel
theorem n_99_49 : ∀ l, xpr 99 49 l = l := xpr_no (by decide +kernel)
theorem r_99_50 : xfetch 99 50 = some (.putfield 26, 3) := by decide +kernel
theorem n_99_50 : ∀ l, xpr 99 50 l = l := xpr_no (by decide +kernel)
theorem r_99_53 : xfetch 99 53 = some (.iload_n 1, 1) := by decide +kernel
theorem n_99_53 : ∀ l, xpr 99 53 l = l := xpr_no (by decide +kernel)
theorem r_99_54 : xfetch 99 54 = some (.bipush 10, 2) := by decide +kernel
theorem n_99_54 : ∀ l, xpr 99 54 l = l := xpr_no (by decide +kernel)
theorem r_99_56 : xfetch 99 56 = some (.imul, 1) := by decide +kernel
theorem n_99_56 : ∀ l, xpr 99 56 l = l := xpr_no (by decide +kernel)
theorem r_99_57 : xfetch 99 57 = some (.iload_n 2, 1) := by decide +kernel
theorem n_99_57 : ∀ l, xpr 99 57 l = l := xpr_no (by decide +kernel)
theorem r_99_58 : xfetch 99 58 = some (.iadd, 1) := by decide +kernel
theorem n_99_58 : ∀ l, xpr 99 58 l = l := xpr_no (by decide +kernel)
theorem r_99_59 : xfetch 99 59 = some (.istore_n 1, 1) := by decide +kernel
theorem n_99_59 : ∀ l, xpr 99 59 l = l := xpr_no (by decide +kernel)
theorem r_99_60 : xfetch 99 60 = some (.bipush 20, 2) := by decide +kernel
theorem n_99_60 : ∀ l, xpr 99 60 l = l := xpr_no (by decide +kernel)
theorem r_99_62 : xfetch 99 62 = some (.iload_n 1, 1) := by decide +kernel
theorem n_99_62 : ∀ l, xpr 99 62 l = l := xpr_no (by decide +kernel)
theorem r_99_63 : xfetch 99 63 = some (.iadd, 1) := by decide +kernel
theorem n_99_63 : ∀ l, xpr 99 63 l = l := xpr_no (by decide +kernel)
theorem r_99_64 : xfetch 99 64 = some (.ireturn, 1) := by decide +kernel
theorem n_99_64 : ∀ l, xpr 99 64 l = l := xpr_no (by decide +kernel)
theorem v_Text_readWidth_0 {S : Option (Nat × (Nat → Int32))} {s : zSt} {Q : Option Value ⊕ Nat → zSt → Prop}  
    (h : (0 ≤ zI s 36 3 → zI s 36 3 < zI s 36 0 → zI s 36 3 < 80) ∧ (rng (zdg (zsg (zI s 36 3) (zI s 36 0) (zI s 41 (zI s 36 3)))) ∧ ((1 ≤ (zdg (zsg (zI s 36 3) (zI s 36 0) (zI s 41 (zI s 36 3)))) → rng ((zI s 36 3) + 1) ∧ ((0 ≤ ((zI s 36 3) + 1) → ((zI s 36 3) + 1) < (zI s 36 0) → ((zI s 36 3) + 1) < 80) ∧ (rng (zdg (zsg ((zI s 36 3) + 1) (zI s 36 0) (zI s 41 ((zI s 36 3) + 1)))) ∧ (((zdg (zsg ((zI s 36 3) + 1) (zI s 36 0) (zI s 41 ((zI s 36 3) + 1)))) = (-1) → Q (rI (20 + (zdg (zsg (zI s 36 3) (zI s 36 0) (zI s 41 (zI s 36 3)))))) (zwI s 36 3 ((zI s 36 3) + 1))) ∧ ((zdg (zsg ((zI s 36 3) + 1) (zI s 36 0) (zI s 41 ((zI s 36 3) + 1)))) ≠ (-1) → rng (((zdg (zsg (zI s 36 3) (zI s 36 0) (zI s 41 (zI s 36 3)))) * 10) + (zdg (zsg ((zI s 36 3) + 1) (zI s 36 0) (zI s 41 ((zI s 36 3) + 1))))) ∧ ((16 < (((zdg (zsg (zI s 36 3) (zI s 36 0) (zI s 41 (zI s 36 3)))) * 10) + (zdg (zsg ((zI s 36 3) + 1) (zI s 36 0) (zI s 41 ((zI s 36 3) + 1))))) → Q (rI (20 + (zdg (zsg (zI s 36 3) (zI s 36 0) (zI s 41 (zI s 36 3)))))) (zwI s 36 3 ((zI s 36 3) + 1))) ∧ ((((zdg (zsg (zI s 36 3) (zI s 36 0) (zI s 41 (zI s 36 3)))) * 10) + (zdg (zsg ((zI s 36 3) + 1) (zI s 36 0) (zI s 41 ((zI s 36 3) + 1))))) ≤ 16 → rng (((zI s 36 3) + 1) + 1) ∧ (Q (rI (20 + (((zdg (zsg (zI s 36 3) (zI s 36 0) (zI s 41 (zI s 36 3)))) * 10) + (zdg (zsg ((zI s 36 3) + 1) (zI s 36 0) (zI s 41 ((zI s 36 3) + 1))))))) (zwI (zwI s 36 3 ((zI s 36 3) + 1)) 36 3 (((zI s 36 3) + 1) + 1)))))))))) ∧ ((zdg (zsg (zI s 36 3) (zI s 36 0) (zI s 41 (zI s 36 3)))) < 1 → Q (rI (-1)) s)))) :
    wp S 99 0 [(0, rf 36)] [] s Q := by
  refine i_aload_n (a := 36) r_99_0 (n_99_0 _) rfl ?_
  obtain ⟨g1, h⟩ := h
  refine wp_virt (b := 36) (rest := []) (Ls := [(0, rf 36)]) r_99_1 (n_99_1 _) rfl ⟨rfl, rfl, by decide, by decide⟩ rfl rfl lf_36 ⟨rfl, Nat.le_of_ble_eq_true rfl, Nat.le_of_ble_eq_true rfl⟩ rfl (K_Text_digit g1) ?_
  rintro _ _ ⟨rfl, rfl⟩
  refine .inl ⟨some (iv (zdg (zsg (zI s 36 3) (zI s 36 0) (zI s 41 (zI s 36 3))))), rfl, ?_⟩
  show wp S 99 4 [(0, rf 36)] [iv (zdg (zsg (zI s 36 3) (zI s 36 0) (zI s 41 (zI s 36 3))))] s Q
  refine i_istore_n (l' := [(0, rf 36), (1, iv (zdg (zsg (zI s 36 3) (zI s 36 0) (zI s 41 (zI s 36 3)))))]) r_99_4 (n_99_4 _) (by decide) rfl ?_
  refine i_iload_n (x := zdg (zsg (zI s 36 3) (zI s 36 0) (zI s 41 (zI s 36 3)))) r_99_5 (n_99_5 _) rfl ?_
  refine i_iconst r_99_6 (n_99_6 _) ?_
  obtain ⟨g3, h⟩ := h
  refine i_icmp (t := 12) r_99_7 (n_99_7 _) rfl (T_ge g3 ⟨by omega, by omega⟩) (fun c4 => ?_) (fun c4 => ?_)
  · replace h := h.1 c4
    refine i_aload_n (a := 36) r_99_12 (n_99_12 _) rfl ?_
    refine i_dup r_99_13 (n_99_13 _) rfl ?_
    refine i_getI (a := 36) r_99_14 (n_99_14 _) rfl (by decide) lf_36 (fun q5 => ?_)
    refine i_iconst r_99_17 (n_99_17 _) ?_
    refine i_iadd r_99_18 (n_99_18 _) ?_
    obtain ⟨g6, h⟩ := h
    refine i_putI (a := 36) (x := (zI s 36 3) + 1) r_99_19 (n_99_19 _) rfl (.inl rfl) rfl lf_36 g6 ?_
    refine i_aload_n (a := 36) r_99_22 (n_99_22 _) rfl ?_
    have e7 : zI (zwI s 36 3 ((zI s 36 3) + 1)) 36 3 = (zI s 36 3) + 1 := zI_eq
    have e8 : zI (zwI s 36 3 ((zI s 36 3) + 1)) 36 0 = zI s 36 0 := zI_nj (by omega)
    have e9 : zI (zwI s 36 3 ((zI s 36 3) + 1)) 41 ((zI s 36 3) + 1) = zI s 41 ((zI s 36 3) + 1) := zI_ne (by omega)
    obtain ⟨g10, h⟩ := h
    refine wp_virt (b := 36) (rest := []) (Ls := [(0, rf 36)]) r_99_23 (n_99_23 _) rfl ⟨rfl, rfl, by decide, by decide⟩ rfl rfl lf_36 ⟨rfl, Nat.le_of_ble_eq_true rfl, Nat.le_of_ble_eq_true rfl⟩ rfl (K_Text_digit (by (try rw [e7]); (try rw [e8]); (try rw [e9]); exact g10)) ?_
    rintro _ _ ⟨rfl, rfl⟩
    refine .inl ⟨some (iv (zdg (zsg ((zI s 36 3) + 1) (zI s 36 0) (zI s 41 ((zI s 36 3) + 1))))), by (try rw [e7]); (try rw [e8]); (try rw [e9]); (try rfl), ?_⟩
    show wp S 99 26 [(0, rf 36), (1, iv (zdg (zsg (zI s 36 3) (zI s 36 0) (zI s 41 (zI s 36 3)))))] [iv (zdg (zsg ((zI s 36 3) + 1) (zI s 36 0) (zI s 41 ((zI s 36 3) + 1))))] (zwI s 36 3 ((zI s 36 3) + 1)) Q
    refine i_istore_n (l' := [(0, rf 36), (1, iv (zdg (zsg (zI s 36 3) (zI s 36 0) (zI s 41 (zI s 36 3))))), (2, iv (zdg (zsg ((zI s 36 3) + 1) (zI s 36 0) (zI s 41 ((zI s 36 3) + 1)))))]) r_99_26 (n_99_26 _) (by decide) rfl ?_
    refine i_iload_n (x := zdg (zsg ((zI s 36 3) + 1) (zI s 36 0) (zI s 41 ((zI s 36 3) + 1)))) r_99_27 (n_99_27 _) rfl ?_
    refine i_iconst r_99_28 (n_99_28 _) ?_
    obtain ⟨g12, h⟩ := h
    refine i_icmp (t := 60) r_99_29 (n_99_29 _) rfl (T_eq g12 ⟨by omega, by omega⟩) (fun c13 => ?_) (fun c13 => ?_)
    · replace h := h.1 c13
      refine i_bipush r_99_60 (n_99_60 _) rfl ?_
      refine i_iload_n (x := zdg (zsg (zI s 36 3) (zI s 36 0) (zI s 41 (zI s 36 3)))) r_99_62 (n_99_62 _) rfl ?_
      refine i_iadd r_99_63 (n_99_63 _) ?_
      exact i_ireturn r_99_64 (n_99_64 _) rfl h
    · replace h := h.2 c13
      refine i_iload_n (x := zdg (zsg (zI s 36 3) (zI s 36 0) (zI s 41 (zI s 36 3)))) r_99_32 (n_99_32 _) rfl ?_
      refine i_bipush r_99_33 (n_99_33 _) rfl ?_
      refine i_imul r_99_35 (n_99_35 _) ?_
      refine i_iload_n (x := zdg (zsg ((zI s 36 3) + 1) (zI s 36 0) (zI s 41 ((zI s 36 3) + 1)))) r_99_36 (n_99_36 _) rfl ?_
      refine i_iadd r_99_37 (n_99_37 _) ?_
      refine i_bipush r_99_38 (n_99_38 _) rfl ?_
      obtain ⟨g14, h⟩ := h
      refine i_icmp (t := 60) r_99_40 (n_99_40 _) rfl (T_gt g14 ⟨by omega, by omega⟩) (fun c15 => ?_) (fun c15 => ?_)
      · replace h := h.1 c15
        refine i_bipush r_99_60 (n_99_60 _) rfl ?_
        refine i_iload_n (x := zdg (zsg (zI s 36 3) (zI s 36 0) (zI s 41 (zI s 36 3)))) r_99_62 (n_99_62 _) rfl ?_
        refine i_iadd r_99_63 (n_99_63 _) ?_
        exact i_ireturn r_99_64 (n_99_64 _) rfl h
      · replace h := h.2 c15
        refine i_aload_n (a := 36) r_99_43 (n_99_43 _) rfl ?_
        refine i_dup r_99_44 (n_99_44 _) rfl ?_
        have e17 : zI (zwI s 36 3 ((zI s 36 3) + 1)) 36 3 = (zI s 36 3) + 1 := zI_eq
        refine i_getIe (a := 36) (x := (zI s 36 3) + 1) r_99_45 (n_99_45 _) rfl (by decide) lf_36 e17 (fun q16 => ?_)
        refine i_iconst r_99_48 (n_99_48 _) ?_
        refine i_iadd r_99_49 (n_99_49 _) ?_
        obtain ⟨g18, h⟩ := h
        refine i_putI (a := 36) (x := ((zI s 36 3) + 1) + 1) r_99_50 (n_99_50 _) rfl (.inl rfl) rfl lf_36 g18 ?_
        refine i_iload_n (x := zdg (zsg (zI s 36 3) (zI s 36 0) (zI s 41 (zI s 36 3)))) r_99_53 (n_99_53 _) rfl ?_
        refine i_bipush r_99_54 (n_99_54 _) rfl ?_
        refine i_imul r_99_56 (n_99_56 _) ?_
        refine i_iload_n (x := zdg (zsg ((zI s 36 3) + 1) (zI s 36 0) (zI s 41 ((zI s 36 3) + 1)))) r_99_57 (n_99_57 _) rfl ?_
        refine i_iadd r_99_58 (n_99_58 _) ?_
        refine i_istore_n (l' := [(0, rf 36), (1, iv (((zdg (zsg (zI s 36 3) (zI s 36 0) (zI s 41 (zI s 36 3)))) * 10) + (zdg (zsg ((zI s 36 3) + 1) (zI s 36 0) (zI s 41 ((zI s 36 3) + 1)))))), (2, iv (zdg (zsg ((zI s 36 3) + 1) (zI s 36 0) (zI s 41 ((zI s 36 3) + 1)))))]) r_99_59 (n_99_59 _) (by decide) rfl ?_
        refine i_bipush r_99_60 (n_99_60 _) rfl ?_
        refine i_iload_n (x := ((zdg (zsg (zI s 36 3) (zI s 36 0) (zI s 41 (zI s 36 3)))) * 10) + (zdg (zsg ((zI s 36 3) + 1) (zI s 36 0) (zI s 41 ((zI s 36 3) + 1))))) r_99_62 (n_99_62 _) rfl ?_
        refine i_iadd r_99_63 (n_99_63 _) ?_
        exact i_ireturn r_99_64 (n_99_64 _) rfl h
  · replace h := h.2 c4
    refine i_iconst r_99_10 (n_99_10 _) ?_
    exact i_ireturn r_99_11 (n_99_11 _) rfl h
theorem r_100_0 : xfetch 100 0 = some (.iload_n 1, 1) := by decide +kernel
theorem n_100_0 : ∀ l, xpr 100 0 l = l := xpr_no (by decide +kernel)
theorem r_100_1 : xfetch 100 1 = some (.invokestatic 88, 3) := by decide +kernel
theorem n_100_1 : ∀ l, xpr 100 1 l = l := xpr_no (by decide +kernel)
theorem r_100_4 : xfetch 100 4 = some (.ifCond .ne 12, 3) := by decide +kernel
theorem n_100_4 : ∀ l, xpr 100 4 l = l := xpr_no (by decide +kernel)
theorem r_100_7 : xfetch 100 7 = some (.aload_n 0, 1) := by decide +kernel
theorem n_100_7 : ∀ l, xpr 100 7 l = l := xpr_no (by decide +kernel)
theorem r_100_8 : xfetch 100 8 = some (.bipush 91, 2) := by decide +kernel
theorem n_100_8 : ∀ l, xpr 100 8 l = l := xpr_no (by decide +kernel)
theorem r_100_10 : xfetch 100 10 = some (.invokevirtual 51, 3) := by decide +kernel
theorem n_100_10 : ∀ l, xpr 100 10 l = l := xpr_no (by decide +kernel)
theorem r_100_13 : xfetch 100 13 = some (.ifCond .ne 5, 3) := by decide +kernel
theorem n_100_13 : ∀ l, xpr 100 13 l = l := xpr_no (by decide +kernel)
theorem r_100_16 : xfetch 100 16 = some (.iconst 1, 1) := by decide +kernel
theorem n_100_16 : ∀ l, xpr 100 16 l = l := xpr_no (by decide +kernel)
theorem r_100_17 : xfetch 100 17 = some (.ireturn, 1) := by decide +kernel
theorem n_100_17 : ∀ l, xpr 100 17 l = l := xpr_no (by decide +kernel)
theorem r_100_18 : xfetch 100 18 = some (.aload_n 0, 1) := by decide +kernel
theorem n_100_18 : ∀ l, xpr 100 18 l = l := xpr_no (by decide +kernel)
theorem r_100_19 : xfetch 100 19 = some (.invokevirtual 85, 3) := by decide +kernel
theorem n_100_19 : ∀ l, xpr 100 19 l = l := xpr_no (by decide +kernel)
theorem r_100_22 : xfetch 100 22 = some (.istore_n 2, 1) := by decide +kernel
theorem n_100_22 : ∀ l, xpr 100 22 l = l := xpr_no (by decide +kernel)
theorem r_100_23 : xfetch 100 23 = some (.iload_n 2, 1) := by decide +kernel
theorem n_100_23 : ∀ l, xpr 100 23 l = l := xpr_no (by decide +kernel)
theorem r_100_24 : xfetch 100 24 = some (.iconst 1, 1) := by decide +kernel
theorem n_100_24 : ∀ l, xpr 100 24 l = l := xpr_no (by decide +kernel)
theorem r_100_25 : xfetch 100 25 = some (.if_icmp .lt 8, 3) := by decide +kernel
theorem n_100_25 : ∀ l, xpr 100 25 l = l := xpr_no (by decide +kernel)
theorem r_100_28 : xfetch 100 28 = some (.iload_n 2, 1) := by decide +kernel
theorem n_100_28 : ∀ l, xpr 100 28 l = l := xpr_no (by decide +kernel)
theorem r_100_29 : xfetch 100 29 = some (.iconst 4, 1) := by decide +kernel
theorem n_100_29 : ∀ l, xpr 100 29 l = l := xpr_no (by decide +kernel)
theorem r_100_30 : xfetch 100 30 = some (.if_icmp .le 5, 3) := by decide +kernel
theorem n_100_30 : ∀ l, xpr 100 30 l = l := xpr_no (by decide +kernel)
theorem r_100_33 : xfetch 100 33 = some (.iconst (-1), 1) := by decide +kernel
theorem n_100_33 : ∀ l, xpr 100 33 l = l := xpr_no (by decide +kernel)
theorem r_100_34 : xfetch 100 34 = some (.ireturn, 1) := by decide +kernel
theorem n_100_34 : ∀ l, xpr 100 34 l = l := xpr_no (by decide +kernel)
theorem r_100_35 : xfetch 100 35 = some (.aload_n 0, 1) := by decide +kernel
theorem n_100_35 : ∀ l, xpr 100 35 l = l := xpr_no (by decide +kernel)
theorem r_100_36 : xfetch 100 36 = some (.dup, 1) := by decide +kernel
theorem n_100_36 : ∀ l, xpr 100 36 l = l := xpr_no (by decide +kernel)
theorem r_100_37 : xfetch 100 37 = some (.getfield 26, 3) := by decide +kernel
theorem n_100_37 : ∀ l, xpr 100 37 l = l := xpr_no (by decide +kernel)
theorem r_100_40 : xfetch 100 40 = some (.iconst 1, 1) := by decide +kernel
theorem n_100_40 : ∀ l, xpr 100 40 l = l := xpr_no (by decide +kernel)
theorem r_100_41 : xfetch 100 41 = some (.iadd, 1) := by decide +kernel
theorem n_100_41 : ∀ l, xpr 100 41 l = l := xpr_no (by decide +kernel)
theorem r_100_42 : xfetch 100 42 = some (.putfield 26, 3) := by decide +kernel
theorem n_100_42 : ∀ l, xpr 100 42 l = l := xpr_no (by decide +kernel)
theorem r_100_45 : xfetch 100 45 = some (.aload_n 0, 1) := by decide +kernel
theorem n_100_45 : ∀ l, xpr 100 45 l = l := xpr_no (by decide +kernel)
theorem r_100_46 : xfetch 100 46 = some (.bipush 93, 2) := by decide +kernel
theorem n_100_46 : ∀ l, xpr 100 46 l = l := xpr_no (by decide +kernel)
theorem r_100_48 : xfetch 100 48 = some (.invokevirtual 51, 3) := by decide +kernel
theorem n_100_48 : ∀ l, xpr 100 48 l = l := xpr_no (by decide +kernel)
theorem r_100_51 : xfetch 100 51 = some (.ifCond .eq 7, 3) := by decide +kernel
theorem n_100_51 : ∀ l, xpr 100 51 l = l := xpr_no (by decide +kernel)
theorem r_100_54 : xfetch 100 54 = some (.iload_n 2, 1) := by decide +kernel
theorem n_100_54 : ∀ l, xpr 100 54 l = l := xpr_no (by decide +kernel)
theorem r_100_55 : xfetch 100 55 = some (.goto 4, 3) := by decide +kernel
theorem n_100_55 : ∀ l, xpr 100 55 l = l := xpr_no (by decide +kernel)
theorem r_100_58 : xfetch 100 58 = some (.iconst (-1), 1) := by decide +kernel
theorem n_100_58 : ∀ l, xpr 100 58 l = l := xpr_no (by decide +kernel)
theorem r_100_59 : xfetch 100 59 = some (.ireturn, 1) := by decide +kernel
theorem n_100_59 : ∀ l, xpr 100 59 l = l := xpr_no (by decide +kernel)
theorem v_Text_readCount_0 {S : Option (Nat × (Nat → Int32))} {s : zSt} {Q : Option Value ⊕ Nat → zSt → Prop} {x1 : Int} 
    (h : rng x1 ∧ ((20 < x1 ∧ x1 ≤ 36 → Q (rI 1) s) ∧ (¬ (20 < x1 ∧ x1 ≤ 36) → (0 ≤ zI s 36 3 → zI s 36 3 < zI s 36 0 → zI s 36 3 < 80) ∧ (rng (zI s 36 3 + 1) ∧ ((zsg (zI s 36 3) (zI s 36 0) (zI s 41 (zI s 36 3)) = 91 → (0 ≤ (zI s 36 3 + 1) → (zI s 36 3 + 1) < (zI s 36 0) → (zI s 36 3 + 1) < 80) ∧ (rng (zdg (zsg (zI s 36 3 + 1) (zI s 36 0) (zI s 41 (zI s 36 3 + 1)))) ∧ (((zdg (zsg (zI s 36 3 + 1) (zI s 36 0) (zI s 41 (zI s 36 3 + 1)))) < 1 → Q (rI (-1)) (zwI s 36 3 (zI s 36 3 + 1))) ∧ (1 ≤ (zdg (zsg (zI s 36 3 + 1) (zI s 36 0) (zI s 41 (zI s 36 3 + 1)))) → ((zdg (zsg (zI s 36 3 + 1) (zI s 36 0) (zI s 41 (zI s 36 3 + 1)))) ≤ 4 → rng ((zI s 36 3 + 1) + 1) ∧ ((0 ≤ ((zI s 36 3 + 1) + 1) → ((zI s 36 3 + 1) + 1) < (zI s 36 0) → ((zI s 36 3 + 1) + 1) < 80) ∧ (rng (((zI s 36 3 + 1) + 1) + 1) ∧ ((zsg ((zI s 36 3 + 1) + 1) (zI s 36 0) (zI s 41 ((zI s 36 3 + 1) + 1)) = 93 → Q (rI (zdg (zsg (zI s 36 3 + 1) (zI s 36 0) (zI s 41 (zI s 36 3 + 1))))) (zwI (zwI (zwI s 36 3 (zI s 36 3 + 1)) 36 3 ((zI s 36 3 + 1) + 1)) 36 3 (((zI s 36 3 + 1) + 1) + 1))) ∧ ((zsg ((zI s 36 3 + 1) + 1) (zI s 36 0) (zI s 41 ((zI s 36 3 + 1) + 1)) ≠ 93 → Q (rI (-1)) (zwI (zwI s 36 3 (zI s 36 3 + 1)) 36 3 ((zI s 36 3 + 1) + 1)))))))) ∧ (4 < (zdg (zsg (zI s 36 3 + 1) (zI s 36 0) (zI s 41 (zI s 36 3 + 1)))) → Q (rI (-1)) (zwI s 36 3 (zI s 36 3 + 1))))))) ∧ ((zsg (zI s 36 3) (zI s 36 0) (zI s 41 (zI s 36 3)) ≠ 91 → Q (rI 1) s))))))) :
    wp S 100 0 [(0, rf 36), (1, iv x1)] [] s Q := by
  refine i_iload_n (x := x1) r_100_0 (n_100_0 _) rfl ?_
  obtain ⟨g1, h⟩ := h
  refine wp_stat (rest := []) (Ls := [(0, iv x1)]) r_100_1 (n_100_1 _) rfl ⟨rfl, by decide, by decide, by decide⟩ rfl rfl ⟨rfl, Nat.le_of_ble_eq_true rfl, Nat.le_of_ble_eq_true rfl⟩ rfl (K_RL_isBits g1) ?_
  rintro _ _ ⟨rfl, rfl⟩
  refine .inl ⟨some (iv (bi (20 < x1 ∧ x1 ≤ 36))), rfl, ?_⟩
  show wp S 100 4 [(0, rf 36), (1, iv x1)] [iv (bi (20 < x1 ∧ x1 ≤ 36))] s Q
  refine i_if (t := 16) r_100_4 (n_100_4 _) rfl (TB_ne) (fun c3 => ?_) (fun c3 => ?_)
  · replace h := h.1 c3
    refine i_iconst r_100_16 (n_100_16 _) ?_
    exact i_ireturn r_100_17 (n_100_17 _) rfl h
  · replace h := h.2 c3
    refine i_aload_n (a := 36) r_100_7 (n_100_7 _) rfl ?_
    refine i_bipush r_100_8 (n_100_8 _) rfl ?_
    obtain ⟨g4, h⟩ := h
    obtain ⟨g5, h⟩ := h
    refine wp_virt (b := 36) (rest := []) (Ls := [(0, rf 36), (1, iv 91)]) r_100_10 (n_100_10 _) rfl ⟨rfl, rfl, by decide, by decide⟩ rfl rfl lf_36 ⟨rfl, Nat.le_of_ble_eq_true rfl, Nat.le_of_ble_eq_true rfl⟩ rfl (K_Text_takes g4 ⟨by omega, by omega⟩ g5) ?_
    rintro _ _ (⟨c6, rfl, rfl⟩ | ⟨c6, rfl, rfl⟩)
    · replace h := h.1 c6
      refine .inl ⟨some (iv 1), rfl, ?_⟩
      show wp S 100 13 [(0, rf 36), (1, iv x1)] [iv 1] (zwI s 36 3 (zI s 36 3 + 1)) Q
      refine i_if (t := 18) r_100_13 (n_100_13 _) rfl (T_ne ⟨by omega, by omega⟩ ⟨by omega, by omega⟩) (fun _ => ?_) (fun z => absurd z (by omega))
      refine i_aload_n (a := 36) r_100_18 (n_100_18 _) rfl ?_
      have e7 : zI (zwI s 36 3 (zI s 36 3 + 1)) 36 3 = zI s 36 3 + 1 := zI_eq
      have e8 : zI (zwI s 36 3 (zI s 36 3 + 1)) 36 0 = zI s 36 0 := zI_nj (by omega)
      have e9 : zI (zwI s 36 3 (zI s 36 3 + 1)) 41 (zI s 36 3 + 1) = zI s 41 (zI s 36 3 + 1) := zI_ne (by omega)
      obtain ⟨g10, h⟩ := h
      refine wp_virt (b := 36) (rest := []) (Ls := [(0, rf 36)]) r_100_19 (n_100_19 _) rfl ⟨rfl, rfl, by decide, by decide⟩ rfl rfl lf_36 ⟨rfl, Nat.le_of_ble_eq_true rfl, Nat.le_of_ble_eq_true rfl⟩ rfl (K_Text_digit (by (try rw [e7]); (try rw [e8]); (try rw [e9]); exact g10)) ?_
      rintro _ _ ⟨rfl, rfl⟩
      refine .inl ⟨some (iv (zdg (zsg (zI s 36 3 + 1) (zI s 36 0) (zI s 41 (zI s 36 3 + 1))))), by (try rw [e7]); (try rw [e8]); (try rw [e9]); (try rfl), ?_⟩
      show wp S 100 22 [(0, rf 36), (1, iv x1)] [iv (zdg (zsg (zI s 36 3 + 1) (zI s 36 0) (zI s 41 (zI s 36 3 + 1))))] (zwI s 36 3 (zI s 36 3 + 1)) Q
      refine i_istore_n (l' := [(0, rf 36), (1, iv x1), (2, iv (zdg (zsg (zI s 36 3 + 1) (zI s 36 0) (zI s 41 (zI s 36 3 + 1)))))]) r_100_22 (n_100_22 _) (by decide) rfl ?_
      refine i_iload_n (x := zdg (zsg (zI s 36 3 + 1) (zI s 36 0) (zI s 41 (zI s 36 3 + 1)))) r_100_23 (n_100_23 _) rfl ?_
      refine i_iconst r_100_24 (n_100_24 _) ?_
      obtain ⟨g12, h⟩ := h
      refine i_icmp (t := 33) r_100_25 (n_100_25 _) rfl (T_lt g12 ⟨by omega, by omega⟩) (fun c13 => ?_) (fun c13 => ?_)
      · replace h := h.1 c13
        refine i_iconst r_100_33 (n_100_33 _) ?_
        exact i_ireturn r_100_34 (n_100_34 _) rfl h
      · replace h := h.2 c13
        refine i_iload_n (x := zdg (zsg (zI s 36 3 + 1) (zI s 36 0) (zI s 41 (zI s 36 3 + 1)))) r_100_28 (n_100_28 _) rfl ?_
        refine i_iconst r_100_29 (n_100_29 _) ?_
        refine i_icmp (t := 35) r_100_30 (n_100_30 _) rfl (T_le g12 ⟨by omega, by omega⟩) (fun c14 => ?_) (fun c14 => ?_)
        · replace h := h.1 c14
          refine i_aload_n (a := 36) r_100_35 (n_100_35 _) rfl ?_
          refine i_dup r_100_36 (n_100_36 _) rfl ?_
          have e16 : zI (zwI s 36 3 (zI s 36 3 + 1)) 36 3 = zI s 36 3 + 1 := zI_eq
          refine i_getIe (a := 36) (x := zI s 36 3 + 1) r_100_37 (n_100_37 _) rfl (by decide) lf_36 e16 (fun q15 => ?_)
          refine i_iconst r_100_40 (n_100_40 _) ?_
          refine i_iadd r_100_41 (n_100_41 _) ?_
          obtain ⟨g17, h⟩ := h
          refine i_putI (a := 36) (x := (zI s 36 3 + 1) + 1) r_100_42 (n_100_42 _) rfl (.inl rfl) rfl lf_36 g17 ?_
          refine i_aload_n (a := 36) r_100_45 (n_100_45 _) rfl ?_
          refine i_bipush r_100_46 (n_100_46 _) rfl ?_
          have e18 : zI (zwI (zwI s 36 3 (zI s 36 3 + 1)) 36 3 ((zI s 36 3 + 1) + 1)) 36 3 = (zI s 36 3 + 1) + 1 := zI_eq
          have e19 : zI (zwI (zwI s 36 3 (zI s 36 3 + 1)) 36 3 ((zI s 36 3 + 1) + 1)) 36 0 = zI s 36 0 := (zI_nj (by omega)).trans (zI_nj (by omega))
          have e20 : zI (zwI (zwI s 36 3 (zI s 36 3 + 1)) 36 3 ((zI s 36 3 + 1) + 1)) 41 ((zI s 36 3 + 1) + 1) = zI s 41 ((zI s 36 3 + 1) + 1) := (zI_ne (by omega)).trans (zI_ne (by omega))
          obtain ⟨g21, h⟩ := h
          obtain ⟨g22, h⟩ := h
          refine wp_virt (b := 36) (rest := []) (Ls := [(0, rf 36), (1, iv 93)]) r_100_48 (n_100_48 _) rfl ⟨rfl, rfl, by decide, by decide⟩ rfl rfl lf_36 ⟨rfl, Nat.le_of_ble_eq_true rfl, Nat.le_of_ble_eq_true rfl⟩ rfl (K_Text_takes (by (try rw [e18]); (try rw [e19]); (try rw [e20]); exact g21) (by (try rw [e18]); (try rw [e19]); (try rw [e20]); exact ⟨by omega, by omega⟩) (by (try rw [e18]); (try rw [e19]); (try rw [e20]); exact g22)) ?_
          rintro _ _ (⟨c23, rfl, rfl⟩ | ⟨c23, rfl, rfl⟩)
          · (try rw [e18] at c23); (try rw [e19] at c23); (try rw [e20] at c23); replace h := h.1 c23
            refine .inl ⟨some (iv 1), by (try rw [e18]); (try rw [e19]); (try rw [e20]); (try rfl), ?_⟩
            (try rw [e18]); (try rw [e19]); (try rw [e20])
            show wp S 100 51 [(0, rf 36), (1, iv x1), (2, iv (zdg (zsg (zI s 36 3 + 1) (zI s 36 0) (zI s 41 (zI s 36 3 + 1)))))] [iv 1] (zwI (zwI (zwI s 36 3 (zI s 36 3 + 1)) 36 3 ((zI s 36 3 + 1) + 1)) 36 3 (((zI s 36 3 + 1) + 1) + 1)) Q
            refine i_if (t := 58) r_100_51 (n_100_51 _) rfl (T_eq ⟨by omega, by omega⟩ ⟨by omega, by omega⟩) (fun z => absurd z (by omega)) (fun _ => ?_)
            refine i_iload_n (x := zdg (zsg (zI s 36 3 + 1) (zI s 36 0) (zI s 41 (zI s 36 3 + 1)))) r_100_54 (n_100_54 _) rfl ?_
            refine i_goto (t := 59) r_100_55 (n_100_55 _) rfl ?_
            exact i_ireturn r_100_59 (n_100_59 _) rfl h
          · (try rw [e18] at c23); (try rw [e19] at c23); (try rw [e20] at c23); replace h := h.2 c23
            refine .inl ⟨some (iv 0), by (try rw [e18]); (try rw [e19]); (try rw [e20]); (try rfl), ?_⟩
            show wp S 100 51 [(0, rf 36), (1, iv x1), (2, iv (zdg (zsg (zI s 36 3 + 1) (zI s 36 0) (zI s 41 (zI s 36 3 + 1)))))] [iv 0] (zwI (zwI s 36 3 (zI s 36 3 + 1)) 36 3 ((zI s 36 3 + 1) + 1)) Q
            refine i_if (t := 58) r_100_51 (n_100_51 _) rfl (T_eq ⟨by omega, by omega⟩ ⟨by omega, by omega⟩) (fun _ => ?_) (fun z => absurd z (by omega))
            refine i_iconst r_100_58 (n_100_58 _) ?_
            exact i_ireturn r_100_59 (n_100_59 _) rfl h
        · replace h := h.2 c14
          refine i_iconst r_100_33 (n_100_33 _) ?_
          exact i_ireturn r_100_34 (n_100_34 _) rfl h
    · replace h := h.2 c6
      refine .inl ⟨some (iv 0), rfl, ?_⟩
      show wp S 100 13 [(0, rf 36), (1, iv x1)] [iv 0] s Q
      refine i_if (t := 18) r_100_13 (n_100_13 _) rfl (T_ne ⟨by omega, by omega⟩ ⟨by omega, by omega⟩) (fun z => absurd z (by omega)) (fun _ => ?_)
      refine i_iconst r_100_16 (n_100_16 _) ?_
      exact i_ireturn r_100_17 (n_100_17 _) rfl h
theorem r_102_0 : xfetch 102 0 = some (.aload_n 0, 1) := by decide +kernel
theorem n_102_0 : ∀ l, xpr 102 0 l = l := xpr_no (by decide +kernel)
theorem r_102_1 : xfetch 102 1 = some (.iload_n 1, 1) := by decide +kernel
theorem n_102_1 : ∀ l, xpr 102 1 l = l := xpr_no (by decide +kernel)
theorem r_102_2 : xfetch 102 2 = some (.invokevirtual 95, 3) := by decide +kernel
theorem n_102_2 : ∀ l, xpr 102 2 l = l := xpr_no (by decide +kernel)
theorem r_102_5 : xfetch 102 5 = some (.iload_n 2, 1) := by decide +kernel
theorem n_102_5 : ∀ l, xpr 102 5 l = l := xpr_no (by decide +kernel)
theorem r_102_6 : xfetch 102 6 = some (.iconst 1, 1) := by decide +kernel
theorem n_102_6 : ∀ l, xpr 102 6 l = l := xpr_no (by decide +kernel)
theorem r_102_7 : xfetch 102 7 = some (.if_icmp .lt 9, 3) := by decide +kernel
theorem n_102_7 : ∀ l, xpr 102 7 l = l := xpr_no (by decide +kernel)
theorem r_102_10 : xfetch 102 10 = some (.iload_n 2, 1) := by decide +kernel
theorem n_102_10 : ∀ l, xpr 102 10 l = l := xpr_no (by decide +kernel)
theorem r_102_11 : xfetch 102 11 = some (.bipush 12, 2) := by decide +kernel
theorem n_102_11 : ∀ l, xpr 102 11 l = l := xpr_no (by decide +kernel)
theorem r_102_13 : xfetch 102 13 = some (.if_icmp .le 13, 3) := by decide +kernel
theorem n_102_13 : ∀ l, xpr 102 13 l = l := xpr_no (by decide +kernel)
theorem r_102_16 : xfetch 102 16 = some (.new 102, 3) := by decide +kernel
theorem n_102_16 : ∀ l, xpr 102 16 l = l := xpr_no (by decide +kernel)
theorem r_102_26 : xfetch 102 26 = some (.iload_n 3, 1) := by decide +kernel
theorem n_102_26 : ∀ l, xpr 102 26 l = l := xpr_no (by decide +kernel)
theorem r_102_27 : xfetch 102 27 = some (.invokestatic 229, 3) := by decide +kernel
theorem n_102_27 : ∀ l, xpr 102 27 l = l := xpr_no (by decide +kernel)
theorem r_102_30 : xfetch 102 30 = some (.iload 4, 2) := by decide +kernel
theorem n_102_30 : ∀ l, xpr 102 30 l = l := xpr_no (by decide +kernel)
theorem r_102_32 : xfetch 102 32 = some (.invokestatic 232, 3) := by decide +kernel
theorem n_102_32 : ∀ l, xpr 102 32 l = l := xpr_no (by decide +kernel)
theorem r_102_35 : xfetch 102 35 = some (.aload_n 0, 1) := by decide +kernel
theorem n_102_35 : ∀ l, xpr 102 35 l = l := xpr_no (by decide +kernel)
theorem r_102_36 : xfetch 102 36 = some (.iload_n 1, 1) := by decide +kernel
theorem n_102_36 : ∀ l, xpr 102 36 l = l := xpr_no (by decide +kernel)
theorem r_102_37 : xfetch 102 37 = some (.invokevirtual 235, 3) := by decide +kernel
theorem n_102_37 : ∀ l, xpr 102 37 l = l := xpr_no (by decide +kernel)
theorem r_102_40 : xfetch 102 40 = some (.aload_n 0, 1) := by decide +kernel
theorem n_102_40 : ∀ l, xpr 102 40 l = l := xpr_no (by decide +kernel)
theorem r_102_41 : xfetch 102 41 = some (.invokevirtual 238, 3) := by decide +kernel
theorem n_102_41 : ∀ l, xpr 102 41 l = l := xpr_no (by decide +kernel)
theorem r_102_44 : xfetch 102 44 = some (.istore 5, 2) := by decide +kernel
theorem n_102_44 : ∀ l, xpr 102 44 l = l := xpr_no (by decide +kernel)
theorem r_102_46 : xfetch 102 46 = some (.iload 5, 2) := by decide +kernel
theorem n_102_46 : ∀ l, xpr 102 46 l = l := xpr_no (by decide +kernel)
theorem r_102_48 : xfetch 102 48 = some (.iconst (-1), 1) := by decide +kernel
theorem n_102_48 : ∀ l, xpr 102 48 l = l := xpr_no (by decide +kernel)
theorem r_102_49 : xfetch 102 49 = some (.if_icmp .ne 13, 3) := by decide +kernel
theorem n_102_49 : ∀ l, xpr 102 49 l = l := xpr_no (by decide +kernel)
theorem r_102_52 : xfetch 102 52 = some (.new 137, 3) := by decide +kernel
theorem n_102_52 : ∀ l, xpr 102 52 l = l := xpr_no (by decide +kernel)
theorem r_102_62 : xfetch 102 62 = some (.aload_n 0, 1) := by decide +kernel
theorem n_102_62 : ∀ l, xpr 102 62 l = l := xpr_no (by decide +kernel)
theorem r_102_63 : xfetch 102 63 = some (.getfield 51, 3) := by decide +kernel
theorem n_102_63 : ∀ l, xpr 102 63 l = l := xpr_no (by decide +kernel)
theorem r_102_66 : xfetch 102 66 = some (.aload_n 0, 1) := by decide +kernel
theorem n_102_66 : ∀ l, xpr 102 66 l = l := xpr_no (by decide +kernel)
theorem r_102_67 : xfetch 102 67 = some (.getfield 18, 3) := by decide +kernel
theorem n_102_67 : ∀ l, xpr 102 67 l = l := xpr_no (by decide +kernel)
theorem r_102_70 : xfetch 102 70 = some (.iload_n 1, 1) := by decide +kernel
theorem n_102_70 : ∀ l, xpr 102 70 l = l := xpr_no (by decide +kernel)
theorem r_102_71 : xfetch 102 71 = some (.aaload, 1) := by decide +kernel
theorem n_102_71 : ∀ l, xpr 102 71 l = l := xpr_no (by decide +kernel)
theorem r_102_72 : xfetch 102 72 = some (.iload_n 2, 1) := by decide +kernel
theorem n_102_72 : ∀ l, xpr 102 72 l = l := xpr_no (by decide +kernel)
theorem r_102_73 : xfetch 102 73 = some (.iload_n 3, 1) := by decide +kernel
theorem n_102_73 : ∀ l, xpr 102 73 l = l := xpr_no (by decide +kernel)
theorem r_102_74 : xfetch 102 74 = some (.invokevirtual 244, 3) := by decide +kernel
theorem n_102_74 : ∀ l, xpr 102 74 l = l := xpr_no (by decide +kernel)
theorem r_102_77 : xfetch 102 77 = some (.aload_n 0, 1) := by decide +kernel
theorem n_102_77 : ∀ l, xpr 102 77 l = l := xpr_no (by decide +kernel)
theorem r_102_78 : xfetch 102 78 = some (.aload_n 0, 1) := by decide +kernel
theorem n_102_78 : ∀ l, xpr 102 78 l = l := xpr_no (by decide +kernel)
theorem r_102_79 : xfetch 102 79 = some (.getfield 51, 3) := by decide +kernel
theorem n_102_79 : ∀ l, xpr 102 79 l = l := xpr_no (by decide +kernel)
theorem r_102_82 : xfetch 102 82 = some (.getfield 248, 3) := by decide +kernel
theorem n_102_82 : ∀ l, xpr 102 82 l = l := xpr_no (by decide +kernel)
theorem r_102_85 : xfetch 102 85 = some (.invokevirtual 251, 3) := by decide +kernel
theorem n_102_85 : ∀ l, xpr 102 85 l = l := xpr_no (by decide +kernel)
theorem r_102_88 : xfetch 102 88 = some (.istore 6, 2) := by decide +kernel
theorem n_102_88 : ∀ l, xpr 102 88 l = l := xpr_no (by decide +kernel)
theorem r_102_90 : xfetch 102 90 = some (.iload 6, 2) := by decide +kernel
theorem n_102_90 : ∀ l, xpr 102 90 l = l := xpr_no (by decide +kernel)
theorem r_102_92 : xfetch 102 92 = some (.iconst (-1), 1) := by decide +kernel
theorem n_102_92 : ∀ l, xpr 102 92 l = l := xpr_no (by decide +kernel)
theorem r_102_93 : xfetch 102 93 = some (.if_icmp .ne 13, 3) := by decide +kernel
theorem n_102_93 : ∀ l, xpr 102 93 l = l := xpr_no (by decide +kernel)
theorem r_102_96 : xfetch 102 96 = some (.new 137, 3) := by decide +kernel
theorem n_102_96 : ∀ l, xpr 102 96 l = l := xpr_no (by decide +kernel)
theorem r_102_106 : xfetch 102 106 = some (.aload_n 0, 1) := by decide +kernel
theorem n_102_106 : ∀ l, xpr 102 106 l = l := xpr_no (by decide +kernel)
theorem r_102_107 : xfetch 102 107 = some (.invokevirtual 77, 3) := by decide +kernel
theorem n_102_107 : ∀ l, xpr 102 107 l = l := xpr_no (by decide +kernel)
theorem r_102_110 : xfetch 102 110 = some (.aload_n 0, 1) := by decide +kernel
theorem n_102_110 : ∀ l, xpr 102 110 l = l := xpr_no (by decide +kernel)
theorem r_102_111 : xfetch 102 111 = some (.getfield 10, 3) := by decide +kernel
theorem n_102_111 : ∀ l, xpr 102 111 l = l := xpr_no (by decide +kernel)
theorem r_102_114 : xfetch 102 114 = some (.getfield 256, 3) := by decide +kernel
theorem n_102_114 : ∀ l, xpr 102 114 l = l := xpr_no (by decide +kernel)
theorem r_102_117 : xfetch 102 117 = some (.iload 5, 2) := by decide +kernel
theorem n_102_117 : ∀ l, xpr 102 117 l = l := xpr_no (by decide +kernel)
theorem r_102_119 : xfetch 102 119 = some (.aaload, 1) := by decide +kernel
theorem n_102_119 : ∀ l, xpr 102 119 l = l := xpr_no (by decide +kernel)
theorem r_102_120 : xfetch 102 120 = some (.astore 7, 2) := by decide +kernel
theorem n_102_120 : ∀ l, xpr 102 120 l = l := xpr_no (by decide +kernel)
theorem r_102_122 : xfetch 102 122 = some (.aload 7, 2) := by decide +kernel
theorem n_102_122 : ∀ l, xpr 102 122 l = l := xpr_no (by decide +kernel)
theorem r_102_124 : xfetch 102 124 = some (.iconst 1, 1) := by decide +kernel
theorem n_102_124 : ∀ l, xpr 102 124 l = l := xpr_no (by decide +kernel)
theorem r_102_125 : xfetch 102 125 = some (.putfield 260, 3) := by decide +kernel
theorem n_102_125 : ∀ l, xpr 102 125 l = l := xpr_no (by decide +kernel)
theorem r_102_128 : xfetch 102 128 = some (.aload 7, 2) := by decide +kernel
theorem n_102_128 : ∀ l, xpr 102 128 l = l := xpr_no (by decide +kernel)
theorem r_102_130 : xfetch 102 130 = some (.iload_n 1, 1) := by decide +kernel
theorem n_102_130 : ∀ l, xpr 102 130 l = l := xpr_no (by decide +kernel)
theorem r_102_131 : xfetch 102 131 = some (.putfield 266, 3) := by decide +kernel
theorem n_102_131 : ∀ l, xpr 102 131 l = l := xpr_no (by decide +kernel)
theorem r_102_134 : xfetch 102 134 = some (.aload 7, 2) := by decide +kernel
theorem n_102_134 : ∀ l, xpr 102 134 l = l := xpr_no (by decide +kernel)
theorem r_102_136 : xfetch 102 136 = some (.iload_n 2, 1) := by decide +kernel
theorem n_102_136 : ∀ l, xpr 102 136 l = l := xpr_no (by decide +kernel)
theorem r_102_137 : xfetch 102 137 = some (.putfield 269, 3) := by decide +kernel
theorem n_102_137 : ∀ l, xpr 102 137 l = l := xpr_no (by decide +kernel)
theorem r_102_140 : xfetch 102 140 = some (.aload 7, 2) := by decide +kernel
theorem n_102_140 : ∀ l, xpr 102 140 l = l := xpr_no (by decide +kernel)
theorem r_102_142 : xfetch 102 142 = some (.iload_n 3, 1) := by decide +kernel
theorem n_102_142 : ∀ l, xpr 102 142 l = l := xpr_no (by decide +kernel)
theorem r_102_143 : xfetch 102 143 = some (.putfield 272, 3) := by decide +kernel
theorem n_102_143 : ∀ l, xpr 102 143 l = l := xpr_no (by decide +kernel)
theorem r_102_146 : xfetch 102 146 = some (.aload 7, 2) := by decide +kernel
theorem n_102_146 : ∀ l, xpr 102 146 l = l := xpr_no (by decide +kernel)
theorem r_102_148 : xfetch 102 148 = some (.iload 4, 2) := by decide +kernel
theorem n_102_148 : ∀ l, xpr 102 148 l = l := xpr_no (by decide +kernel)
theorem r_102_150 : xfetch 102 150 = some (.putfield 275, 3) := by decide +kernel
theorem n_102_150 : ∀ l, xpr 102 150 l = l := xpr_no (by decide +kernel)
theorem r_102_153 : xfetch 102 153 = some (.aload 7, 2) := by decide +kernel
theorem n_102_153 : ∀ l, xpr 102 153 l = l := xpr_no (by decide +kernel)
theorem r_102_155 : xfetch 102 155 = some (.iload 6, 2) := by decide +kernel
theorem n_102_155 : ∀ l, xpr 102 155 l = l := xpr_no (by decide +kernel)
theorem r_102_157 : xfetch 102 157 = some (.putfield 277, 3) := by decide +kernel
theorem n_102_157 : ∀ l, xpr 102 157 l = l := xpr_no (by decide +kernel)
theorem r_102_160 : xfetch 102 160 = some (.aload 7, 2) := by decide +kernel
theorem n_102_160 : ∀ l, xpr 102 160 l = l := xpr_no (by decide +kernel)
theorem r_102_162 : xfetch 102 162 = some (.aload_n 0, 1) := by decide +kernel
theorem n_102_162 : ∀ l, xpr 102 162 l = l := xpr_no (by decide +kernel)
theorem r_102_163 : xfetch 102 163 = some (.getfield 51, 3) := by decide +kernel
theorem n_102_163 : ∀ l, xpr 102 163 l = l := xpr_no (by decide +kernel)
theorem r_102_166 : xfetch 102 166 = some (.getfield 248, 3) := by decide +kernel
theorem n_102_166 : ∀ l, xpr 102 166 l = l := xpr_no (by decide +kernel)
theorem r_102_169 : xfetch 102 169 = some (.putfield 280, 3) := by decide +kernel
theorem n_102_169 : ∀ l, xpr 102 169 l = l := xpr_no (by decide +kernel)
theorem r_102_172 : xfetch 102 172 = some (.aload_n 0, 1) := by decide +kernel
theorem n_102_172 : ∀ l, xpr 102 172 l = l := xpr_no (by decide +kernel)
theorem r_102_173 : xfetch 102 173 = some (.iload 6, 2) := by decide +kernel
theorem n_102_173 : ∀ l, xpr 102 173 l = l := xpr_no (by decide +kernel)
theorem r_102_175 : xfetch 102 175 = some (.aload_n 0, 1) := by decide +kernel
theorem n_102_175 : ∀ l, xpr 102 175 l = l := xpr_no (by decide +kernel)
theorem r_102_176 : xfetch 102 176 = some (.getfield 51, 3) := by decide +kernel
theorem n_102_176 : ∀ l, xpr 102 176 l = l := xpr_no (by decide +kernel)
theorem r_102_179 : xfetch 102 179 = some (.getfield 248, 3) := by decide +kernel
theorem n_102_179 : ∀ l, xpr 102 179 l = l := xpr_no (by decide +kernel)
theorem r_102_182 : xfetch 102 182 = some (.invokevirtual 281, 3) := by decide +kernel
theorem n_102_182 : ∀ l, xpr 102 182 l = l := xpr_no (by decide +kernel)
theorem r_102_185 : xfetch 102 185 = some (.iload 5, 2) := by decide +kernel
theorem n_102_185 : ∀ l, xpr 102 185 l = l := xpr_no (by decide +kernel)
theorem r_102_187 : xfetch 102 187 = some (.ireturn, 1) := by decide +kernel
theorem n_102_187 : ∀ l, xpr 102 187 l = l := xpr_no (by decide +kernel)
theorem v_RL_newTable_0 {S : Option (Nat × (Nat → Int32))} {s : zSt} {Q : Option Value ⊕ Nat → zSt → Prop} {x1 : Int} {x2 : Int} {x3 : Int} {x4 : Int} 
    (h : rng x1 ∧ ((0 ≤ x1 ∧ x1 < zI s 3 0 → rng x2 ∧ ((x2 < 1 → Q (rT 0) (zbump s)) ∧ (1 ≤ x2 → (x2 ≤ 12 → rng x3 ∧ ((0 ≤ x3 ∧ x3 ≤ 8 → rng x4 ∧ ((0 ≤ x4 ∧ x4 ≤ 1 → (0 ≤ x1 ∧ x1 < 6) ∧ ((1 ≤ zI s (7 + 4 * x1) 1 → wp S 106 0 [(0, rf 2)] [] s (fun o12 s12 => zkI (fun y12 => (y12 ≠ (-1) → wp S 107 0 [(0, rf 53), (1, rf (62 + 11 * x1)), (2, iv x2), (3, iv x3)] [] s12 (fun o16 s16 => zkU (wp S 108 0 [(0, rf 2), (1, iv (zI s16 53 4))] [] s16 (fun o19 s19 => zkI (fun y19 => (y19 ≠ (-1) → wp S 18 0 [(0, rf 2)] [] s19 (fun o22 s22 => zkU ((0 ≤ y12 ∧ y12 < 3) ∧ (wp S 109 0 [(0, rf 2), (1, iv y19), (2, iv (zI (zwI (zwI (zwI (zwI (zwI (zwI (zwI s22 (31 + y12) 0 1) (31 + y12) 1 x1) (31 + y12) 2 x2) (31 + y12) 3 x3) (31 + y12) 4 x4) (31 + y12) 5 y19) (31 + y12) 6 (zI (zwI (zwI (zwI (zwI (zwI (zwI s22 (31 + y12) 0 1) (31 + y12) 1 x1) (31 + y12) 2 x2) (31 + y12) 3 x3) (31 + y12) 4 x4) (31 + y12) 5 y19) 53 4)) 53 4))] [] (zwI (zwI (zwI (zwI (zwI (zwI (zwI s22 (31 + y12) 0 1) (31 + y12) 1 x1) (31 + y12) 2 x2) (31 + y12) 3 x3) (31 + y12) 4 x4) (31 + y12) 5 y19) (31 + y12) 6 (zI (zwI (zwI (zwI (zwI (zwI (zwI s22 (31 + y12) 0 1) (31 + y12) 1 x1) (31 + y12) 2 x2) (31 + y12) 3 x3) (31 + y12) 4 x4) (31 + y12) 5 y19) 53 4)) (fun o28 s28 => zkU (Q (rI y12) s28) (fun e28 => False) o28))) (fun e22 => False) o22)) ∧ (y19 = (-1) → Q (rT 1) (zbump s19))) (fun e19 => False) o19)) (fun e16 => False) o16)) ∧ (y12 = (-1) → Q (rT 1) (zbump s12))) (fun e12 => False) o12)) ∧ ((¬ (1 ≤ zI s (7 + 4 * x1) 1) → Q (rT 1) (zbump s))))) ∧ ((¬ (0 ≤ x4 ∧ x4 ≤ 1) → Q (rT 0) (zbump s))))) ∧ ((¬ (0 ≤ x3 ∧ x3 ≤ 8) → Q (rT 0) (zbump s))))) ∧ (12 < x2 → Q (rT 0) (zbump s))))) ∧ ((¬ (0 ≤ x1 ∧ x1 < zI s 3 0) → Q (rT 2) (zbump s))))) :
    wp S 102 0 [(0, rf 2), (1, iv x1), (2, iv x2), (3, iv x3), (4, iv x4)] [] s Q := by
  refine i_aload_n (a := 2) r_102_0 (n_102_0 _) rfl ?_
  refine i_iload_n (x := x1) r_102_1 (n_102_1 _) rfl ?_
  obtain ⟨g1, h⟩ := h
  refine wp_virt (b := 2) (rest := []) (Ls := [(0, rf 2), (1, iv x1)]) r_102_2 (n_102_2 _) rfl ⟨rfl, rfl, by decide, by decide⟩ rfl rfl lf_2 ⟨rfl, Nat.le_of_ble_eq_true rfl, Nat.le_of_ble_eq_true rfl⟩ rfl (K_RL_checkRecord g1) ?_
  rintro _ _ (⟨c2, rfl, rfl⟩ | ⟨c2, rfl, rfl⟩)
  · replace h := h.1 c2
    refine .inl ⟨none, rfl, ?_⟩
    show wp S 102 5 [(0, rf 2), (1, iv x1), (2, iv x2), (3, iv x3), (4, iv x4)] [] s Q
    refine i_iload_n (x := x2) r_102_5 (n_102_5 _) rfl ?_
    refine i_iconst r_102_6 (n_102_6 _) ?_
    obtain ⟨g3, h⟩ := h
    refine i_icmp (t := 16) r_102_7 (n_102_7 _) rfl (T_lt g3 ⟨by omega, by omega⟩) (fun c4 => ?_) (fun c4 => ?_)
    · replace h := h.1 c4
      exact i_throw r_102_16 (n_102_16 _) rfl (by decide) h
    · replace h := h.2 c4
      refine i_iload_n (x := x2) r_102_10 (n_102_10 _) rfl ?_
      refine i_bipush r_102_11 (n_102_11 _) rfl ?_
      refine i_icmp (t := 26) r_102_13 (n_102_13 _) rfl (T_le g3 ⟨by omega, by omega⟩) (fun c5 => ?_) (fun c5 => ?_)
      · replace h := h.1 c5
        refine i_iload_n (x := x3) r_102_26 (n_102_26 _) rfl ?_
        obtain ⟨g6, h⟩ := h
        refine wp_stat (rest := []) (Ls := [(0, iv x3)]) r_102_27 (n_102_27 _) rfl ⟨rfl, by decide, by decide, by decide⟩ rfl rfl ⟨rfl, Nat.le_of_ble_eq_true rfl, Nat.le_of_ble_eq_true rfl⟩ rfl (K_RL_checkLayout g6) ?_
        rintro _ _ (⟨c7, rfl, rfl⟩ | ⟨c7, rfl, rfl⟩)
        · replace h := h.1 c7
          refine .inl ⟨none, rfl, ?_⟩
          show wp S 102 30 [(0, rf 2), (1, iv x1), (2, iv x2), (3, iv x3), (4, iv x4)] [] s Q
          refine i_iload (x := x4) r_102_30 (n_102_30 _) rfl ?_
          obtain ⟨g8, h⟩ := h
          refine wp_stat (rest := []) (Ls := [(0, iv x4)]) r_102_32 (n_102_32 _) rfl ⟨rfl, by decide, by decide, by decide⟩ rfl rfl ⟨rfl, Nat.le_of_ble_eq_true rfl, Nat.le_of_ble_eq_true rfl⟩ rfl (K_RL_checkOrder g8) ?_
          rintro _ _ (⟨c9, rfl, rfl⟩ | ⟨c9, rfl, rfl⟩)
          · replace h := h.1 c9
            refine .inl ⟨none, rfl, ?_⟩
            show wp S 102 35 [(0, rf 2), (1, iv x1), (2, iv x2), (3, iv x3), (4, iv x4)] [] s Q
            refine i_aload_n (a := 2) r_102_35 (n_102_35 _) rfl ?_
            refine i_iload_n (x := x1) r_102_36 (n_102_36 _) rfl ?_
            obtain ⟨g10, h⟩ := h
            refine wp_virt (b := 2) (rest := []) (Ls := [(0, rf 2), (1, iv x1)]) r_102_37 (n_102_37 _) rfl ⟨rfl, rfl, by decide, by decide⟩ rfl rfl lf_2 ⟨rfl, Nat.le_of_ble_eq_true rfl, Nat.le_of_ble_eq_true rfl⟩ rfl (K_RL_checkHasFields g10) ?_
            rintro _ _ (⟨c11, rfl, rfl⟩ | ⟨c11, rfl, rfl⟩)
            · replace h := h.1 c11
              refine .inl ⟨none, rfl, ?_⟩
              show wp S 102 40 [(0, rf 2), (1, iv x1), (2, iv x2), (3, iv x3), (4, iv x4)] [] s Q
              refine i_aload_n (a := 2) r_102_40 (n_102_40 _) rfl ?_
              refine wp_virt (b := 2) (rest := []) (Ls := [(0, rf 2)]) r_102_41 (n_102_41 _) rfl ⟨rfl, rfl, by decide, by decide⟩ rfl rfl lf_2 ⟨rfl, Nat.le_of_ble_eq_true rfl, Nat.le_of_ble_eq_true rfl⟩ rfl h ?_
              intro o12 s12 h
              rcases h with ⟨y12, q13, rfl, h⟩ | ⟨e12, rfl, h⟩
              · refine .inl ⟨some (iv y12), rfl, ?_⟩
                show wp S 102 44 [(0, rf 2), (1, iv x1), (2, iv x2), (3, iv x3), (4, iv x4)] [iv y12] s12 Q
                refine i_istore (l' := [(0, rf 2), (1, iv x1), (2, iv x2), (3, iv x3), (4, iv x4), (5, iv y12)]) r_102_44 (n_102_44 _) (by decide) rfl ?_
                refine i_iload (x := y12) r_102_46 (n_102_46 _) rfl ?_
                refine i_iconst r_102_48 (n_102_48 _) ?_
                refine i_icmp (t := 62) r_102_49 (n_102_49 _) rfl (T_ne q13 ⟨by omega, by omega⟩) (fun c14 => ?_) (fun c14 => ?_)
                · replace h := h.1 c14
                  refine i_aload_n (a := 2) r_102_62 (n_102_62 _) rfl ?_
                  refine i_getR (a := 2) (b := 53) r_102_63 (n_102_63 _) rfl rfl rfl (by omega) lf_2 (by omega) ?_
                  refine i_aload_n (a := 2) r_102_66 (n_102_66 _) rfl ?_
                  refine i_getR (a := 2) (b := 34) r_102_67 (n_102_67 _) rfl rfl rfl (by omega) lf_2 (by omega) ?_
                  refine i_iload_n (x := x1) r_102_70 (n_102_70 _) rfl ?_
                  refine i_aaload (c := 4) (a := 34) (j := x1) (b := 62 + 11 * x1) r_102_71 (n_102_71 _) lf_34 ⟨by omega, by omega⟩ (by omega) (by omega) rfl (by omega) ?_
                  have t15 := e_4 (j := x1) lf_34 (by omega) (by omega)
                  rw [show 34 + 28 + 11 * x1 = 62 + 11 * x1 by omega] at t15
                  refine i_iload_n (x := x2) r_102_72 (n_102_72 _) rfl ?_
                  refine i_iload_n (x := x3) r_102_73 (n_102_73 _) rfl ?_
                  refine wp_virt (b := 53) (rest := []) (Ls := [(0, rf 53), (1, rf (62 + 11 * x1)), (2, iv x2), (3, iv x3)]) r_102_74 (n_102_74 _) rfl ⟨rfl, rfl, by decide, by decide⟩ rfl rfl lf_53 ⟨rfl, Nat.le_of_ble_eq_true rfl, Nat.le_of_ble_eq_true rfl⟩ rfl h ?_
                  intro o16 s16 h
                  rcases h with ⟨rfl, h⟩ | ⟨e16, rfl, h⟩
                  · refine .inl ⟨none, rfl, ?_⟩
                    refine i_aload_n (a := 2) r_102_77 (n_102_77 _) rfl ?_
                    refine i_aload_n (a := 2) r_102_78 (n_102_78 _) rfl ?_
                    refine i_getR (a := 2) (b := 53) r_102_79 (n_102_79 _) rfl rfl rfl (by omega) lf_2 (by omega) ?_
                    refine i_getI (a := 53) r_102_82 (n_102_82 _) rfl (by decide) lf_53 (fun q18 => ?_)
                    refine wp_virt (b := 2) (rest := []) (Ls := [(0, rf 2), (1, iv (zI s16 53 4))]) r_102_85 (n_102_85 _) rfl ⟨rfl, rfl, by decide, by decide⟩ rfl rfl lf_2 ⟨rfl, Nat.le_of_ble_eq_true rfl, Nat.le_of_ble_eq_true rfl⟩ rfl h ?_
                    intro o19 s19 h
                    rcases h with ⟨y19, q20, rfl, h⟩ | ⟨e19, rfl, h⟩
                    · refine .inl ⟨some (iv y19), rfl, ?_⟩
                      show wp S 102 88 [(0, rf 2), (1, iv x1), (2, iv x2), (3, iv x3), (4, iv x4), (5, iv y12)] [iv y19] s19 Q
                      refine i_istore (l' := [(0, rf 2), (1, iv x1), (2, iv x2), (3, iv x3), (4, iv x4), (5, iv y12), (6, iv y19)]) r_102_88 (n_102_88 _) (by decide) rfl ?_
                      refine i_iload (x := y19) r_102_90 (n_102_90 _) rfl ?_
                      refine i_iconst r_102_92 (n_102_92 _) ?_
                      refine i_icmp (t := 106) r_102_93 (n_102_93 _) rfl (T_ne q20 ⟨by omega, by omega⟩) (fun c21 => ?_) (fun c21 => ?_)
                      · replace h := h.1 c21
                        refine i_aload_n (a := 2) r_102_106 (n_102_106 _) rfl ?_
                        refine wp_virt (b := 2) (rest := []) (Ls := [(0, rf 2)]) r_102_107 (n_102_107 _) rfl ⟨rfl, rfl, by decide, by decide⟩ rfl rfl lf_2 ⟨rfl, Nat.le_of_ble_eq_true rfl, Nat.le_of_ble_eq_true rfl⟩ rfl h ?_
                        intro o22 s22 h
                        rcases h with ⟨rfl, h⟩ | ⟨e22, rfl, h⟩
                        · refine .inl ⟨none, rfl, ?_⟩
                          refine i_aload_n (a := 2) r_102_110 (n_102_110 _) rfl ?_
                          refine i_getR (a := 2) (b := 3) r_102_111 (n_102_111 _) rfl rfl rfl (by omega) lf_2 (by omega) ?_
                          refine i_getR (a := 3) (b := 5) r_102_114 (n_102_114 _) rfl rfl rfl (by omega) lf_3 (by omega) ?_
                          refine i_iload (x := y12) r_102_117 (n_102_117 _) rfl ?_
                          obtain ⟨g24, h⟩ := h
                          refine i_aaload (c := 6) (a := 5) (j := y12) (b := 31 + y12) r_102_119 (n_102_119 _) lf_5 ⟨by omega, by omega⟩ (by omega) (by omega) rfl (by omega) ?_
                          have t25 := e_6 (j := y12) lf_5 (by omega) (by omega)
                          rw [show 5 + 26 + 1 * y12 = 31 + y12 by omega] at t25
                          refine i_astore (l' := [(0, rf 2), (1, iv x1), (2, iv x2), (3, iv x3), (4, iv x4), (5, iv y12), (6, iv y19), (7, rf (31 + y12))]) r_102_120 (n_102_120 _) (by decide) rfl ?_
                          refine i_aload (a := 31 + y12) r_102_122 (n_102_122 _) rfl ?_
                          refine i_iconst r_102_124 (n_102_124 _) ?_
                          refine i_putI (a := 31 + y12) (x := 1) r_102_125 (n_102_125 _) rfl (.inr ⟨rfl, by decide⟩) rfl t25 ⟨by omega, by omega⟩ ?_
                          refine i_aload (a := 31 + y12) r_102_128 (n_102_128 _) rfl ?_
                          refine i_iload_n (x := x1) r_102_130 (n_102_130 _) rfl ?_
                          refine i_putI (a := 31 + y12) (x := x1) r_102_131 (n_102_131 _) rfl (.inl rfl) rfl t25 g1 ?_
                          refine i_aload (a := 31 + y12) r_102_134 (n_102_134 _) rfl ?_
                          refine i_iload_n (x := x2) r_102_136 (n_102_136 _) rfl ?_
                          refine i_putI (a := 31 + y12) (x := x2) r_102_137 (n_102_137 _) rfl (.inl rfl) rfl t25 g3 ?_
                          refine i_aload (a := 31 + y12) r_102_140 (n_102_140 _) rfl ?_
                          refine i_iload_n (x := x3) r_102_142 (n_102_142 _) rfl ?_
                          refine i_putI (a := 31 + y12) (x := x3) r_102_143 (n_102_143 _) rfl (.inl rfl) rfl t25 g6 ?_
                          refine i_aload (a := 31 + y12) r_102_146 (n_102_146 _) rfl ?_
                          refine i_iload (x := x4) r_102_148 (n_102_148 _) rfl ?_
                          refine i_putI (a := 31 + y12) (x := x4) r_102_150 (n_102_150 _) rfl (.inl rfl) rfl t25 g8 ?_
                          refine i_aload (a := 31 + y12) r_102_153 (n_102_153 _) rfl ?_
                          refine i_iload (x := y19) r_102_155 (n_102_155 _) rfl ?_
                          refine i_putI (a := 31 + y12) (x := y19) r_102_157 (n_102_157 _) rfl (.inl rfl) rfl t25 q20 ?_
                          refine i_aload (a := 31 + y12) r_102_160 (n_102_160 _) rfl ?_
                          refine i_aload_n (a := 2) r_102_162 (n_102_162 _) rfl ?_
                          refine i_getR (a := 2) (b := 53) r_102_163 (n_102_163 _) rfl rfl rfl (by omega) lf_2 (by omega) ?_
                          refine i_getI (a := 53) r_102_166 (n_102_166 _) rfl (by decide) lf_53 (fun q26 => ?_)
                          refine i_putI (a := 31 + y12) (x := zI (zwI (zwI (zwI (zwI (zwI (zwI s22 (31 + y12) 0 1) (31 + y12) 1 x1) (31 + y12) 2 x2) (31 + y12) 3 x3) (31 + y12) 4 x4) (31 + y12) 5 y19) 53 4) r_102_169 (n_102_169 _) rfl (.inl rfl) rfl t25 q26 ?_
                          refine i_aload_n (a := 2) r_102_172 (n_102_172 _) rfl ?_
                          refine i_iload (x := y19) r_102_173 (n_102_173 _) rfl ?_
                          refine i_aload_n (a := 2) r_102_175 (n_102_175 _) rfl ?_
                          refine i_getR (a := 2) (b := 53) r_102_176 (n_102_176 _) rfl rfl rfl (by omega) lf_2 (by omega) ?_
                          refine i_getI (a := 53) r_102_179 (n_102_179 _) rfl (by decide) lf_53 (fun q27 => ?_)
                          refine wp_virt (b := 2) (rest := []) (Ls := [(0, rf 2), (1, iv y19), (2, iv (zI (zwI (zwI (zwI (zwI (zwI (zwI (zwI s22 (31 + y12) 0 1) (31 + y12) 1 x1) (31 + y12) 2 x2) (31 + y12) 3 x3) (31 + y12) 4 x4) (31 + y12) 5 y19) (31 + y12) 6 (zI (zwI (zwI (zwI (zwI (zwI (zwI s22 (31 + y12) 0 1) (31 + y12) 1 x1) (31 + y12) 2 x2) (31 + y12) 3 x3) (31 + y12) 4 x4) (31 + y12) 5 y19) 53 4)) 53 4))]) r_102_182 (n_102_182 _) rfl ⟨rfl, rfl, by decide, by decide⟩ rfl rfl lf_2 ⟨rfl, Nat.le_of_ble_eq_true rfl, Nat.le_of_ble_eq_true rfl⟩ rfl h ?_
                          intro o28 s28 h
                          rcases h with ⟨rfl, h⟩ | ⟨e28, rfl, h⟩
                          · refine .inl ⟨none, rfl, ?_⟩
                            refine i_iload (x := y12) r_102_185 (n_102_185 _) rfl ?_
                            exact i_ireturn r_102_187 (n_102_187 _) rfl h
                          · skip
                            exact h.elim
                        · skip
                          exact h.elim
                      · replace h := h.2 c21
                        exact i_throw r_102_96 (n_102_96 _) rfl (by decide) h
                    · skip
                      exact h.elim
                  · skip
                    exact h.elim
                · replace h := h.2 c14
                  exact i_throw r_102_52 (n_102_52 _) rfl (by decide) h
              · skip
                exact h.elim
            · replace h := h.2 c11
              exact .inr ⟨_, rfl, .inl ⟨rfl, h⟩⟩
          · replace h := h.2 c9
            exact .inr ⟨_, rfl, rfl, .inl ⟨rfl, h⟩⟩
        · replace h := h.2 c7
          exact .inr ⟨_, rfl, rfl, .inl ⟨rfl, h⟩⟩
      · replace h := h.2 c5
        exact i_throw r_102_16 (n_102_16 _) rfl (by decide) h
  · replace h := h.2 c2
    exact .inr ⟨_, rfl, .inl ⟨rfl, h⟩⟩
theorem r_106_0 : xfetch 106 0 = some (.iconst 0, 1) := by decide +kernel
theorem n_106_0 : ∀ l, xpr 106 0 l = l := xpr_no (by decide +kernel)
theorem r_106_1 : xfetch 106 1 = some (.istore_n 1, 1) := by decide +kernel
theorem n_106_1 : ∀ l, xpr 106 1 l = l := xpr_no (by decide +kernel)
theorem r_106_2 : xfetch 106 2 = some (.iload_n 1, 1) := by decide +kernel
theorem r_106_3 : xfetch 106 3 = some (.iconst 3, 1) := by decide +kernel
theorem n_106_3 : ∀ l, xpr 106 3 l = l := xpr_no (by decide +kernel)
theorem r_106_4 : xfetch 106 4 = some (.if_icmp .ge 26, 3) := by decide +kernel
theorem n_106_4 : ∀ l, xpr 106 4 l = l := xpr_no (by decide +kernel)
theorem r_106_7 : xfetch 106 7 = some (.aload_n 0, 1) := by decide +kernel
theorem n_106_7 : ∀ l, xpr 106 7 l = l := xpr_no (by decide +kernel)
theorem r_106_8 : xfetch 106 8 = some (.getfield 10, 3) := by decide +kernel
theorem n_106_8 : ∀ l, xpr 106 8 l = l := xpr_no (by decide +kernel)
theorem r_106_11 : xfetch 106 11 = some (.getfield 256, 3) := by decide +kernel
theorem n_106_11 : ∀ l, xpr 106 11 l = l := xpr_no (by decide +kernel)
theorem r_106_14 : xfetch 106 14 = some (.iload_n 1, 1) := by decide +kernel
theorem n_106_14 : ∀ l, xpr 106 14 l = l := xpr_no (by decide +kernel)
theorem r_106_15 : xfetch 106 15 = some (.aaload, 1) := by decide +kernel
theorem n_106_15 : ∀ l, xpr 106 15 l = l := xpr_no (by decide +kernel)
theorem r_106_16 : xfetch 106 16 = some (.getfield 260, 3) := by decide +kernel
theorem n_106_16 : ∀ l, xpr 106 16 l = l := xpr_no (by decide +kernel)
theorem r_106_19 : xfetch 106 19 = some (.ifCond .ne 5, 3) := by decide +kernel
theorem n_106_19 : ∀ l, xpr 106 19 l = l := xpr_no (by decide +kernel)
theorem r_106_22 : xfetch 106 22 = some (.iload_n 1, 1) := by decide +kernel
theorem n_106_22 : ∀ l, xpr 106 22 l = l := xpr_no (by decide +kernel)
theorem r_106_23 : xfetch 106 23 = some (.ireturn, 1) := by decide +kernel
theorem n_106_23 : ∀ l, xpr 106 23 l = l := xpr_no (by decide +kernel)
theorem r_106_24 : xfetch 106 24 = some (.iinc 1 1, 3) := by decide +kernel
theorem n_106_24 : ∀ l, xpr 106 24 l = l := xpr_no (by decide +kernel)
theorem r_106_27 : xfetch 106 27 = some (.goto (-25), 3) := by decide +kernel
theorem n_106_27 : ∀ l, xpr 106 27 l = l := xpr_no (by decide +kernel)
theorem r_106_30 : xfetch 106 30 = some (.iconst (-1), 1) := by decide +kernel
theorem n_106_30 : ∀ l, xpr 106 30 l = l := xpr_no (by decide +kernel)
theorem r_106_31 : xfetch 106 31 = some (.ireturn, 1) := by decide +kernel
theorem n_106_31 : ∀ l, xpr 106 31 l = l := xpr_no (by decide +kernel)
theorem v_RL_firstFreeTable_0 {S : Option (Nat × (Nat → Int32))} {s : zSt} {Q : Option Value ⊕ Nat → zSt → Prop}  
    (h : wp S 106 2 [(0, rf 2), (1, iv 0)] [] s Q) :
    wp S 106 0 [(0, rf 2)] [] s Q := by
  refine i_iconst r_106_0 (n_106_0 _) ?_
  refine i_istore_n (l' := [(0, rf 2), (1, iv 0)]) r_106_1 (n_106_1 _) (by decide) rfl ?_
  exact wp_pr (l' := [(0, rf 2), (1, iv 0)]) rfl h
theorem v_RL_firstFreeTable_2 {S : Option (Nat × (Nat → Int32))} {s : zSt} {Q : Option Value ⊕ Nat → zSt → Prop} {x1 : Int} 
    (h : rng x1 ∧ ((3 ≤ x1 → Q (rI (-1)) s) ∧ (x1 < 3 → (0 ≤ x1 ∧ x1 < 3) ∧ (((zI s (31 + x1) 0) ≠ 0 → wp S 106 2 [(0, rf 2), (1, iv (x1 + 1))] [] s Q) ∧ ((zI s (31 + x1) 0) = 0 → Q (rI x1) s))))) :
    wp S 106 2 [(0, rf 2), (1, iv x1)] [] s Q := by
  refine i_iload_n (x := x1) r_106_2 rfl rfl ?_
  refine i_iconst r_106_3 (n_106_3 _) ?_
  obtain ⟨g1, h⟩ := h
  refine i_icmp (t := 30) r_106_4 (n_106_4 _) rfl (T_ge g1 ⟨by omega, by omega⟩) (fun c2 => ?_) (fun c2 => ?_)
  · replace h := h.1 c2
    refine i_iconst r_106_30 (n_106_30 _) ?_
    exact i_ireturn r_106_31 (n_106_31 _) rfl h
  · replace h := h.2 c2
    refine i_aload_n (a := 2) r_106_7 (n_106_7 _) rfl ?_
    refine i_getR (a := 2) (b := 3) r_106_8 (n_106_8 _) rfl rfl rfl (by omega) lf_2 (by omega) ?_
    refine i_getR (a := 3) (b := 5) r_106_11 (n_106_11 _) rfl rfl rfl (by omega) lf_3 (by omega) ?_
    refine i_iload_n (x := x1) r_106_14 (n_106_14 _) rfl ?_
    obtain ⟨g3, h⟩ := h
    refine i_aaload (c := 6) (a := 5) (j := x1) (b := 31 + x1) r_106_15 (n_106_15 _) lf_5 ⟨by omega, by omega⟩ (by omega) (by omega) rfl (by omega) ?_
    have t4 := e_6 (j := x1) lf_5 (by omega) (by omega)
    rw [show 5 + 26 + 1 * x1 = 31 + x1 by omega] at t4
    refine i_getI (a := 31 + x1) r_106_16 (n_106_16 _) rfl (by decide) t4 (fun q5 => ?_)
    refine i_if (t := 24) r_106_19 (n_106_19 _) rfl (T_ne q5 ⟨by omega, by omega⟩) (fun c6 => ?_) (fun c6 => ?_)
    · replace h := h.1 c6
      refine i_iinc (x := x1) (l' := [(0, rf 2), (1, iv (x1 + 1))]) r_106_24 (n_106_24 _) (by decide) rfl rfl ?_
      refine i_goto (t := 2) r_106_27 (n_106_27 _) rfl ?_
      exact wp_pr (l' := [(0, rf 2), (1, iv (x1 + 1))]) rfl h
    · replace h := h.2 c6
      refine i_iload_n (x := x1) r_106_22 (n_106_22 _) rfl ?_
      exact i_ireturn r_106_23 (n_106_23 _) rfl h
theorem r_107_0 : xfetch 107 0 = some (.aload_n 0, 1) := by decide +kernel
theorem n_107_0 : ∀ l, xpr 107 0 l = l := xpr_no (by decide +kernel)
theorem r_107_1 : xfetch 107 1 = some (.iload_n 2, 1) := by decide +kernel
theorem n_107_1 : ∀ l, xpr 107 1 l = l := xpr_no (by decide +kernel)
theorem r_107_2 : xfetch 107 2 = some (.putfield 28, 3) := by decide +kernel
theorem n_107_2 : ∀ l, xpr 107 2 l = l := xpr_no (by decide +kernel)
theorem r_107_5 : xfetch 107 5 = some (.aload_n 0, 1) := by decide +kernel
theorem n_107_5 : ∀ l, xpr 107 5 l = l := xpr_no (by decide +kernel)
theorem r_107_6 : xfetch 107 6 = some (.aload_n 1, 1) := by decide +kernel
theorem n_107_6 : ∀ l, xpr 107 6 l = l := xpr_no (by decide +kernel)
theorem r_107_7 : xfetch 107 7 = some (.getfield 31, 3) := by decide +kernel
theorem n_107_7 : ∀ l, xpr 107 7 l = l := xpr_no (by decide +kernel)
theorem r_107_10 : xfetch 107 10 = some (.getfield 37, 3) := by decide +kernel
theorem n_107_10 : ∀ l, xpr 107 10 l = l := xpr_no (by decide +kernel)
theorem r_107_13 : xfetch 107 13 = some (.putfield 42, 3) := by decide +kernel
theorem n_107_13 : ∀ l, xpr 107 13 l = l := xpr_no (by decide +kernel)
theorem r_107_16 : xfetch 107 16 = some (.aload_n 0, 1) := by decide +kernel
theorem n_107_16 : ∀ l, xpr 107 16 l = l := xpr_no (by decide +kernel)
theorem r_107_17 : xfetch 107 17 = some (.iload_n 3, 1) := by decide +kernel
theorem n_107_17 : ∀ l, xpr 107 17 l = l := xpr_no (by decide +kernel)
theorem r_107_18 : xfetch 107 18 = some (.iconst 1, 1) := by decide +kernel
theorem n_107_18 : ∀ l, xpr 107 18 l = l := xpr_no (by decide +kernel)
theorem r_107_19 : xfetch 107 19 = some (.if_icmp .ne 7, 3) := by decide +kernel
theorem n_107_19 : ∀ l, xpr 107 19 l = l := xpr_no (by decide +kernel)
theorem r_107_22 : xfetch 107 22 = some (.iload_n 2, 1) := by decide +kernel
theorem n_107_22 : ∀ l, xpr 107 22 l = l := xpr_no (by decide +kernel)
theorem r_107_23 : xfetch 107 23 = some (.goto 4, 3) := by decide +kernel
theorem n_107_23 : ∀ l, xpr 107 23 l = l := xpr_no (by decide +kernel)
theorem r_107_26 : xfetch 107 26 = some (.iload_n 3, 1) := by decide +kernel
theorem n_107_26 : ∀ l, xpr 107 26 l = l := xpr_no (by decide +kernel)
theorem r_107_27 : xfetch 107 27 = some (.iconst 1, 1) := by decide +kernel
theorem n_107_27 : ∀ l, xpr 107 27 l = l := xpr_no (by decide +kernel)
theorem r_107_28 : xfetch 107 28 = some (.invokestatic 44, 3) := by decide +kernel
theorem n_107_28 : ∀ l, xpr 107 28 l = l := xpr_no (by decide +kernel)
theorem r_107_31 : xfetch 107 31 = some (.putfield 9, 3) := by decide +kernel
theorem n_107_31 : ∀ l, xpr 107 31 l = l := xpr_no (by decide +kernel)
theorem r_107_34 : xfetch 107 34 = some (.iconst 0, 1) := by decide +kernel
theorem n_107_34 : ∀ l, xpr 107 34 l = l := xpr_no (by decide +kernel)
theorem r_107_35 : xfetch 107 35 = some (.istore 4, 2) := by decide +kernel
theorem n_107_35 : ∀ l, xpr 107 35 l = l := xpr_no (by decide +kernel)
theorem r_107_37 : xfetch 107 37 = some (.iconst 0, 1) := by decide +kernel
theorem n_107_37 : ∀ l, xpr 107 37 l = l := xpr_no (by decide +kernel)
theorem r_107_38 : xfetch 107 38 = some (.istore 5, 2) := by decide +kernel
theorem n_107_38 : ∀ l, xpr 107 38 l = l := xpr_no (by decide +kernel)
theorem r_107_40 : xfetch 107 40 = some (.iload 5, 2) := by decide +kernel
theorem r_107_42 : xfetch 107 42 = some (.aload_n 0, 1) := by decide +kernel
theorem n_107_42 : ∀ l, xpr 107 42 l = l := xpr_no (by decide +kernel)
theorem r_107_43 : xfetch 107 43 = some (.getfield 42, 3) := by decide +kernel
theorem n_107_43 : ∀ l, xpr 107 43 l = l := xpr_no (by decide +kernel)
theorem r_107_46 : xfetch 107 46 = some (.if_icmp .ge 126, 3) := by decide +kernel
theorem n_107_46 : ∀ l, xpr 107 46 l = l := xpr_no (by decide +kernel)
theorem r_107_49 : xfetch 107 49 = some (.aload_n 0, 1) := by decide +kernel
theorem n_107_49 : ∀ l, xpr 107 49 l = l := xpr_no (by decide +kernel)
theorem r_107_50 : xfetch 107 50 = some (.getfield 15, 3) := by decide +kernel
theorem n_107_50 : ∀ l, xpr 107 50 l = l := xpr_no (by decide +kernel)
theorem r_107_53 : xfetch 107 53 = some (.iload 5, 2) := by decide +kernel
theorem n_107_53 : ∀ l, xpr 107 53 l = l := xpr_no (by decide +kernel)
theorem r_107_55 : xfetch 107 55 = some (.aload_n 1, 1) := by decide +kernel
theorem n_107_55 : ∀ l, xpr 107 55 l = l := xpr_no (by decide +kernel)
theorem r_107_56 : xfetch 107 56 = some (.getfield 31, 3) := by decide +kernel
theorem n_107_56 : ∀ l, xpr 107 56 l = l := xpr_no (by decide +kernel)
theorem r_107_59 : xfetch 107 59 = some (.getfield 50, 3) := by decide +kernel
theorem n_107_59 : ∀ l, xpr 107 59 l = l := xpr_no (by decide +kernel)
theorem r_107_62 : xfetch 107 62 = some (.iload 5, 2) := by decide +kernel
theorem n_107_62 : ∀ l, xpr 107 62 l = l := xpr_no (by decide +kernel)
theorem r_107_64 : xfetch 107 64 = some (.iaload, 1) := by decide +kernel
theorem n_107_64 : ∀ l, xpr 107 64 l = l := xpr_no (by decide +kernel)
theorem r_107_65 : xfetch 107 65 = some (.iastore, 1) := by decide +kernel
theorem n_107_65 : ∀ l, xpr 107 65 l = l := xpr_no (by decide +kernel)
theorem r_107_66 : xfetch 107 66 = some (.aload_n 0, 1) := by decide +kernel
theorem n_107_66 : ∀ l, xpr 107 66 l = l := xpr_no (by decide +kernel)
theorem r_107_67 : xfetch 107 67 = some (.getfield 22, 3) := by decide +kernel
theorem n_107_67 : ∀ l, xpr 107 67 l = l := xpr_no (by decide +kernel)
theorem r_107_70 : xfetch 107 70 = some (.iload 5, 2) := by decide +kernel
theorem n_107_70 : ∀ l, xpr 107 70 l = l := xpr_no (by decide +kernel)
theorem r_107_72 : xfetch 107 72 = some (.aload_n 0, 1) := by decide +kernel
theorem n_107_72 : ∀ l, xpr 107 72 l = l := xpr_no (by decide +kernel)
theorem r_107_73 : xfetch 107 73 = some (.getfield 15, 3) := by decide +kernel
theorem n_107_73 : ∀ l, xpr 107 73 l = l := xpr_no (by decide +kernel)
theorem r_107_76 : xfetch 107 76 = some (.iload 5, 2) := by decide +kernel
theorem n_107_76 : ∀ l, xpr 107 76 l = l := xpr_no (by decide +kernel)
theorem r_107_78 : xfetch 107 78 = some (.iaload, 1) := by decide +kernel
theorem n_107_78 : ∀ l, xpr 107 78 l = l := xpr_no (by decide +kernel)
theorem r_107_79 : xfetch 107 79 = some (.invokestatic 51, 3) := by decide +kernel
theorem n_107_79 : ∀ l, xpr 107 79 l = l := xpr_no (by decide +kernel)
theorem r_107_82 : xfetch 107 82 = some (.iastore, 1) := by decide +kernel
theorem n_107_82 : ∀ l, xpr 107 82 l = l := xpr_no (by decide +kernel)
theorem r_107_83 : xfetch 107 83 = some (.aload_n 0, 1) := by decide +kernel
theorem n_107_83 : ∀ l, xpr 107 83 l = l := xpr_no (by decide +kernel)
theorem r_107_84 : xfetch 107 84 = some (.getfield 19, 3) := by decide +kernel
theorem n_107_84 : ∀ l, xpr 107 84 l = l := xpr_no (by decide +kernel)
theorem r_107_87 : xfetch 107 87 = some (.iload 5, 2) := by decide +kernel
theorem n_107_87 : ∀ l, xpr 107 87 l = l := xpr_no (by decide +kernel)
theorem r_107_89 : xfetch 107 89 = some (.iload_n 3, 1) := by decide +kernel
theorem n_107_89 : ∀ l, xpr 107 89 l = l := xpr_no (by decide +kernel)
theorem r_107_90 : xfetch 107 90 = some (.ifCond .ne 16, 3) := by decide +kernel
theorem n_107_90 : ∀ l, xpr 107 90 l = l := xpr_no (by decide +kernel)
theorem r_107_93 : xfetch 107 93 = some (.aload_n 1, 1) := by decide +kernel
theorem n_107_93 : ∀ l, xpr 107 93 l = l := xpr_no (by decide +kernel)
theorem r_107_94 : xfetch 107 94 = some (.getfield 31, 3) := by decide +kernel
theorem n_107_94 : ∀ l, xpr 107 94 l = l := xpr_no (by decide +kernel)
theorem r_107_97 : xfetch 107 97 = some (.getfield 55, 3) := by decide +kernel
theorem n_107_97 : ∀ l, xpr 107 97 l = l := xpr_no (by decide +kernel)
theorem r_107_100 : xfetch 107 100 = some (.iload 5, 2) := by decide +kernel
theorem n_107_100 : ∀ l, xpr 107 100 l = l := xpr_no (by decide +kernel)
theorem r_107_102 : xfetch 107 102 = some (.iaload, 1) := by decide +kernel
theorem n_107_102 : ∀ l, xpr 107 102 l = l := xpr_no (by decide +kernel)
theorem r_107_103 : xfetch 107 103 = some (.goto 15, 3) := by decide +kernel
theorem n_107_103 : ∀ l, xpr 107 103 l = l := xpr_no (by decide +kernel)
theorem r_107_106 : xfetch 107 106 = some (.iload 4, 2) := by decide +kernel
theorem n_107_106 : ∀ l, xpr 107 106 l = l := xpr_no (by decide +kernel)
theorem r_107_108 : xfetch 107 108 = some (.aload_n 0, 1) := by decide +kernel
theorem n_107_108 : ∀ l, xpr 107 108 l = l := xpr_no (by decide +kernel)
theorem r_107_109 : xfetch 107 109 = some (.getfield 22, 3) := by decide +kernel
theorem n_107_109 : ∀ l, xpr 107 109 l = l := xpr_no (by decide +kernel)
theorem r_107_112 : xfetch 107 112 = some (.iload 5, 2) := by decide +kernel
theorem n_107_112 : ∀ l, xpr 107 112 l = l := xpr_no (by decide +kernel)
theorem r_107_114 : xfetch 107 114 = some (.iaload, 1) := by decide +kernel
theorem n_107_114 : ∀ l, xpr 107 114 l = l := xpr_no (by decide +kernel)
theorem r_107_115 : xfetch 107 115 = some (.invokestatic 58, 3) := by decide +kernel
theorem n_107_115 : ∀ l, xpr 107 115 l = l := xpr_no (by decide +kernel)
theorem r_107_118 : xfetch 107 118 = some (.iastore, 1) := by decide +kernel
theorem n_107_118 : ∀ l, xpr 107 118 l = l := xpr_no (by decide +kernel)
theorem r_107_119 : xfetch 107 119 = some (.aload_n 0, 1) := by decide +kernel
theorem n_107_119 : ∀ l, xpr 107 119 l = l := xpr_no (by decide +kernel)
theorem r_107_120 : xfetch 107 120 = some (.getfield 25, 3) := by decide +kernel
theorem n_107_120 : ∀ l, xpr 107 120 l = l := xpr_no (by decide +kernel)
theorem r_107_123 : xfetch 107 123 = some (.iload 5, 2) := by decide +kernel
theorem n_107_123 : ∀ l, xpr 107 123 l = l := xpr_no (by decide +kernel)
theorem r_107_125 : xfetch 107 125 = some (.iload_n 3, 1) := by decide +kernel
theorem n_107_125 : ∀ l, xpr 107 125 l = l := xpr_no (by decide +kernel)
theorem r_107_126 : xfetch 107 126 = some (.ifCond .ne 16, 3) := by decide +kernel
theorem n_107_126 : ∀ l, xpr 107 126 l = l := xpr_no (by decide +kernel)
theorem r_107_129 : xfetch 107 129 = some (.aload_n 1, 1) := by decide +kernel
theorem n_107_129 : ∀ l, xpr 107 129 l = l := xpr_no (by decide +kernel)
theorem r_107_130 : xfetch 107 130 = some (.getfield 31, 3) := by decide +kernel
theorem n_107_130 : ∀ l, xpr 107 130 l = l := xpr_no (by decide +kernel)
theorem r_107_133 : xfetch 107 133 = some (.getfield 61, 3) := by decide +kernel
theorem n_107_133 : ∀ l, xpr 107 133 l = l := xpr_no (by decide +kernel)
theorem r_107_136 : xfetch 107 136 = some (.iload 5, 2) := by decide +kernel
theorem n_107_136 : ∀ l, xpr 107 136 l = l := xpr_no (by decide +kernel)
theorem r_107_138 : xfetch 107 138 = some (.iaload, 1) := by decide +kernel
theorem n_107_138 : ∀ l, xpr 107 138 l = l := xpr_no (by decide +kernel)
theorem r_107_139 : xfetch 107 139 = some (.goto 4, 3) := by decide +kernel
theorem n_107_139 : ∀ l, xpr 107 139 l = l := xpr_no (by decide +kernel)
theorem r_107_142 : xfetch 107 142 = some (.iconst 0, 1) := by decide +kernel
theorem n_107_142 : ∀ l, xpr 107 142 l = l := xpr_no (by decide +kernel)
theorem r_107_143 : xfetch 107 143 = some (.iastore, 1) := by decide +kernel
theorem n_107_143 : ∀ l, xpr 107 143 l = l := xpr_no (by decide +kernel)
theorem r_107_144 : xfetch 107 144 = some (.aload_n 0, 1) := by decide +kernel
theorem n_107_144 : ∀ l, xpr 107 144 l = l := xpr_no (by decide +kernel)
theorem r_107_145 : xfetch 107 145 = some (.getfield 19, 3) := by decide +kernel
theorem n_107_145 : ∀ l, xpr 107 145 l = l := xpr_no (by decide +kernel)
theorem r_107_148 : xfetch 107 148 = some (.iload 5, 2) := by decide +kernel
theorem n_107_148 : ∀ l, xpr 107 148 l = l := xpr_no (by decide +kernel)
theorem r_107_150 : xfetch 107 150 = some (.iaload, 1) := by decide +kernel
theorem n_107_150 : ∀ l, xpr 107 150 l = l := xpr_no (by decide +kernel)
theorem r_107_151 : xfetch 107 151 = some (.aload_n 0, 1) := by decide +kernel
theorem n_107_151 : ∀ l, xpr 107 151 l = l := xpr_no (by decide +kernel)
theorem r_107_152 : xfetch 107 152 = some (.getfield 9, 3) := by decide +kernel
theorem n_107_152 : ∀ l, xpr 107 152 l = l := xpr_no (by decide +kernel)
theorem r_107_155 : xfetch 107 155 = some (.aload_n 0, 1) := by decide +kernel
theorem n_107_155 : ∀ l, xpr 107 155 l = l := xpr_no (by decide +kernel)
theorem r_107_156 : xfetch 107 156 = some (.getfield 22, 3) := by decide +kernel
theorem n_107_156 : ∀ l, xpr 107 156 l = l := xpr_no (by decide +kernel)
theorem r_107_159 : xfetch 107 159 = some (.iload 5, 2) := by decide +kernel
theorem n_107_159 : ∀ l, xpr 107 159 l = l := xpr_no (by decide +kernel)
theorem r_107_161 : xfetch 107 161 = some (.iaload, 1) := by decide +kernel
theorem n_107_161 : ∀ l, xpr 107 161 l = l := xpr_no (by decide +kernel)
theorem r_107_162 : xfetch 107 162 = some (.imul, 1) := by decide +kernel
theorem n_107_162 : ∀ l, xpr 107 162 l = l := xpr_no (by decide +kernel)
theorem r_107_163 : xfetch 107 163 = some (.iadd, 1) := by decide +kernel
theorem n_107_163 : ∀ l, xpr 107 163 l = l := xpr_no (by decide +kernel)
theorem r_107_164 : xfetch 107 164 = some (.istore 4, 2) := by decide +kernel
theorem n_107_164 : ∀ l, xpr 107 164 l = l := xpr_no (by decide +kernel)
theorem r_107_166 : xfetch 107 166 = some (.iinc 5 1, 3) := by decide +kernel
theorem n_107_166 : ∀ l, xpr 107 166 l = l := xpr_no (by decide +kernel)
theorem r_107_169 : xfetch 107 169 = some (.goto (-129), 3) := by decide +kernel
theorem n_107_169 : ∀ l, xpr 107 169 l = l := xpr_no (by decide +kernel)
theorem r_107_172 : xfetch 107 172 = some (.aload_n 0, 1) := by decide +kernel
theorem n_107_172 : ∀ l, xpr 107 172 l = l := xpr_no (by decide +kernel)
theorem r_107_173 : xfetch 107 173 = some (.iload_n 3, 1) := by decide +kernel
theorem n_107_173 : ∀ l, xpr 107 173 l = l := xpr_no (by decide +kernel)
theorem r_107_174 : xfetch 107 174 = some (.ifCond .ne 10, 3) := by decide +kernel
theorem n_107_174 : ∀ l, xpr 107 174 l = l := xpr_no (by decide +kernel)
theorem r_107_177 : xfetch 107 177 = some (.aload_n 1, 1) := by decide +kernel
theorem n_107_177 : ∀ l, xpr 107 177 l = l := xpr_no (by decide +kernel)
theorem r_107_178 : xfetch 107 178 = some (.invokevirtual 62, 3) := by decide +kernel
theorem n_107_178 : ∀ l, xpr 107 178 l = l := xpr_no (by decide +kernel)
theorem r_107_181 : xfetch 107 181 = some (.goto 10, 3) := by decide +kernel
theorem n_107_181 : ∀ l, xpr 107 181 l = l := xpr_no (by decide +kernel)
theorem r_107_184 : xfetch 107 184 = some (.iload 4, 2) := by decide +kernel
theorem n_107_184 : ∀ l, xpr 107 184 l = l := xpr_no (by decide +kernel)
theorem r_107_186 : xfetch 107 186 = some (.bipush 8, 2) := by decide +kernel
theorem n_107_186 : ∀ l, xpr 107 186 l = l := xpr_no (by decide +kernel)
theorem r_107_188 : xfetch 107 188 = some (.invokestatic 58, 3) := by decide +kernel
theorem n_107_188 : ∀ l, xpr 107 188 l = l := xpr_no (by decide +kernel)
theorem r_107_191 : xfetch 107 191 = some (.putfield 66, 3) := by decide +kernel
theorem n_107_191 : ∀ l, xpr 107 191 l = l := xpr_no (by decide +kernel)
theorem r_107_194 : xfetch 107 194 = some (.aload_n 0, 1) := by decide +kernel
theorem n_107_194 : ∀ l, xpr 107 194 l = l := xpr_no (by decide +kernel)
theorem r_107_195 : xfetch 107 195 = some (.aload_n 0, 1) := by decide +kernel
theorem n_107_195 : ∀ l, xpr 107 195 l = l := xpr_no (by decide +kernel)
theorem r_107_196 : xfetch 107 196 = some (.getfield 28, 3) := by decide +kernel
theorem n_107_196 : ∀ l, xpr 107 196 l = l := xpr_no (by decide +kernel)
theorem r_107_199 : xfetch 107 199 = some (.aload_n 0, 1) := by decide +kernel
theorem n_107_199 : ∀ l, xpr 107 199 l = l := xpr_no (by decide +kernel)
theorem r_107_200 : xfetch 107 200 = some (.getfield 9, 3) := by decide +kernel
theorem n_107_200 : ∀ l, xpr 107 200 l = l := xpr_no (by decide +kernel)
theorem r_107_203 : xfetch 107 203 = some (.iadd, 1) := by decide +kernel
theorem n_107_203 : ∀ l, xpr 107 203 l = l := xpr_no (by decide +kernel)
theorem r_107_204 : xfetch 107 204 = some (.iconst 1, 1) := by decide +kernel
theorem n_107_204 : ∀ l, xpr 107 204 l = l := xpr_no (by decide +kernel)
theorem r_107_205 : xfetch 107 205 = some (.isub, 1) := by decide +kernel
theorem n_107_205 : ∀ l, xpr 107 205 l = l := xpr_no (by decide +kernel)
theorem r_107_206 : xfetch 107 206 = some (.aload_n 0, 1) := by decide +kernel
theorem n_107_206 : ∀ l, xpr 107 206 l = l := xpr_no (by decide +kernel)
theorem r_107_207 : xfetch 107 207 = some (.getfield 9, 3) := by decide +kernel
theorem n_107_207 : ∀ l, xpr 107 207 l = l := xpr_no (by decide +kernel)
theorem r_107_210 : xfetch 107 210 = some (.idiv, 1) := by decide +kernel
theorem n_107_210 : ∀ l, xpr 107 210 l = l := xpr_no (by decide +kernel)
theorem r_107_211 : xfetch 107 211 = some (.aload_n 0, 1) := by decide +kernel
theorem n_107_211 : ∀ l, xpr 107 211 l = l := xpr_no (by decide +kernel)
theorem r_107_212 : xfetch 107 212 = some (.getfield 66, 3) := by decide +kernel
theorem n_107_212 : ∀ l, xpr 107 212 l = l := xpr_no (by decide +kernel)
theorem r_107_215 : xfetch 107 215 = some (.imul, 1) := by decide +kernel
theorem n_107_215 : ∀ l, xpr 107 215 l = l := xpr_no (by decide +kernel)
theorem r_107_216 : xfetch 107 216 = some (.bipush 8, 2) := by decide +kernel
theorem n_107_216 : ∀ l, xpr 107 216 l = l := xpr_no (by decide +kernel)
theorem r_107_218 : xfetch 107 218 = some (.invokestatic 58, 3) := by decide +kernel
theorem n_107_218 : ∀ l, xpr 107 218 l = l := xpr_no (by decide +kernel)
theorem r_107_221 : xfetch 107 221 = some (.putfield 69, 3) := by decide +kernel
theorem n_107_221 : ∀ l, xpr 107 221 l = l := xpr_no (by decide +kernel)
theorem r_107_224 : xfetch 107 224 = some (.return_, 1) := by decide +kernel
theorem n_107_224 : ∀ l, xpr 107 224 l = l := xpr_no (by decide +kernel)
theorem v_View_layOut_0 {S : Option (Nat × (Nat → Int32))} {s : zSt} {Q : Option Value ⊕ Nat → zSt → Prop} {a0 : Int} {a1 : Int} {x2 : Int} {x3 : Int} (ha0 : isO a0 8) (ha1 : isO a1 4)
    (h : rng x2 ∧ (rng x3 ∧ ((x3 ≠ 1 → rng (max x3 1) ∧ (wp S 107 40 [(0, rf a0), (1, rf a1), (3, iv x3), (4, iv 0), (5, iv 0)] [] (zwI (zwI (zwI s a0 2 x2) a0 3 (zI (zwI s a0 2 x2) (a1 + 5) 0)) a0 5 (max x3 1)) Q)) ∧ (x3 = 1 → rng (max x2 1) ∧ (wp S 107 40 [(0, rf a0), (1, rf a1), (3, iv x3), (4, iv 0), (5, iv 0)] [] (zwI (zwI (zwI s a0 2 x2) a0 3 (zI (zwI s a0 2 x2) (a1 + 5) 0)) a0 5 (max x2 1)) Q))))) :
    wp S 107 0 [(0, rf a0), (1, rf a1), (2, iv x2), (3, iv x3)] [] s Q := by
  refine i_aload_n (a := a0) r_107_0 (n_107_0 _) rfl ?_
  refine i_iload_n (x := x2) r_107_1 (n_107_1 _) rfl ?_
  obtain ⟨g1, h⟩ := h
  refine i_putI (a := a0) (x := x2) r_107_2 (n_107_2 _) rfl (.inl rfl) rfl ha0 g1 ?_
  refine i_aload_n (a := a0) r_107_5 (n_107_5 _) rfl ?_
  refine i_aload_n (a := a1) r_107_6 (n_107_6 _) rfl ?_
  refine i_getR (a := a1) (b := a1 + 5) r_107_7 (n_107_7 _) rfl rfl rfl (by omega) ha1 (by omega) ?_
  have t2 := (t_4_4 ha1)
  refine i_getI (a := a1 + 5) r_107_10 (n_107_10 _) rfl (by decide) t2 (fun q3 => ?_)
  refine i_putI (a := a0) (x := zI (zwI s a0 2 x2) (a1 + 5) 0) r_107_13 (n_107_13 _) rfl (.inl rfl) rfl ha0 q3 ?_
  refine i_aload_n (a := a0) r_107_16 (n_107_16 _) rfl ?_
  refine i_iload_n (x := x3) r_107_17 (n_107_17 _) rfl ?_
  refine i_iconst r_107_18 (n_107_18 _) ?_
  obtain ⟨g4, h⟩ := h
  refine i_icmp (t := 26) r_107_19 (n_107_19 _) rfl (T_ne g4 ⟨by omega, by omega⟩) (fun c5 => ?_) (fun c5 => ?_)
  · replace h := h.1 c5
    refine i_iload_n (x := x3) r_107_26 (n_107_26 _) rfl ?_
    refine i_iconst r_107_27 (n_107_27 _) ?_
    refine wp_stat (rest := [rf a0]) (Ls := [(0, iv x3), (1, iv 1)]) r_107_28 (n_107_28 _) rfl ⟨rfl, by decide, by decide, by decide⟩ rfl rfl ⟨rfl, Nat.le_of_ble_eq_true rfl, Nat.le_of_ble_eq_true rfl⟩ rfl (K_Math_max g4 ⟨by omega, by omega⟩) ?_
    rintro _ _ ⟨rfl, rfl⟩
    refine .inl ⟨some (iv (max x3 1)), rfl, ?_⟩
    show wp S 107 31 [(0, rf a0), (1, rf a1), (2, iv x2), (3, iv x3)] [iv (max x3 1), rf a0] (zwI (zwI s a0 2 x2) a0 3 (zI (zwI s a0 2 x2) (a1 + 5) 0)) Q
    obtain ⟨g7, h⟩ := h
    refine i_putI (a := a0) (x := max x3 1) r_107_31 (n_107_31 _) rfl (.inl rfl) rfl ha0 g7 ?_
    refine i_iconst r_107_34 (n_107_34 _) ?_
    refine i_istore (l' := [(0, rf a0), (1, rf a1), (2, iv x2), (3, iv x3), (4, iv 0)]) r_107_35 (n_107_35 _) (by decide) rfl ?_
    refine i_iconst r_107_37 (n_107_37 _) ?_
    refine i_istore (l' := [(0, rf a0), (1, rf a1), (2, iv x2), (3, iv x3), (4, iv 0), (5, iv 0)]) r_107_38 (n_107_38 _) (by decide) rfl ?_
    exact wp_pr (l' := [(0, rf a0), (1, rf a1), (3, iv x3), (4, iv 0), (5, iv 0)]) rfl h
  · replace h := h.2 c5
    refine i_iload_n (x := x2) r_107_22 (n_107_22 _) rfl ?_
    refine i_goto (t := 27) r_107_23 (n_107_23 _) rfl ?_
    refine i_iconst r_107_27 (n_107_27 _) ?_
    refine wp_stat (rest := [rf a0]) (Ls := [(0, iv x2), (1, iv 1)]) r_107_28 (n_107_28 _) rfl ⟨rfl, by decide, by decide, by decide⟩ rfl rfl ⟨rfl, Nat.le_of_ble_eq_true rfl, Nat.le_of_ble_eq_true rfl⟩ rfl (K_Math_max g1 ⟨by omega, by omega⟩) ?_
    rintro _ _ ⟨rfl, rfl⟩
    refine .inl ⟨some (iv (max x2 1)), rfl, ?_⟩
    show wp S 107 31 [(0, rf a0), (1, rf a1), (2, iv x2), (3, iv x3)] [iv (max x2 1), rf a0] (zwI (zwI s a0 2 x2) a0 3 (zI (zwI s a0 2 x2) (a1 + 5) 0)) Q
    obtain ⟨g9, h⟩ := h
    refine i_putI (a := a0) (x := max x2 1) r_107_31 (n_107_31 _) rfl (.inl rfl) rfl ha0 g9 ?_
    refine i_iconst r_107_34 (n_107_34 _) ?_
    refine i_istore (l' := [(0, rf a0), (1, rf a1), (2, iv x2), (3, iv x3), (4, iv 0)]) r_107_35 (n_107_35 _) (by decide) rfl ?_
    refine i_iconst r_107_37 (n_107_37 _) ?_
    refine i_istore (l' := [(0, rf a0), (1, rf a1), (2, iv x2), (3, iv x3), (4, iv 0), (5, iv 0)]) r_107_38 (n_107_38 _) (by decide) rfl ?_
    exact wp_pr (l' := [(0, rf a0), (1, rf a1), (3, iv x3), (4, iv 0), (5, iv 0)]) rfl h
theorem v_View_layOut_40 {S : Option (Nat × (Nat → Int32))} {s : zSt} {Q : Option Value ⊕ Nat → zSt → Prop} {a0 : Int} {a1 : Int} {x3 : Int} {x4 : Int} {x5 : Int} (ha0 : isO a0 8) (ha1 : isO a1 4)
    (h : rng x5 ∧ (((zI s a0 3) ≤ x5 → rng x3 ∧ ((x3 ≠ 0 → (zp2 8) ∧ ((0 ≤ x4) ∧ ((x4 ≤ 1000000) ∧ (rng (zup x4 8) ∧ (rng (((zI s a0 2) + (zI s a0 5)) - 1) ∧ (0 ≤ (((zI s a0 2) + (zI s a0 5)) - 1) ∧ (0 < (zI s a0 5) ∧ ((0 ≤ (((((zI s a0 2) + (zI s a0 5)) - 1) / (zI s a0 5)) * (zup x4 8))) ∧ (((((((zI s a0 2) + (zI s a0 5)) - 1) / (zI s a0 5)) * (zup x4 8)) ≤ 1000000) ∧ (rng (zup (((((zI s a0 2) + (zI s a0 5)) - 1) / (zI s a0 5)) * (zup x4 8)) 8) ∧ (Q rU (zwI (zwI s a0 6 (zup x4 8)) a0 4 (zup (((((zI s a0 2) + (zI s a0 5)) - 1) / (zI s a0 5)) * (zup x4 8)) 8))))))))))))) ∧ (x3 = 0 → (zp2 (zI s a1 5)) ∧ ((0 ≤ (zI s a1 7)) ∧ (((zI s a1 7) ≤ 1000000) ∧ (rng (zup (zI s a1 7) (zI s a1 5)) ∧ (rng (((zI s a0 2) + (zI s a0 5)) - 1) ∧ (0 ≤ (((zI s a0 2) + (zI s a0 5)) - 1) ∧ (0 < (zI s a0 5) ∧ ((zp2 8) ∧ ((0 ≤ (((((zI s a0 2) + (zI s a0 5)) - 1) / (zI s a0 5)) * (zup (zI s a1 7) (zI s a1 5)))) ∧ (((((((zI s a0 2) + (zI s a0 5)) - 1) / (zI s a0 5)) * (zup (zI s a1 7) (zI s a1 5))) ≤ 1000000) ∧ (rng (zup (((((zI s a0 2) + (zI s a0 5)) - 1) / (zI s a0 5)) * (zup (zI s a1 7) (zI s a1 5))) 8) ∧ (Q rU (zwI (zwI s a0 6 (zup (zI s a1 7) (zI s a1 5))) a0 4 (zup (((((zI s a0 2) + (zI s a0 5)) - 1) / (zI s a0 5)) * (zup (zI s a1 7) (zI s a1 5))) 8)))))))))))))))) ∧ (x5 < (zI s a0 3) → (0 ≤ x5 ∧ x5 < 40) ∧ (rng (zby (zI s (a1 + 6) x5)) ∧ (rng x3 ∧ ((x3 ≠ 0 → (zp2 (zby (zI s (a1 + 6) x5))) ∧ ((0 ≤ x4) ∧ ((x4 ≤ 1000000) ∧ (rng (zup x4 (zby (zI s (a1 + 6) x5))) ∧ ((x3 ≠ 0 → wp S 107 40 [(0, rf a0), (1, rf a1), (3, iv x3), (4, iv ((zup x4 (zby (zI s (a1 + 6) x5))) + ((zI s a0 5) * (zby (zI s (a1 + 6) x5))))), (5, iv (x5 + 1))] [] (zwI (zwI (zwI (zwI s (a0 + 1) x5 (zI s (a1 + 6) x5)) (a0 + 3) x5 (zby (zI s (a1 + 6) x5))) (a0 + 2) x5 (zup x4 (zby (zI s (a1 + 6) x5)))) (a0 + 4) x5 0) Q) ∧ (x3 = 0 → wp S 107 40 [(0, rf a0), (1, rf a1), (3, iv x3), (4, iv ((zup x4 (zby (zI s (a1 + 6) x5))) + ((zI s a0 5) * (zby (zI s (a1 + 6) x5))))), (5, iv (x5 + 1))] [] (zwI (zwI (zwI (zwI s (a0 + 1) x5 (zI s (a1 + 6) x5)) (a0 + 3) x5 (zby (zI s (a1 + 6) x5))) (a0 + 2) x5 (zup x4 (zby (zI s (a1 + 6) x5)))) (a0 + 4) x5 (zI (zwI (zwI (zwI s (a0 + 1) x5 (zI s (a1 + 6) x5)) (a0 + 3) x5 (zby (zI s (a1 + 6) x5))) (a0 + 2) x5 (zup x4 (zby (zI s (a1 + 6) x5)))) (a1 + 8) x5)) Q)))))) ∧ (x3 = 0 → (x3 ≠ 0 → wp S 107 40 [(0, rf a0), (1, rf a1), (3, iv x3), (4, iv ((zI (zwI (zwI s (a0 + 1) x5 (zI s (a1 + 6) x5)) (a0 + 3) x5 (zby (zI s (a1 + 6) x5))) (a1 + 7) x5) + ((zI s a0 5) * (zby (zI s (a1 + 6) x5))))), (5, iv (x5 + 1))] [] (zwI (zwI (zwI (zwI s (a0 + 1) x5 (zI s (a1 + 6) x5)) (a0 + 3) x5 (zby (zI s (a1 + 6) x5))) (a0 + 2) x5 (zI (zwI (zwI s (a0 + 1) x5 (zI s (a1 + 6) x5)) (a0 + 3) x5 (zby (zI s (a1 + 6) x5))) (a1 + 7) x5)) (a0 + 4) x5 0) Q) ∧ (x3 = 0 → wp S 107 40 [(0, rf a0), (1, rf a1), (3, iv x3), (4, iv ((zI (zwI (zwI s (a0 + 1) x5 (zI s (a1 + 6) x5)) (a0 + 3) x5 (zby (zI s (a1 + 6) x5))) (a1 + 7) x5) + ((zI s a0 5) * (zby (zI s (a1 + 6) x5))))), (5, iv (x5 + 1))] [] (zwI (zwI (zwI (zwI s (a0 + 1) x5 (zI s (a1 + 6) x5)) (a0 + 3) x5 (zby (zI s (a1 + 6) x5))) (a0 + 2) x5 (zI (zwI (zwI s (a0 + 1) x5 (zI s (a1 + 6) x5)) (a0 + 3) x5 (zby (zI s (a1 + 6) x5))) (a1 + 7) x5)) (a0 + 4) x5 (zI (zwI (zwI (zwI s (a0 + 1) x5 (zI s (a1 + 6) x5)) (a0 + 3) x5 (zby (zI s (a1 + 6) x5))) (a0 + 2) x5 (zI (zwI (zwI s (a0 + 1) x5 (zI s (a1 + 6) x5)) (a0 + 3) x5 (zby (zI s (a1 + 6) x5))) (a1 + 7) x5)) (a1 + 8) x5)) Q)))))))) :
    wp S 107 40 [(0, rf a0), (1, rf a1), (3, iv x3), (4, iv x4), (5, iv x5)] [] s Q := by
  refine i_iload (x := x5) r_107_40 rfl rfl ?_
  refine i_aload_n (a := a0) r_107_42 (n_107_42 _) rfl ?_
  refine i_getI (a := a0) r_107_43 (n_107_43 _) rfl (by decide) ha0 (fun q1 => ?_)
  obtain ⟨g2, h⟩ := h
  refine i_icmp (t := 172) r_107_46 (n_107_46 _) rfl (T_ge g2 q1) (fun c3 => ?_) (fun c3 => ?_)
  · replace h := h.1 c3
    refine i_aload_n (a := a0) r_107_172 (n_107_172 _) rfl ?_
    refine i_iload_n (x := x3) r_107_173 (n_107_173 _) rfl ?_
    obtain ⟨g4, h⟩ := h
    refine i_if (t := 184) r_107_174 (n_107_174 _) rfl (T_ne g4 ⟨by omega, by omega⟩) (fun c5 => ?_) (fun c5 => ?_)
    · replace h := h.1 c5
      refine i_iload (x := x4) r_107_184 (n_107_184 _) rfl ?_
      refine i_bipush r_107_186 (n_107_186 _) rfl ?_
      obtain ⟨g6, h⟩ := h
      obtain ⟨g7, h⟩ := h
      obtain ⟨g8, h⟩ := h
      refine wp_stat (rest := [rf a0]) (Ls := [(0, iv x4), (1, iv 8)]) r_107_188 (n_107_188 _) rfl ⟨rfl, by decide, by decide, by decide⟩ rfl rfl ⟨rfl, Nat.le_of_ble_eq_true rfl, Nat.le_of_ble_eq_true rfl⟩ rfl (K_RL_roundUp g6 g7 g8) ?_
      rintro _ _ ⟨rfl, rfl⟩
      refine .inl ⟨some (iv (zup x4 8)), rfl, ?_⟩
      show wp S 107 191 [(0, rf a0), (1, rf a1), (3, iv x3), (4, iv x4), (5, iv x5)] [iv (zup x4 8), rf a0] s Q
      obtain ⟨g10, h⟩ := h
      refine i_putI (a := a0) (x := zup x4 8) r_107_191 (n_107_191 _) rfl (.inl rfl) rfl ha0 g10 ?_
      refine i_aload_n (a := a0) r_107_194 (n_107_194 _) rfl ?_
      refine i_aload_n (a := a0) r_107_195 (n_107_195 _) rfl ?_
      have e12 : zI (zwI s a0 6 (zup x4 8)) a0 2 = zI s a0 2 := zI_nj (by omega)
      refine i_getIe (a := a0) (x := zI s a0 2) r_107_196 (n_107_196 _) rfl (by decide) ha0 e12 (fun q11 => ?_)
      refine i_aload_n (a := a0) r_107_199 (n_107_199 _) rfl ?_
      have e14 : zI (zwI s a0 6 (zup x4 8)) a0 5 = zI s a0 5 := zI_nj (by omega)
      refine i_getIe (a := a0) (x := zI s a0 5) r_107_200 (n_107_200 _) rfl (by decide) ha0 e14 (fun q13 => ?_)
      refine i_iadd r_107_203 (n_107_203 _) ?_
      refine i_iconst r_107_204 (n_107_204 _) ?_
      refine i_isub r_107_205 (n_107_205 _) ?_
      refine i_aload_n (a := a0) r_107_206 (n_107_206 _) rfl ?_
      have e16 : zI (zwI s a0 6 (zup x4 8)) a0 5 = zI s a0 5 := zI_nj (by omega)
      refine i_getIe (a := a0) (x := zI s a0 5) r_107_207 (n_107_207 _) rfl (by decide) ha0 e16 (fun q15 => ?_)
      obtain ⟨g17, h⟩ := h
      obtain ⟨g18, h⟩ := h
      obtain ⟨g19, h⟩ := h
      refine i_idiv r_107_210 (n_107_210 _) g17 q15 (by omega) (by omega) ?_
      refine i_aload_n (a := a0) r_107_211 (n_107_211 _) rfl ?_
      have e21 : zI (zwI s a0 6 (zup x4 8)) a0 6 = zup x4 8 := zI_eq
      refine i_getIe (a := a0) (x := zup x4 8) r_107_212 (n_107_212 _) rfl (by decide) ha0 e21 (fun q20 => ?_)
      refine i_imul r_107_215 (n_107_215 _) ?_
      refine i_bipush r_107_216 (n_107_216 _) rfl ?_
      obtain ⟨g22, h⟩ := h
      obtain ⟨g23, h⟩ := h
      refine wp_stat (rest := [rf a0]) (Ls := [(0, iv (((((zI s a0 2) + (zI s a0 5)) - 1) / (zI s a0 5)) * (zup x4 8))), (1, iv 8)]) r_107_218 (n_107_218 _) rfl ⟨rfl, by decide, by decide, by decide⟩ rfl rfl ⟨rfl, Nat.le_of_ble_eq_true rfl, Nat.le_of_ble_eq_true rfl⟩ rfl (K_RL_roundUp g6 g22 g23) ?_
      rintro _ _ ⟨rfl, rfl⟩
      refine .inl ⟨some (iv (zup (((((zI s a0 2) + (zI s a0 5)) - 1) / (zI s a0 5)) * (zup x4 8)) 8)), rfl, ?_⟩
      show wp S 107 221 [(0, rf a0), (1, rf a1), (3, iv x3), (4, iv x4), (5, iv x5)] [iv (zup (((((zI s a0 2) + (zI s a0 5)) - 1) / (zI s a0 5)) * (zup x4 8)) 8), rf a0] (zwI s a0 6 (zup x4 8)) Q
      obtain ⟨g25, h⟩ := h
      refine i_putI (a := a0) (x := zup (((((zI s a0 2) + (zI s a0 5)) - 1) / (zI s a0 5)) * (zup x4 8)) 8) r_107_221 (n_107_221 _) rfl (.inl rfl) rfl ha0 g25 ?_
      exact i_return r_107_224 (n_107_224 _) rfl h
    · replace h := h.2 c5
      refine i_aload_n (a := a1) r_107_177 (n_107_177 _) rfl ?_
      obtain ⟨g26, h⟩ := h
      obtain ⟨g27, h⟩ := h
      obtain ⟨g28, h⟩ := h
      refine wp_virt (b := a1) (rest := [rf a0]) (Ls := [(0, rf a1)]) r_107_178 (n_107_178 _) rfl ⟨rfl, rfl, by decide, by decide⟩ rfl rfl ha1 ⟨rfl, Nat.le_of_ble_eq_true rfl, Nat.le_of_ble_eq_true rfl⟩ rfl (K_Shape_size ha1 g26 g27 g28) ?_
      rintro _ _ ⟨rfl, rfl⟩
      refine .inl ⟨some (iv (zup (zI s a1 7) (zI s a1 5))), rfl, ?_⟩
      show wp S 107 181 [(0, rf a0), (1, rf a1), (3, iv x3), (4, iv x4), (5, iv x5)] [iv (zup (zI s a1 7) (zI s a1 5)), rf a0] s Q
      refine i_goto (t := 191) r_107_181 (n_107_181 _) rfl ?_
      obtain ⟨g30, h⟩ := h
      refine i_putI (a := a0) (x := zup (zI s a1 7) (zI s a1 5)) r_107_191 (n_107_191 _) rfl (.inl rfl) rfl ha0 g30 ?_
      refine i_aload_n (a := a0) r_107_194 (n_107_194 _) rfl ?_
      refine i_aload_n (a := a0) r_107_195 (n_107_195 _) rfl ?_
      have e32 : zI (zwI s a0 6 (zup (zI s a1 7) (zI s a1 5))) a0 2 = zI s a0 2 := zI_nj (by omega)
      refine i_getIe (a := a0) (x := zI s a0 2) r_107_196 (n_107_196 _) rfl (by decide) ha0 e32 (fun q31 => ?_)
      refine i_aload_n (a := a0) r_107_199 (n_107_199 _) rfl ?_
      have e34 : zI (zwI s a0 6 (zup (zI s a1 7) (zI s a1 5))) a0 5 = zI s a0 5 := zI_nj (by omega)
      refine i_getIe (a := a0) (x := zI s a0 5) r_107_200 (n_107_200 _) rfl (by decide) ha0 e34 (fun q33 => ?_)
      refine i_iadd r_107_203 (n_107_203 _) ?_
      refine i_iconst r_107_204 (n_107_204 _) ?_
      refine i_isub r_107_205 (n_107_205 _) ?_
      refine i_aload_n (a := a0) r_107_206 (n_107_206 _) rfl ?_
      have e36 : zI (zwI s a0 6 (zup (zI s a1 7) (zI s a1 5))) a0 5 = zI s a0 5 := zI_nj (by omega)
      refine i_getIe (a := a0) (x := zI s a0 5) r_107_207 (n_107_207 _) rfl (by decide) ha0 e36 (fun q35 => ?_)
      obtain ⟨g37, h⟩ := h
      obtain ⟨g38, h⟩ := h
      obtain ⟨g39, h⟩ := h
      refine i_idiv r_107_210 (n_107_210 _) g37 q35 (by omega) (by omega) ?_
      refine i_aload_n (a := a0) r_107_211 (n_107_211 _) rfl ?_
      have e41 : zI (zwI s a0 6 (zup (zI s a1 7) (zI s a1 5))) a0 6 = zup (zI s a1 7) (zI s a1 5) := zI_eq
      refine i_getIe (a := a0) (x := zup (zI s a1 7) (zI s a1 5)) r_107_212 (n_107_212 _) rfl (by decide) ha0 e41 (fun q40 => ?_)
      refine i_imul r_107_215 (n_107_215 _) ?_
      refine i_bipush r_107_216 (n_107_216 _) rfl ?_
      obtain ⟨g42, h⟩ := h
      obtain ⟨g43, h⟩ := h
      obtain ⟨g44, h⟩ := h
      refine wp_stat (rest := [rf a0]) (Ls := [(0, iv (((((zI s a0 2) + (zI s a0 5)) - 1) / (zI s a0 5)) * (zup (zI s a1 7) (zI s a1 5)))), (1, iv 8)]) r_107_218 (n_107_218 _) rfl ⟨rfl, by decide, by decide, by decide⟩ rfl rfl ⟨rfl, Nat.le_of_ble_eq_true rfl, Nat.le_of_ble_eq_true rfl⟩ rfl (K_RL_roundUp g42 g43 g44) ?_
      rintro _ _ ⟨rfl, rfl⟩
      refine .inl ⟨some (iv (zup (((((zI s a0 2) + (zI s a0 5)) - 1) / (zI s a0 5)) * (zup (zI s a1 7) (zI s a1 5))) 8)), rfl, ?_⟩
      show wp S 107 221 [(0, rf a0), (1, rf a1), (3, iv x3), (4, iv x4), (5, iv x5)] [iv (zup (((((zI s a0 2) + (zI s a0 5)) - 1) / (zI s a0 5)) * (zup (zI s a1 7) (zI s a1 5))) 8), rf a0] (zwI s a0 6 (zup (zI s a1 7) (zI s a1 5))) Q
      obtain ⟨g46, h⟩ := h
      refine i_putI (a := a0) (x := zup (((((zI s a0 2) + (zI s a0 5)) - 1) / (zI s a0 5)) * (zup (zI s a1 7) (zI s a1 5))) 8) r_107_221 (n_107_221 _) rfl (.inl rfl) rfl ha0 g46 ?_
      exact i_return r_107_224 (n_107_224 _) rfl h
  · replace h := h.2 c3
    refine i_aload_n (a := a0) r_107_49 (n_107_49 _) rfl ?_
    refine i_getR (a := a0) (b := a0 + 1) r_107_50 (n_107_50 _) rfl rfl rfl (by omega) ha0 (by omega) ?_
    have t47 := (t_8_7 ha0)
    refine i_iload (x := x5) r_107_53 (n_107_53 _) rfl ?_
    refine i_aload_n (a := a1) r_107_55 (n_107_55 _) rfl ?_
    refine i_getR (a := a1) (b := a1 + 5) r_107_56 (n_107_56 _) rfl rfl rfl (by omega) ha1 (by omega) ?_
    have t48 := (t_4_4 ha1)
    refine i_getR (a := a1 + 5) (b := a1 + 6) r_107_59 (n_107_59 _) rfl rfl rfl (by omega) t48 (by omega) ?_
    have t49 := (t_2_1 t48)
    rw [show (a1 + 5) + 1 = a1 + 6 by omega] at t49
    refine i_iload (x := x5) r_107_62 (n_107_62 _) rfl ?_
    obtain ⟨g50, h⟩ := h
    refine i_iaload (a := a1 + 6) (j := x5) r_107_64 (n_107_64 _) t49 ⟨by omega, by omega⟩ (by omega) (by omega) (fun q51 => ?_)
    refine i_iastore (a := a0 + 1) (j := x5) (x := zI s (a1 + 6) x5) r_107_65 (n_107_65 _) t47 ⟨by omega, by omega⟩ (by omega) (by omega) q51 ?_
    refine i_aload_n (a := a0) r_107_66 (n_107_66 _) rfl ?_
    refine i_getR (a := a0) (b := a0 + 3) r_107_67 (n_107_67 _) rfl rfl rfl (by omega) ha0 (by omega) ?_
    have t52 := (t_8_9 ha0)
    refine i_iload (x := x5) r_107_70 (n_107_70 _) rfl ?_
    refine i_aload_n (a := a0) r_107_72 (n_107_72 _) rfl ?_
    refine i_getR (a := a0) (b := a0 + 1) r_107_73 (n_107_73 _) rfl rfl rfl (by omega) ha0 (by omega) ?_
    have t53 := (t_8_7 ha0)
    refine i_iload (x := x5) r_107_76 (n_107_76 _) rfl ?_
    refine i_iaload (a := a0 + 1) (j := x5) r_107_78 (n_107_78 _) t53 ⟨by omega, by omega⟩ (by omega) (by omega) (fun q54 => ?_)
    have e55 : zI (zwI s (a0 + 1) x5 (zI s (a1 + 6) x5)) (a0 + 1) x5 = zI s (a1 + 6) x5 := zI_eq
    rw [e55] at q54 ⊢
    refine wp_stat (rest := [iv x5, rf (a0 + 3)]) (Ls := [(0, iv (zI s (a1 + 6) x5))]) r_107_79 (n_107_79 _) rfl ⟨rfl, by decide, by decide, by decide⟩ rfl rfl ⟨rfl, Nat.le_of_ble_eq_true rfl, Nat.le_of_ble_eq_true rfl⟩ rfl (K_RL_bytesOfType q54) ?_
    rintro _ _ ⟨rfl, rfl⟩
    refine .inl ⟨some (iv (zby (zI s (a1 + 6) x5))), rfl, ?_⟩
    show wp S 107 82 [(0, rf a0), (1, rf a1), (3, iv x3), (4, iv x4), (5, iv x5)] [iv (zby (zI s (a1 + 6) x5)), iv x5, rf (a0 + 3)] (zwI s (a0 + 1) x5 (zI s (a1 + 6) x5)) Q
    obtain ⟨g57, h⟩ := h
    refine i_iastore (a := a0 + 3) (j := x5) (x := zby (zI s (a1 + 6) x5)) r_107_82 (n_107_82 _) t52 ⟨by omega, by omega⟩ (by omega) (by omega) g57 ?_
    refine i_aload_n (a := a0) r_107_83 (n_107_83 _) rfl ?_
    refine i_getR (a := a0) (b := a0 + 2) r_107_84 (n_107_84 _) rfl rfl rfl (by omega) ha0 (by omega) ?_
    have t58 := (t_8_8 ha0)
    refine i_iload (x := x5) r_107_87 (n_107_87 _) rfl ?_
    refine i_iload_n (x := x3) r_107_89 (n_107_89 _) rfl ?_
    obtain ⟨g59, h⟩ := h
    refine i_if (t := 106) r_107_90 (n_107_90 _) rfl (T_ne g59 ⟨by omega, by omega⟩) (fun c60 => ?_) (fun c60 => ?_)
    · replace h := h.1 c60
      refine i_iload (x := x4) r_107_106 (n_107_106 _) rfl ?_
      refine i_aload_n (a := a0) r_107_108 (n_107_108 _) rfl ?_
      refine i_getR (a := a0) (b := a0 + 3) r_107_109 (n_107_109 _) rfl rfl rfl (by omega) ha0 (by omega) ?_
      have t61 := (t_8_9 ha0)
      refine i_iload (x := x5) r_107_112 (n_107_112 _) rfl ?_
      refine i_iaload (a := a0 + 3) (j := x5) r_107_114 (n_107_114 _) t61 ⟨by omega, by omega⟩ (by omega) (by omega) (fun q62 => ?_)
      have e63 : zI (zwI (zwI s (a0 + 1) x5 (zI s (a1 + 6) x5)) (a0 + 3) x5 (zby (zI s (a1 + 6) x5))) (a0 + 3) x5 = zby (zI s (a1 + 6) x5) := zI_eq
      rw [e63] at q62 ⊢
      obtain ⟨g64, h⟩ := h
      obtain ⟨g65, h⟩ := h
      obtain ⟨g66, h⟩ := h
      refine wp_stat (rest := [iv x5, rf (a0 + 2)]) (Ls := [(0, iv x4), (1, iv (zby (zI s (a1 + 6) x5)))]) r_107_115 (n_107_115 _) rfl ⟨rfl, by decide, by decide, by decide⟩ rfl rfl ⟨rfl, Nat.le_of_ble_eq_true rfl, Nat.le_of_ble_eq_true rfl⟩ rfl (K_RL_roundUp g64 g65 g66) ?_
      rintro _ _ ⟨rfl, rfl⟩
      refine .inl ⟨some (iv (zup x4 (zby (zI s (a1 + 6) x5)))), rfl, ?_⟩
      show wp S 107 118 [(0, rf a0), (1, rf a1), (3, iv x3), (4, iv x4), (5, iv x5)] [iv (zup x4 (zby (zI s (a1 + 6) x5))), iv x5, rf (a0 + 2)] (zwI (zwI s (a0 + 1) x5 (zI s (a1 + 6) x5)) (a0 + 3) x5 (zby (zI s (a1 + 6) x5))) Q
      obtain ⟨g68, h⟩ := h
      refine i_iastore (a := a0 + 2) (j := x5) (x := zup x4 (zby (zI s (a1 + 6) x5))) r_107_118 (n_107_118 _) t58 ⟨by omega, by omega⟩ (by omega) (by omega) g68 ?_
      refine i_aload_n (a := a0) r_107_119 (n_107_119 _) rfl ?_
      refine i_getR (a := a0) (b := a0 + 4) r_107_120 (n_107_120 _) rfl rfl rfl (by omega) ha0 (by omega) ?_
      have t69 := (t_8_10 ha0)
      refine i_iload (x := x5) r_107_123 (n_107_123 _) rfl ?_
      refine i_iload_n (x := x3) r_107_125 (n_107_125 _) rfl ?_
      refine i_if (t := 142) r_107_126 (n_107_126 _) rfl (T_ne g59 ⟨by omega, by omega⟩) (fun c70 => ?_) (fun c70 => ?_)
      · replace h := h.1 c70
        refine i_iconst r_107_142 (n_107_142 _) ?_
        refine i_iastore (a := a0 + 4) (j := x5) (x := 0) r_107_143 (n_107_143 _) t69 ⟨by omega, by omega⟩ (by omega) (by omega) ⟨by omega, by omega⟩ ?_
        refine i_aload_n (a := a0) r_107_144 (n_107_144 _) rfl ?_
        refine i_getR (a := a0) (b := a0 + 2) r_107_145 (n_107_145 _) rfl rfl rfl (by omega) ha0 (by omega) ?_
        have t71 := (t_8_8 ha0)
        refine i_iload (x := x5) r_107_148 (n_107_148 _) rfl ?_
        refine i_iaload (a := a0 + 2) (j := x5) r_107_150 (n_107_150 _) t71 ⟨by omega, by omega⟩ (by omega) (by omega) (fun q72 => ?_)
        have e73 : zI (zwI (zwI (zwI (zwI s (a0 + 1) x5 (zI s (a1 + 6) x5)) (a0 + 3) x5 (zby (zI s (a1 + 6) x5))) (a0 + 2) x5 (zup x4 (zby (zI s (a1 + 6) x5)))) (a0 + 4) x5 0) (a0 + 2) x5 = zup x4 (zby (zI s (a1 + 6) x5)) := (zI_ne (by omega)).trans (zI_eq)
        rw [e73] at q72 ⊢
        refine i_aload_n (a := a0) r_107_151 (n_107_151 _) rfl ?_
        have e75 : zI (zwI (zwI (zwI (zwI s (a0 + 1) x5 (zI s (a1 + 6) x5)) (a0 + 3) x5 (zby (zI s (a1 + 6) x5))) (a0 + 2) x5 (zup x4 (zby (zI s (a1 + 6) x5)))) (a0 + 4) x5 0) a0 5 = zI s a0 5 := (zI_ne (by omega)).trans ((zI_ne (by omega)).trans ((zI_ne (by omega)).trans (zI_ne (by omega))))
        refine i_getIe (a := a0) (x := zI s a0 5) r_107_152 (n_107_152 _) rfl (by decide) ha0 e75 (fun q74 => ?_)
        refine i_aload_n (a := a0) r_107_155 (n_107_155 _) rfl ?_
        refine i_getR (a := a0) (b := a0 + 3) r_107_156 (n_107_156 _) rfl rfl rfl (by omega) ha0 (by omega) ?_
        have t76 := (t_8_9 ha0)
        refine i_iload (x := x5) r_107_159 (n_107_159 _) rfl ?_
        refine i_iaload (a := a0 + 3) (j := x5) r_107_161 (n_107_161 _) t76 ⟨by omega, by omega⟩ (by omega) (by omega) (fun q77 => ?_)
        have e78 : zI (zwI (zwI (zwI (zwI s (a0 + 1) x5 (zI s (a1 + 6) x5)) (a0 + 3) x5 (zby (zI s (a1 + 6) x5))) (a0 + 2) x5 (zup x4 (zby (zI s (a1 + 6) x5)))) (a0 + 4) x5 0) (a0 + 3) x5 = zby (zI s (a1 + 6) x5) := (zI_ne (by omega)).trans ((zI_ne (by omega)).trans (zI_eq))
        rw [e78] at q77 ⊢
        refine i_imul r_107_162 (n_107_162 _) ?_
        refine i_iadd r_107_163 (n_107_163 _) ?_
        refine i_istore (l' := [(0, rf a0), (1, rf a1), (3, iv x3), (4, iv ((zup x4 (zby (zI s (a1 + 6) x5))) + ((zI s a0 5) * (zby (zI s (a1 + 6) x5))))), (5, iv x5)]) r_107_164 (n_107_164 _) (by decide) rfl ?_
        refine i_iinc (x := x5) (l' := [(0, rf a0), (1, rf a1), (3, iv x3), (4, iv ((zup x4 (zby (zI s (a1 + 6) x5))) + ((zI s a0 5) * (zby (zI s (a1 + 6) x5))))), (5, iv (x5 + 1))]) r_107_166 (n_107_166 _) (by decide) rfl rfl ?_
        refine i_goto (t := 40) r_107_169 (n_107_169 _) rfl ?_
        exact wp_pr (l' := [(0, rf a0), (1, rf a1), (3, iv x3), (4, iv ((zup x4 (zby (zI s (a1 + 6) x5))) + ((zI s a0 5) * (zby (zI s (a1 + 6) x5))))), (5, iv (x5 + 1))]) rfl h
      · replace h := h.2 c70
        refine i_aload_n (a := a1) r_107_129 (n_107_129 _) rfl ?_
        refine i_getR (a := a1) (b := a1 + 5) r_107_130 (n_107_130 _) rfl rfl rfl (by omega) ha1 (by omega) ?_
        have t79 := (t_4_4 ha1)
        refine i_getR (a := a1 + 5) (b := a1 + 8) r_107_133 (n_107_133 _) rfl rfl rfl (by omega) t79 (by omega) ?_
        have t80 := (t_2_3 t79)
        rw [show (a1 + 5) + 3 = a1 + 8 by omega] at t80
        refine i_iload (x := x5) r_107_136 (n_107_136 _) rfl ?_
        refine i_iaload (a := a1 + 8) (j := x5) r_107_138 (n_107_138 _) t80 ⟨by omega, by omega⟩ (by omega) (by omega) (fun q81 => ?_)
        refine i_goto (t := 143) r_107_139 (n_107_139 _) rfl ?_
        refine i_iastore (a := a0 + 4) (j := x5) (x := zI (zwI (zwI (zwI s (a0 + 1) x5 (zI s (a1 + 6) x5)) (a0 + 3) x5 (zby (zI s (a1 + 6) x5))) (a0 + 2) x5 (zup x4 (zby (zI s (a1 + 6) x5)))) (a1 + 8) x5) r_107_143 (n_107_143 _) t69 ⟨by omega, by omega⟩ (by omega) (by omega) q81 ?_
        refine i_aload_n (a := a0) r_107_144 (n_107_144 _) rfl ?_
        refine i_getR (a := a0) (b := a0 + 2) r_107_145 (n_107_145 _) rfl rfl rfl (by omega) ha0 (by omega) ?_
        have t82 := (t_8_8 ha0)
        refine i_iload (x := x5) r_107_148 (n_107_148 _) rfl ?_
        refine i_iaload (a := a0 + 2) (j := x5) r_107_150 (n_107_150 _) t82 ⟨by omega, by omega⟩ (by omega) (by omega) (fun q83 => ?_)
        have e84 : zI (zwI (zwI (zwI (zwI s (a0 + 1) x5 (zI s (a1 + 6) x5)) (a0 + 3) x5 (zby (zI s (a1 + 6) x5))) (a0 + 2) x5 (zup x4 (zby (zI s (a1 + 6) x5)))) (a0 + 4) x5 (zI (zwI (zwI (zwI s (a0 + 1) x5 (zI s (a1 + 6) x5)) (a0 + 3) x5 (zby (zI s (a1 + 6) x5))) (a0 + 2) x5 (zup x4 (zby (zI s (a1 + 6) x5)))) (a1 + 8) x5)) (a0 + 2) x5 = zup x4 (zby (zI s (a1 + 6) x5)) := (zI_ne (by omega)).trans (zI_eq)
        rw [e84] at q83 ⊢
        refine i_aload_n (a := a0) r_107_151 (n_107_151 _) rfl ?_
        have e86 : zI (zwI (zwI (zwI (zwI s (a0 + 1) x5 (zI s (a1 + 6) x5)) (a0 + 3) x5 (zby (zI s (a1 + 6) x5))) (a0 + 2) x5 (zup x4 (zby (zI s (a1 + 6) x5)))) (a0 + 4) x5 (zI (zwI (zwI (zwI s (a0 + 1) x5 (zI s (a1 + 6) x5)) (a0 + 3) x5 (zby (zI s (a1 + 6) x5))) (a0 + 2) x5 (zup x4 (zby (zI s (a1 + 6) x5)))) (a1 + 8) x5)) a0 5 = zI s a0 5 := (zI_ne (by omega)).trans ((zI_ne (by omega)).trans ((zI_ne (by omega)).trans (zI_ne (by omega))))
        refine i_getIe (a := a0) (x := zI s a0 5) r_107_152 (n_107_152 _) rfl (by decide) ha0 e86 (fun q85 => ?_)
        refine i_aload_n (a := a0) r_107_155 (n_107_155 _) rfl ?_
        refine i_getR (a := a0) (b := a0 + 3) r_107_156 (n_107_156 _) rfl rfl rfl (by omega) ha0 (by omega) ?_
        have t87 := (t_8_9 ha0)
        refine i_iload (x := x5) r_107_159 (n_107_159 _) rfl ?_
        refine i_iaload (a := a0 + 3) (j := x5) r_107_161 (n_107_161 _) t87 ⟨by omega, by omega⟩ (by omega) (by omega) (fun q88 => ?_)
        have e89 : zI (zwI (zwI (zwI (zwI s (a0 + 1) x5 (zI s (a1 + 6) x5)) (a0 + 3) x5 (zby (zI s (a1 + 6) x5))) (a0 + 2) x5 (zup x4 (zby (zI s (a1 + 6) x5)))) (a0 + 4) x5 (zI (zwI (zwI (zwI s (a0 + 1) x5 (zI s (a1 + 6) x5)) (a0 + 3) x5 (zby (zI s (a1 + 6) x5))) (a0 + 2) x5 (zup x4 (zby (zI s (a1 + 6) x5)))) (a1 + 8) x5)) (a0 + 3) x5 = zby (zI s (a1 + 6) x5) := (zI_ne (by omega)).trans ((zI_ne (by omega)).trans (zI_eq))
        rw [e89] at q88 ⊢
        refine i_imul r_107_162 (n_107_162 _) ?_
        refine i_iadd r_107_163 (n_107_163 _) ?_
        refine i_istore (l' := [(0, rf a0), (1, rf a1), (3, iv x3), (4, iv ((zup x4 (zby (zI s (a1 + 6) x5))) + ((zI s a0 5) * (zby (zI s (a1 + 6) x5))))), (5, iv x5)]) r_107_164 (n_107_164 _) (by decide) rfl ?_
        refine i_iinc (x := x5) (l' := [(0, rf a0), (1, rf a1), (3, iv x3), (4, iv ((zup x4 (zby (zI s (a1 + 6) x5))) + ((zI s a0 5) * (zby (zI s (a1 + 6) x5))))), (5, iv (x5 + 1))]) r_107_166 (n_107_166 _) (by decide) rfl rfl ?_
        refine i_goto (t := 40) r_107_169 (n_107_169 _) rfl ?_
        exact wp_pr (l' := [(0, rf a0), (1, rf a1), (3, iv x3), (4, iv ((zup x4 (zby (zI s (a1 + 6) x5))) + ((zI s a0 5) * (zby (zI s (a1 + 6) x5))))), (5, iv (x5 + 1))]) rfl h
    · replace h := h.2 c60
      refine i_aload_n (a := a1) r_107_93 (n_107_93 _) rfl ?_
      refine i_getR (a := a1) (b := a1 + 5) r_107_94 (n_107_94 _) rfl rfl rfl (by omega) ha1 (by omega) ?_
      have t90 := (t_4_4 ha1)
      refine i_getR (a := a1 + 5) (b := a1 + 7) r_107_97 (n_107_97 _) rfl rfl rfl (by omega) t90 (by omega) ?_
      have t91 := (t_2_2 t90)
      rw [show (a1 + 5) + 2 = a1 + 7 by omega] at t91
      refine i_iload (x := x5) r_107_100 (n_107_100 _) rfl ?_
      refine i_iaload (a := a1 + 7) (j := x5) r_107_102 (n_107_102 _) t91 ⟨by omega, by omega⟩ (by omega) (by omega) (fun q92 => ?_)
      refine i_goto (t := 118) r_107_103 (n_107_103 _) rfl ?_
      refine i_iastore (a := a0 + 2) (j := x5) (x := zI (zwI (zwI s (a0 + 1) x5 (zI s (a1 + 6) x5)) (a0 + 3) x5 (zby (zI s (a1 + 6) x5))) (a1 + 7) x5) r_107_118 (n_107_118 _) t58 ⟨by omega, by omega⟩ (by omega) (by omega) q92 ?_
      refine i_aload_n (a := a0) r_107_119 (n_107_119 _) rfl ?_
      refine i_getR (a := a0) (b := a0 + 4) r_107_120 (n_107_120 _) rfl rfl rfl (by omega) ha0 (by omega) ?_
      have t93 := (t_8_10 ha0)
      refine i_iload (x := x5) r_107_123 (n_107_123 _) rfl ?_
      refine i_iload_n (x := x3) r_107_125 (n_107_125 _) rfl ?_
      refine i_if (t := 142) r_107_126 (n_107_126 _) rfl (T_ne g59 ⟨by omega, by omega⟩) (fun c94 => ?_) (fun c94 => ?_)
      · replace h := h.1 c94
        refine i_iconst r_107_142 (n_107_142 _) ?_
        refine i_iastore (a := a0 + 4) (j := x5) (x := 0) r_107_143 (n_107_143 _) t93 ⟨by omega, by omega⟩ (by omega) (by omega) ⟨by omega, by omega⟩ ?_
        refine i_aload_n (a := a0) r_107_144 (n_107_144 _) rfl ?_
        refine i_getR (a := a0) (b := a0 + 2) r_107_145 (n_107_145 _) rfl rfl rfl (by omega) ha0 (by omega) ?_
        have t95 := (t_8_8 ha0)
        refine i_iload (x := x5) r_107_148 (n_107_148 _) rfl ?_
        refine i_iaload (a := a0 + 2) (j := x5) r_107_150 (n_107_150 _) t95 ⟨by omega, by omega⟩ (by omega) (by omega) (fun q96 => ?_)
        have e97 : zI (zwI (zwI (zwI (zwI s (a0 + 1) x5 (zI s (a1 + 6) x5)) (a0 + 3) x5 (zby (zI s (a1 + 6) x5))) (a0 + 2) x5 (zI (zwI (zwI s (a0 + 1) x5 (zI s (a1 + 6) x5)) (a0 + 3) x5 (zby (zI s (a1 + 6) x5))) (a1 + 7) x5)) (a0 + 4) x5 0) (a0 + 2) x5 = zI (zwI (zwI s (a0 + 1) x5 (zI s (a1 + 6) x5)) (a0 + 3) x5 (zby (zI s (a1 + 6) x5))) (a1 + 7) x5 := (zI_ne (by omega)).trans (zI_eq)
        rw [e97] at q96 ⊢
        refine i_aload_n (a := a0) r_107_151 (n_107_151 _) rfl ?_
        have e99 : zI (zwI (zwI (zwI (zwI s (a0 + 1) x5 (zI s (a1 + 6) x5)) (a0 + 3) x5 (zby (zI s (a1 + 6) x5))) (a0 + 2) x5 (zI (zwI (zwI s (a0 + 1) x5 (zI s (a1 + 6) x5)) (a0 + 3) x5 (zby (zI s (a1 + 6) x5))) (a1 + 7) x5)) (a0 + 4) x5 0) a0 5 = zI s a0 5 := (zI_ne (by omega)).trans ((zI_ne (by omega)).trans ((zI_ne (by omega)).trans (zI_ne (by omega))))
        refine i_getIe (a := a0) (x := zI s a0 5) r_107_152 (n_107_152 _) rfl (by decide) ha0 e99 (fun q98 => ?_)
        refine i_aload_n (a := a0) r_107_155 (n_107_155 _) rfl ?_
        refine i_getR (a := a0) (b := a0 + 3) r_107_156 (n_107_156 _) rfl rfl rfl (by omega) ha0 (by omega) ?_
        have t100 := (t_8_9 ha0)
        refine i_iload (x := x5) r_107_159 (n_107_159 _) rfl ?_
        refine i_iaload (a := a0 + 3) (j := x5) r_107_161 (n_107_161 _) t100 ⟨by omega, by omega⟩ (by omega) (by omega) (fun q101 => ?_)
        have e102 : zI (zwI (zwI (zwI (zwI s (a0 + 1) x5 (zI s (a1 + 6) x5)) (a0 + 3) x5 (zby (zI s (a1 + 6) x5))) (a0 + 2) x5 (zI (zwI (zwI s (a0 + 1) x5 (zI s (a1 + 6) x5)) (a0 + 3) x5 (zby (zI s (a1 + 6) x5))) (a1 + 7) x5)) (a0 + 4) x5 0) (a0 + 3) x5 = zby (zI s (a1 + 6) x5) := (zI_ne (by omega)).trans ((zI_ne (by omega)).trans (zI_eq))
        rw [e102] at q101 ⊢
        refine i_imul r_107_162 (n_107_162 _) ?_
        refine i_iadd r_107_163 (n_107_163 _) ?_
        refine i_istore (l' := [(0, rf a0), (1, rf a1), (3, iv x3), (4, iv ((zI (zwI (zwI s (a0 + 1) x5 (zI s (a1 + 6) x5)) (a0 + 3) x5 (zby (zI s (a1 + 6) x5))) (a1 + 7) x5) + ((zI s a0 5) * (zby (zI s (a1 + 6) x5))))), (5, iv x5)]) r_107_164 (n_107_164 _) (by decide) rfl ?_
        refine i_iinc (x := x5) (l' := [(0, rf a0), (1, rf a1), (3, iv x3), (4, iv ((zI (zwI (zwI s (a0 + 1) x5 (zI s (a1 + 6) x5)) (a0 + 3) x5 (zby (zI s (a1 + 6) x5))) (a1 + 7) x5) + ((zI s a0 5) * (zby (zI s (a1 + 6) x5))))), (5, iv (x5 + 1))]) r_107_166 (n_107_166 _) (by decide) rfl rfl ?_
        refine i_goto (t := 40) r_107_169 (n_107_169 _) rfl ?_
        exact wp_pr (l' := [(0, rf a0), (1, rf a1), (3, iv x3), (4, iv ((zI (zwI (zwI s (a0 + 1) x5 (zI s (a1 + 6) x5)) (a0 + 3) x5 (zby (zI s (a1 + 6) x5))) (a1 + 7) x5) + ((zI s a0 5) * (zby (zI s (a1 + 6) x5))))), (5, iv (x5 + 1))]) rfl h
      · replace h := h.2 c94
        refine i_aload_n (a := a1) r_107_129 (n_107_129 _) rfl ?_
        refine i_getR (a := a1) (b := a1 + 5) r_107_130 (n_107_130 _) rfl rfl rfl (by omega) ha1 (by omega) ?_
        have t103 := (t_4_4 ha1)
        refine i_getR (a := a1 + 5) (b := a1 + 8) r_107_133 (n_107_133 _) rfl rfl rfl (by omega) t103 (by omega) ?_
        have t104 := (t_2_3 t103)
        rw [show (a1 + 5) + 3 = a1 + 8 by omega] at t104
        refine i_iload (x := x5) r_107_136 (n_107_136 _) rfl ?_
        refine i_iaload (a := a1 + 8) (j := x5) r_107_138 (n_107_138 _) t104 ⟨by omega, by omega⟩ (by omega) (by omega) (fun q105 => ?_)
        refine i_goto (t := 143) r_107_139 (n_107_139 _) rfl ?_
        refine i_iastore (a := a0 + 4) (j := x5) (x := zI (zwI (zwI (zwI s (a0 + 1) x5 (zI s (a1 + 6) x5)) (a0 + 3) x5 (zby (zI s (a1 + 6) x5))) (a0 + 2) x5 (zI (zwI (zwI s (a0 + 1) x5 (zI s (a1 + 6) x5)) (a0 + 3) x5 (zby (zI s (a1 + 6) x5))) (a1 + 7) x5)) (a1 + 8) x5) r_107_143 (n_107_143 _) t93 ⟨by omega, by omega⟩ (by omega) (by omega) q105 ?_
        refine i_aload_n (a := a0) r_107_144 (n_107_144 _) rfl ?_
        refine i_getR (a := a0) (b := a0 + 2) r_107_145 (n_107_145 _) rfl rfl rfl (by omega) ha0 (by omega) ?_
        have t106 := (t_8_8 ha0)
        refine i_iload (x := x5) r_107_148 (n_107_148 _) rfl ?_
        refine i_iaload (a := a0 + 2) (j := x5) r_107_150 (n_107_150 _) t106 ⟨by omega, by omega⟩ (by omega) (by omega) (fun q107 => ?_)
        have e108 : zI (zwI (zwI (zwI (zwI s (a0 + 1) x5 (zI s (a1 + 6) x5)) (a0 + 3) x5 (zby (zI s (a1 + 6) x5))) (a0 + 2) x5 (zI (zwI (zwI s (a0 + 1) x5 (zI s (a1 + 6) x5)) (a0 + 3) x5 (zby (zI s (a1 + 6) x5))) (a1 + 7) x5)) (a0 + 4) x5 (zI (zwI (zwI (zwI s (a0 + 1) x5 (zI s (a1 + 6) x5)) (a0 + 3) x5 (zby (zI s (a1 + 6) x5))) (a0 + 2) x5 (zI (zwI (zwI s (a0 + 1) x5 (zI s (a1 + 6) x5)) (a0 + 3) x5 (zby (zI s (a1 + 6) x5))) (a1 + 7) x5)) (a1 + 8) x5)) (a0 + 2) x5 = zI (zwI (zwI s (a0 + 1) x5 (zI s (a1 + 6) x5)) (a0 + 3) x5 (zby (zI s (a1 + 6) x5))) (a1 + 7) x5 := (zI_ne (by omega)).trans (zI_eq)
        rw [e108] at q107 ⊢
        refine i_aload_n (a := a0) r_107_151 (n_107_151 _) rfl ?_
        have e110 : zI (zwI (zwI (zwI (zwI s (a0 + 1) x5 (zI s (a1 + 6) x5)) (a0 + 3) x5 (zby (zI s (a1 + 6) x5))) (a0 + 2) x5 (zI (zwI (zwI s (a0 + 1) x5 (zI s (a1 + 6) x5)) (a0 + 3) x5 (zby (zI s (a1 + 6) x5))) (a1 + 7) x5)) (a0 + 4) x5 (zI (zwI (zwI (zwI s (a0 + 1) x5 (zI s (a1 + 6) x5)) (a0 + 3) x5 (zby (zI s (a1 + 6) x5))) (a0 + 2) x5 (zI (zwI (zwI s (a0 + 1) x5 (zI s (a1 + 6) x5)) (a0 + 3) x5 (zby (zI s (a1 + 6) x5))) (a1 + 7) x5)) (a1 + 8) x5)) a0 5 = zI s a0 5 := (zI_ne (by omega)).trans ((zI_ne (by omega)).trans ((zI_ne (by omega)).trans (zI_ne (by omega))))
        refine i_getIe (a := a0) (x := zI s a0 5) r_107_152 (n_107_152 _) rfl (by decide) ha0 e110 (fun q109 => ?_)
        refine i_aload_n (a := a0) r_107_155 (n_107_155 _) rfl ?_
        refine i_getR (a := a0) (b := a0 + 3) r_107_156 (n_107_156 _) rfl rfl rfl (by omega) ha0 (by omega) ?_
        have t111 := (t_8_9 ha0)
        refine i_iload (x := x5) r_107_159 (n_107_159 _) rfl ?_
        refine i_iaload (a := a0 + 3) (j := x5) r_107_161 (n_107_161 _) t111 ⟨by omega, by omega⟩ (by omega) (by omega) (fun q112 => ?_)
        have e113 : zI (zwI (zwI (zwI (zwI s (a0 + 1) x5 (zI s (a1 + 6) x5)) (a0 + 3) x5 (zby (zI s (a1 + 6) x5))) (a0 + 2) x5 (zI (zwI (zwI s (a0 + 1) x5 (zI s (a1 + 6) x5)) (a0 + 3) x5 (zby (zI s (a1 + 6) x5))) (a1 + 7) x5)) (a0 + 4) x5 (zI (zwI (zwI (zwI s (a0 + 1) x5 (zI s (a1 + 6) x5)) (a0 + 3) x5 (zby (zI s (a1 + 6) x5))) (a0 + 2) x5 (zI (zwI (zwI s (a0 + 1) x5 (zI s (a1 + 6) x5)) (a0 + 3) x5 (zby (zI s (a1 + 6) x5))) (a1 + 7) x5)) (a1 + 8) x5)) (a0 + 3) x5 = zby (zI s (a1 + 6) x5) := (zI_ne (by omega)).trans ((zI_ne (by omega)).trans (zI_eq))
        rw [e113] at q112 ⊢
        refine i_imul r_107_162 (n_107_162 _) ?_
        refine i_iadd r_107_163 (n_107_163 _) ?_
        refine i_istore (l' := [(0, rf a0), (1, rf a1), (3, iv x3), (4, iv ((zI (zwI (zwI s (a0 + 1) x5 (zI s (a1 + 6) x5)) (a0 + 3) x5 (zby (zI s (a1 + 6) x5))) (a1 + 7) x5) + ((zI s a0 5) * (zby (zI s (a1 + 6) x5))))), (5, iv x5)]) r_107_164 (n_107_164 _) (by decide) rfl ?_
        refine i_iinc (x := x5) (l' := [(0, rf a0), (1, rf a1), (3, iv x3), (4, iv ((zI (zwI (zwI s (a0 + 1) x5 (zI s (a1 + 6) x5)) (a0 + 3) x5 (zby (zI s (a1 + 6) x5))) (a1 + 7) x5) + ((zI s a0 5) * (zby (zI s (a1 + 6) x5))))), (5, iv (x5 + 1))]) r_107_166 (n_107_166 _) (by decide) rfl rfl ?_
        refine i_goto (t := 40) r_107_169 (n_107_169 _) rfl ?_
        exact wp_pr (l' := [(0, rf a0), (1, rf a1), (3, iv x3), (4, iv ((zI (zwI (zwI s (a0 + 1) x5 (zI s (a1 + 6) x5)) (a0 + 3) x5 (zby (zI s (a1 + 6) x5))) (a1 + 7) x5) + ((zI s a0 5) * (zby (zI s (a1 + 6) x5))))), (5, iv (x5 + 1))]) rfl h
theorem r_108_0 : xfetch 108 0 = some (.iconst 0, 1) := by decide +kernel
theorem n_108_0 : ∀ l, xpr 108 0 l = l := xpr_no (by decide +kernel)
theorem r_108_1 : xfetch 108 1 = some (.istore_n 2, 1) := by decide +kernel
theorem n_108_1 : ∀ l, xpr 108 1 l = l := xpr_no (by decide +kernel)
theorem r_108_2 : xfetch 108 2 = some (.iload_n 2, 1) := by decide +kernel
theorem r_108_3 : xfetch 108 3 = some (.sipush 1024, 3) := by decide +kernel
theorem n_108_3 : ∀ l, xpr 108 3 l = l := xpr_no (by decide +kernel)
theorem r_108_6 : xfetch 108 6 = some (.if_icmp .ge 20, 3) := by decide +kernel
theorem n_108_6 : ∀ l, xpr 108 6 l = l := xpr_no (by decide +kernel)
theorem r_108_9 : xfetch 108 9 = some (.aload_n 0, 1) := by decide +kernel
theorem n_108_9 : ∀ l, xpr 108 9 l = l := xpr_no (by decide +kernel)
theorem r_108_10 : xfetch 108 10 = some (.iload_n 2, 1) := by decide +kernel
theorem n_108_10 : ∀ l, xpr 108 10 l = l := xpr_no (by decide +kernel)
theorem r_108_11 : xfetch 108 11 = some (.invokevirtual 316, 3) := by decide +kernel
theorem n_108_11 : ∀ l, xpr 108 11 l = l := xpr_no (by decide +kernel)
theorem r_108_14 : xfetch 108 14 = some (.iload_n 1, 1) := by decide +kernel
theorem n_108_14 : ∀ l, xpr 108 14 l = l := xpr_no (by decide +kernel)
theorem r_108_15 : xfetch 108 15 = some (.if_icmp .lt 5, 3) := by decide +kernel
theorem n_108_15 : ∀ l, xpr 108 15 l = l := xpr_no (by decide +kernel)
theorem r_108_18 : xfetch 108 18 = some (.iload_n 2, 1) := by decide +kernel
theorem n_108_18 : ∀ l, xpr 108 18 l = l := xpr_no (by decide +kernel)
theorem r_108_19 : xfetch 108 19 = some (.ireturn, 1) := by decide +kernel
theorem n_108_19 : ∀ l, xpr 108 19 l = l := xpr_no (by decide +kernel)
theorem r_108_20 : xfetch 108 20 = some (.iinc 2 16, 3) := by decide +kernel
theorem n_108_20 : ∀ l, xpr 108 20 l = l := xpr_no (by decide +kernel)
theorem r_108_23 : xfetch 108 23 = some (.goto (-21), 3) := by decide +kernel
theorem n_108_23 : ∀ l, xpr 108 23 l = l := xpr_no (by decide +kernel)
theorem r_108_26 : xfetch 108 26 = some (.iconst (-1), 1) := by decide +kernel
theorem n_108_26 : ∀ l, xpr 108 26 l = l := xpr_no (by decide +kernel)
theorem r_108_27 : xfetch 108 27 = some (.ireturn, 1) := by decide +kernel
theorem n_108_27 : ∀ l, xpr 108 27 l = l := xpr_no (by decide +kernel)
theorem v_RL_findRoom_0 {S : Option (Nat × (Nat → Int32))} {s : zSt} {Q : Option Value ⊕ Nat → zSt → Prop} {x1 : Int} 
    (h : wp S 108 2 [(0, rf 2), (1, iv x1), (2, iv 0)] [] s Q) :
    wp S 108 0 [(0, rf 2), (1, iv x1)] [] s Q := by
  refine i_iconst r_108_0 (n_108_0 _) ?_
  refine i_istore_n (l' := [(0, rf 2), (1, iv x1), (2, iv 0)]) r_108_1 (n_108_1 _) (by decide) rfl ?_
  exact wp_pr (l' := [(0, rf 2), (1, iv x1), (2, iv 0)]) rfl h
theorem v_RL_findRoom_2 {S : Option (Nat × (Nat → Int32))} {s : zSt} {Q : Option Value ⊕ Nat → zSt → Prop} {x1 : Int} {x2 : Int} 
    (h : rng x2 ∧ ((1024 ≤ x2 → Q (rI (-1)) s) ∧ (x2 < 1024 → wp S 14 0 [(0, rf 2), (1, iv x2)] [] s (fun o3 s3 => zkI (fun y3 => rng x1 ∧ ((y3 < x1 → wp S 108 2 [(0, rf 2), (1, iv x1), (2, iv (x2 + 16))] [] s3 Q) ∧ (x1 ≤ y3 → Q (rI x2) s3))) (fun e3 => False) o3)))) :
    wp S 108 2 [(0, rf 2), (1, iv x1), (2, iv x2)] [] s Q := by
  refine i_iload_n (x := x2) r_108_2 rfl rfl ?_
  refine i_sipush r_108_3 (n_108_3 _) rfl ?_
  obtain ⟨g1, h⟩ := h
  refine i_icmp (t := 26) r_108_6 (n_108_6 _) rfl (T_ge g1 ⟨by omega, by omega⟩) (fun c2 => ?_) (fun c2 => ?_)
  · replace h := h.1 c2
    refine i_iconst r_108_26 (n_108_26 _) ?_
    exact i_ireturn r_108_27 (n_108_27 _) rfl h
  · replace h := h.2 c2
    refine i_aload_n (a := 2) r_108_9 (n_108_9 _) rfl ?_
    refine i_iload_n (x := x2) r_108_10 (n_108_10 _) rfl ?_
    refine wp_virt (b := 2) (rest := []) (Ls := [(0, rf 2), (1, iv x2)]) r_108_11 (n_108_11 _) rfl ⟨rfl, rfl, by decide, by decide⟩ rfl rfl lf_2 ⟨rfl, Nat.le_of_ble_eq_true rfl, Nat.le_of_ble_eq_true rfl⟩ rfl h ?_
    intro o3 s3 h
    rcases h with ⟨y3, q4, rfl, h⟩ | ⟨e3, rfl, h⟩
    · refine .inl ⟨some (iv y3), rfl, ?_⟩
      show wp S 108 14 [(0, rf 2), (1, iv x1), (2, iv x2)] [iv y3] s3 Q
      refine i_iload_n (x := x1) r_108_14 (n_108_14 _) rfl ?_
      obtain ⟨g5, h⟩ := h
      refine i_icmp (t := 20) r_108_15 (n_108_15 _) rfl (T_lt q4 g5) (fun c6 => ?_) (fun c6 => ?_)
      · replace h := h.1 c6
        refine i_iinc (x := x2) (l' := [(0, rf 2), (1, iv x1), (2, iv (x2 + 16))]) r_108_20 (n_108_20 _) (by decide) rfl rfl ?_
        refine i_goto (t := 2) r_108_23 (n_108_23 _) rfl ?_
        exact wp_pr (l' := [(0, rf 2), (1, iv x1), (2, iv (x2 + 16))]) rfl h
      · replace h := h.2 c6
        refine i_iload_n (x := x2) r_108_18 (n_108_18 _) rfl ?_
        exact i_ireturn r_108_19 (n_108_19 _) rfl h
    · skip
      exact h.elim
theorem r_109_0 : xfetch 109 0 = some (.iload_n 1, 1) := by decide +kernel
theorem n_109_0 : ∀ l, xpr 109 0 l = l := xpr_no (by decide +kernel)
theorem r_109_1 : xfetch 109 1 = some (.iload_n 2, 1) := by decide +kernel
theorem n_109_1 : ∀ l, xpr 109 1 l = l := xpr_no (by decide +kernel)
theorem r_109_2 : xfetch 109 2 = some (.iadd, 1) := by decide +kernel
theorem n_109_2 : ∀ l, xpr 109 2 l = l := xpr_no (by decide +kernel)
theorem r_109_3 : xfetch 109 3 = some (.sipush 1024, 3) := by decide +kernel
theorem n_109_3 : ∀ l, xpr 109 3 l = l := xpr_no (by decide +kernel)
theorem r_109_6 : xfetch 109 6 = some (.invokestatic 472, 3) := by decide +kernel
theorem n_109_6 : ∀ l, xpr 109 6 l = l := xpr_no (by decide +kernel)
theorem r_109_9 : xfetch 109 9 = some (.istore_n 3, 1) := by decide +kernel
theorem n_109_9 : ∀ l, xpr 109 9 l = l := xpr_no (by decide +kernel)
theorem r_109_10 : xfetch 109 10 = some (.iload_n 1, 1) := by decide +kernel
theorem n_109_10 : ∀ l, xpr 109 10 l = l := xpr_no (by decide +kernel)
theorem r_109_11 : xfetch 109 11 = some (.iconst 0, 1) := by decide +kernel
theorem n_109_11 : ∀ l, xpr 109 11 l = l := xpr_no (by decide +kernel)
theorem r_109_12 : xfetch 109 12 = some (.invokestatic 319, 3) := by decide +kernel
theorem n_109_12 : ∀ l, xpr 109 12 l = l := xpr_no (by decide +kernel)
theorem r_109_15 : xfetch 109 15 = some (.istore 4, 2) := by decide +kernel
theorem n_109_15 : ∀ l, xpr 109 15 l = l := xpr_no (by decide +kernel)
theorem r_109_17 : xfetch 109 17 = some (.iload 4, 2) := by decide +kernel
theorem r_109_19 : xfetch 109 19 = some (.iload_n 3, 1) := by decide +kernel
theorem n_109_19 : ∀ l, xpr 109 19 l = l := xpr_no (by decide +kernel)
theorem r_109_20 : xfetch 109 20 = some (.if_icmp .ge 20, 3) := by decide +kernel
theorem n_109_20 : ∀ l, xpr 109 20 l = l := xpr_no (by decide +kernel)
theorem r_109_23 : xfetch 109 23 = some (.aload_n 0, 1) := by decide +kernel
theorem n_109_23 : ∀ l, xpr 109 23 l = l := xpr_no (by decide +kernel)
theorem r_109_24 : xfetch 109 24 = some (.getfield 10, 3) := by decide +kernel
theorem n_109_24 : ∀ l, xpr 109 24 l = l := xpr_no (by decide +kernel)
theorem r_109_27 : xfetch 109 27 = some (.getfield 299, 3) := by decide +kernel
theorem n_109_27 : ∀ l, xpr 109 27 l = l := xpr_no (by decide +kernel)
theorem r_109_30 : xfetch 109 30 = some (.iload 4, 2) := by decide +kernel
theorem n_109_30 : ∀ l, xpr 109 30 l = l := xpr_no (by decide +kernel)
theorem r_109_32 : xfetch 109 32 = some (.iconst 0, 1) := by decide +kernel
theorem n_109_32 : ∀ l, xpr 109 32 l = l := xpr_no (by decide +kernel)
theorem r_109_33 : xfetch 109 33 = some (.bastore, 1) := by decide +kernel
theorem n_109_33 : ∀ l, xpr 109 33 l = l := xpr_no (by decide +kernel)
theorem r_109_34 : xfetch 109 34 = some (.iinc 4 1, 3) := by decide +kernel
theorem n_109_34 : ∀ l, xpr 109 34 l = l := xpr_no (by decide +kernel)
theorem r_109_37 : xfetch 109 37 = some (.goto (-20), 3) := by decide +kernel
theorem n_109_37 : ∀ l, xpr 109 37 l = l := xpr_no (by decide +kernel)
theorem r_109_40 : xfetch 109 40 = some (.return_, 1) := by decide +kernel
theorem n_109_40 : ∀ l, xpr 109 40 l = l := xpr_no (by decide +kernel)
theorem v_RL_clearMemory_0 {S : Option (Nat × (Nat → Int32))} {s : zSt} {Q : Option Value ⊕ Nat → zSt → Prop} {x1 : Int} {x2 : Int} 
    (h : rng (x1 + x2) ∧ (rng x1 ∧ (wp S 109 17 [(0, rf 2), (3, iv (min (x1 + x2) 1024)), (4, iv (max x1 0))] [] s Q))) :
    wp S 109 0 [(0, rf 2), (1, iv x1), (2, iv x2)] [] s Q := by
  refine i_iload_n (x := x1) r_109_0 (n_109_0 _) rfl ?_
  refine i_iload_n (x := x2) r_109_1 (n_109_1 _) rfl ?_
  refine i_iadd r_109_2 (n_109_2 _) ?_
  refine i_sipush r_109_3 (n_109_3 _) rfl ?_
  obtain ⟨g1, h⟩ := h
  refine wp_stat (rest := []) (Ls := [(0, iv (x1 + x2)), (1, iv 1024)]) r_109_6 (n_109_6 _) rfl ⟨rfl, by decide, by decide, by decide⟩ rfl rfl ⟨rfl, Nat.le_of_ble_eq_true rfl, Nat.le_of_ble_eq_true rfl⟩ rfl (K_Math_min g1 ⟨by omega, by omega⟩) ?_
  rintro _ _ ⟨rfl, rfl⟩
  refine .inl ⟨some (iv (min (x1 + x2) 1024)), rfl, ?_⟩
  show wp S 109 9 [(0, rf 2), (1, iv x1), (2, iv x2)] [iv (min (x1 + x2) 1024)] s Q
  refine i_istore_n (l' := [(0, rf 2), (1, iv x1), (2, iv x2), (3, iv (min (x1 + x2) 1024))]) r_109_9 (n_109_9 _) (by decide) rfl ?_
  refine i_iload_n (x := x1) r_109_10 (n_109_10 _) rfl ?_
  refine i_iconst r_109_11 (n_109_11 _) ?_
  obtain ⟨g3, h⟩ := h
  refine wp_stat (rest := []) (Ls := [(0, iv x1), (1, iv 0)]) r_109_12 (n_109_12 _) rfl ⟨rfl, by decide, by decide, by decide⟩ rfl rfl ⟨rfl, Nat.le_of_ble_eq_true rfl, Nat.le_of_ble_eq_true rfl⟩ rfl (K_Math_max g3 ⟨by omega, by omega⟩) ?_
  rintro _ _ ⟨rfl, rfl⟩
  refine .inl ⟨some (iv (max x1 0)), rfl, ?_⟩
  show wp S 109 15 [(0, rf 2), (1, iv x1), (2, iv x2), (3, iv (min (x1 + x2) 1024))] [iv (max x1 0)] s Q
  refine i_istore (l' := [(0, rf 2), (1, iv x1), (2, iv x2), (3, iv (min (x1 + x2) 1024)), (4, iv (max x1 0))]) r_109_15 (n_109_15 _) (by decide) rfl ?_
  exact wp_pr (l' := [(0, rf 2), (3, iv (min (x1 + x2) 1024)), (4, iv (max x1 0))]) rfl h
theorem v_RL_clearMemory_17 {S : Option (Nat × (Nat → Int32))} {s : zSt} {Q : Option Value ⊕ Nat → zSt → Prop} {x3 : Int} {x4 : Int} 
    (h : rng x4 ∧ (rng x3 ∧ ((x3 ≤ x4 → Q rU s) ∧ (x4 < x3 → (0 ≤ x4 ∧ x4 < 1024) ∧ (wp S 109 17 [(0, rf 2), (3, iv x3), (4, iv (x4 + 1))] [] (zwI s 6 x4 (zi2b 0)) Q))))) :
    wp S 109 17 [(0, rf 2), (3, iv x3), (4, iv x4)] [] s Q := by
  refine i_iload (x := x4) r_109_17 rfl rfl ?_
  refine i_iload_n (x := x3) r_109_19 (n_109_19 _) rfl ?_
  obtain ⟨g1, h⟩ := h
  obtain ⟨g2, h⟩ := h
  refine i_icmp (t := 40) r_109_20 (n_109_20 _) rfl (T_ge g1 g2) (fun c3 => ?_) (fun c3 => ?_)
  · replace h := h.1 c3
    exact i_return r_109_40 (n_109_40 _) rfl h
  · replace h := h.2 c3
    refine i_aload_n (a := 2) r_109_23 (n_109_23 _) rfl ?_
    refine i_getR (a := 2) (b := 3) r_109_24 (n_109_24 _) rfl rfl rfl (by omega) lf_2 (by omega) ?_
    refine i_getR (a := 3) (b := 6) r_109_27 (n_109_27 _) rfl rfl rfl (by omega) lf_3 (by omega) ?_
    refine i_iload (x := x4) r_109_30 (n_109_30 _) rfl ?_
    refine i_iconst r_109_32 (n_109_32 _) ?_
    obtain ⟨g4, h⟩ := h
    refine i_bastore (a := 6) (j := x4) (x := 0) r_109_33 (n_109_33 _) lf_6 ⟨by omega, by omega⟩ (by omega) (by omega) ?_
    refine i_iinc (x := x4) (l' := [(0, rf 2), (3, iv x3), (4, iv (x4 + 1))]) r_109_34 (n_109_34 _) (by decide) rfl rfl ?_
    refine i_goto (t := 17) r_109_37 (n_109_37 _) rfl ?_
    exact wp_pr (l' := [(0, rf 2), (3, iv x3), (4, iv (x4 + 1))]) rfl h
theorem r_111_0 : xfetch 111 0 = some (.aload_n 0, 1) := by decide +kernel
theorem n_111_0 : ∀ l, xpr 111 0 l = l := xpr_no (by decide +kernel)
theorem r_111_1 : xfetch 111 1 = some (.iload_n 1, 1) := by decide +kernel
theorem n_111_1 : ∀ l, xpr 111 1 l = l := xpr_no (by decide +kernel)
theorem r_111_2 : xfetch 111 2 = some (.invokevirtual 284, 3) := by decide +kernel
theorem n_111_2 : ∀ l, xpr 111 2 l = l := xpr_no (by decide +kernel)
theorem r_111_5 : xfetch 111 5 = some (.aload_n 0, 1) := by decide +kernel
theorem n_111_5 : ∀ l, xpr 111 5 l = l := xpr_no (by decide +kernel)
theorem r_111_6 : xfetch 111 6 = some (.invokevirtual 77, 3) := by decide +kernel
theorem n_111_6 : ∀ l, xpr 111 6 l = l := xpr_no (by decide +kernel)
theorem r_111_9 : xfetch 111 9 = some (.aload_n 0, 1) := by decide +kernel
theorem n_111_9 : ∀ l, xpr 111 9 l = l := xpr_no (by decide +kernel)
theorem r_111_10 : xfetch 111 10 = some (.getfield 10, 3) := by decide +kernel
theorem n_111_10 : ∀ l, xpr 111 10 l = l := xpr_no (by decide +kernel)
theorem r_111_13 : xfetch 111 13 = some (.getfield 256, 3) := by decide +kernel
theorem n_111_13 : ∀ l, xpr 111 13 l = l := xpr_no (by decide +kernel)
theorem r_111_16 : xfetch 111 16 = some (.iload_n 1, 1) := by decide +kernel
theorem n_111_16 : ∀ l, xpr 111 16 l = l := xpr_no (by decide +kernel)
theorem r_111_17 : xfetch 111 17 = some (.aaload, 1) := by decide +kernel
theorem n_111_17 : ∀ l, xpr 111 17 l = l := xpr_no (by decide +kernel)
theorem r_111_18 : xfetch 111 18 = some (.iconst 0, 1) := by decide +kernel
theorem n_111_18 : ∀ l, xpr 111 18 l = l := xpr_no (by decide +kernel)
theorem r_111_19 : xfetch 111 19 = some (.putfield 260, 3) := by decide +kernel
theorem n_111_19 : ∀ l, xpr 111 19 l = l := xpr_no (by decide +kernel)
theorem r_111_22 : xfetch 111 22 = some (.aload_n 0, 1) := by decide +kernel
theorem n_111_22 : ∀ l, xpr 111 22 l = l := xpr_no (by decide +kernel)
theorem r_111_23 : xfetch 111 23 = some (.getfield 10, 3) := by decide +kernel
theorem n_111_23 : ∀ l, xpr 111 23 l = l := xpr_no (by decide +kernel)
theorem r_111_26 : xfetch 111 26 = some (.getfield 256, 3) := by decide +kernel
theorem n_111_26 : ∀ l, xpr 111 26 l = l := xpr_no (by decide +kernel)
theorem r_111_29 : xfetch 111 29 = some (.iload_n 1, 1) := by decide +kernel
theorem n_111_29 : ∀ l, xpr 111 29 l = l := xpr_no (by decide +kernel)
theorem r_111_30 : xfetch 111 30 = some (.aaload, 1) := by decide +kernel
theorem n_111_30 : ∀ l, xpr 111 30 l = l := xpr_no (by decide +kernel)
theorem r_111_31 : xfetch 111 31 = some (.getfield 280, 3) := by decide +kernel
theorem n_111_31 : ∀ l, xpr 111 31 l = l := xpr_no (by decide +kernel)
theorem r_111_34 : xfetch 111 34 = some (.ireturn, 1) := by decide +kernel
theorem n_111_34 : ∀ l, xpr 111 34 l = l := xpr_no (by decide +kernel)
theorem v_RL_removeTable_0 {S : Option (Nat × (Nat → Int32))} {s : zSt} {Q : Option Value ⊕ Nat → zSt → Prop} {x1 : Int} 
    (h : rng x1 ∧ ((0 ≤ x1 ∧ x1 < 3 ∧ zI s (31 + x1) 0 ≠ 0 → wp S 18 0 [(0, rf 2)] [] s (fun o3 s3 => zkU ((0 ≤ x1 ∧ x1 < 3) ∧ (Q (rI (zI s3 (31 + x1) 6)) (zwI s3 (31 + x1) 0 0))) (fun e3 => False) o3)) ∧ ((¬ (0 ≤ x1 ∧ x1 < 3 ∧ zI s (31 + x1) 0 ≠ 0) → Q (rT 2) (zbump s))))) :
    wp S 111 0 [(0, rf 2), (1, iv x1)] [] s Q := by
  refine i_aload_n (a := 2) r_111_0 (n_111_0 _) rfl ?_
  refine i_iload_n (x := x1) r_111_1 (n_111_1 _) rfl ?_
  obtain ⟨g1, h⟩ := h
  refine wp_virt (b := 2) (rest := []) (Ls := [(0, rf 2), (1, iv x1)]) r_111_2 (n_111_2 _) rfl ⟨rfl, rfl, by decide, by decide⟩ rfl rfl lf_2 ⟨rfl, Nat.le_of_ble_eq_true rfl, Nat.le_of_ble_eq_true rfl⟩ rfl (K_RL_checkTable g1) ?_
  rintro _ _ (⟨c2, rfl, rfl⟩ | ⟨c2, rfl, rfl⟩)
  · replace h := h.1 c2
    refine .inl ⟨none, rfl, ?_⟩
    show wp S 111 5 [(0, rf 2), (1, iv x1)] [] s Q
    refine i_aload_n (a := 2) r_111_5 (n_111_5 _) rfl ?_
    refine wp_virt (b := 2) (rest := []) (Ls := [(0, rf 2)]) r_111_6 (n_111_6 _) rfl ⟨rfl, rfl, by decide, by decide⟩ rfl rfl lf_2 ⟨rfl, Nat.le_of_ble_eq_true rfl, Nat.le_of_ble_eq_true rfl⟩ rfl h ?_
    intro o3 s3 h
    rcases h with ⟨rfl, h⟩ | ⟨e3, rfl, h⟩
    · refine .inl ⟨none, rfl, ?_⟩
      refine i_aload_n (a := 2) r_111_9 (n_111_9 _) rfl ?_
      refine i_getR (a := 2) (b := 3) r_111_10 (n_111_10 _) rfl rfl rfl (by omega) lf_2 (by omega) ?_
      refine i_getR (a := 3) (b := 5) r_111_13 (n_111_13 _) rfl rfl rfl (by omega) lf_3 (by omega) ?_
      refine i_iload_n (x := x1) r_111_16 (n_111_16 _) rfl ?_
      obtain ⟨g5, h⟩ := h
      refine i_aaload (c := 6) (a := 5) (j := x1) (b := 31 + x1) r_111_17 (n_111_17 _) lf_5 ⟨by omega, by omega⟩ (by omega) (by omega) rfl (by omega) ?_
      have t6 := e_6 (j := x1) lf_5 (by omega) (by omega)
      rw [show 5 + 26 + 1 * x1 = 31 + x1 by omega] at t6
      refine i_iconst r_111_18 (n_111_18 _) ?_
      refine i_putI (a := 31 + x1) (x := 0) r_111_19 (n_111_19 _) rfl (.inr ⟨rfl, by decide⟩) rfl t6 ⟨by omega, by omega⟩ ?_
      refine i_aload_n (a := 2) r_111_22 (n_111_22 _) rfl ?_
      refine i_getR (a := 2) (b := 3) r_111_23 (n_111_23 _) rfl rfl rfl (by omega) lf_2 (by omega) ?_
      refine i_getR (a := 3) (b := 5) r_111_26 (n_111_26 _) rfl rfl rfl (by omega) lf_3 (by omega) ?_
      refine i_iload_n (x := x1) r_111_29 (n_111_29 _) rfl ?_
      refine i_aaload (c := 6) (a := 5) (j := x1) (b := 31 + x1) r_111_30 (n_111_30 _) lf_5 ⟨by omega, by omega⟩ (by omega) (by omega) rfl (by omega) ?_
      have t7 := e_6 (j := x1) lf_5 (by omega) (by omega)
      rw [show 5 + 26 + 1 * x1 = 31 + x1 by omega] at t7
      have e9 : zI (zwI s3 (31 + x1) 0 0) (31 + x1) 6 = zI s3 (31 + x1) 6 := zI_nj (by omega)
      refine i_getIe (a := 31 + x1) (x := zI s3 (31 + x1) 6) r_111_31 (n_111_31 _) rfl (by decide) t7 e9 (fun q8 => ?_)
      exact i_ireturn r_111_34 (n_111_34 _) rfl h
    · skip
      exact h.elim
  · replace h := h.2 c2
    exact .inr ⟨_, rfl, .inl ⟨rfl, h⟩⟩
theorem r_114_0 : xfetch 114 0 = some (.aload_n 0, 1) := by decide +kernel
theorem n_114_0 : ∀ l, xpr 114 0 l = l := xpr_no (by decide +kernel)
theorem r_114_1 : xfetch 114 1 = some (.iload_n 1, 1) := by decide +kernel
theorem n_114_1 : ∀ l, xpr 114 1 l = l := xpr_no (by decide +kernel)
theorem r_114_2 : xfetch 114 2 = some (.invokevirtual 284, 3) := by decide +kernel
theorem n_114_2 : ∀ l, xpr 114 2 l = l := xpr_no (by decide +kernel)
theorem r_114_5 : xfetch 114 5 = some (.iload_n 2, 1) := by decide +kernel
theorem n_114_5 : ∀ l, xpr 114 5 l = l := xpr_no (by decide +kernel)
theorem r_114_6 : xfetch 114 6 = some (.iconst 5, 1) := by decide +kernel
theorem n_114_6 : ∀ l, xpr 114 6 l = l := xpr_no (by decide +kernel)
theorem r_114_7 : xfetch 114 7 = some (.invokestatic 150, 3) := by decide +kernel
theorem n_114_7 : ∀ l, xpr 114 7 l = l := xpr_no (by decide +kernel)
theorem r_114_10 : xfetch 114 10 = some (.aload_n 0, 1) := by decide +kernel
theorem n_114_10 : ∀ l, xpr 114 10 l = l := xpr_no (by decide +kernel)
theorem r_114_11 : xfetch 114 11 = some (.iload_n 1, 1) := by decide +kernel
theorem n_114_11 : ∀ l, xpr 114 11 l = l := xpr_no (by decide +kernel)
theorem r_114_12 : xfetch 114 12 = some (.iload_n 2, 1) := by decide +kernel
theorem n_114_12 : ∀ l, xpr 114 12 l = l := xpr_no (by decide +kernel)
theorem r_114_13 : xfetch 114 13 = some (.invokevirtual 287, 3) := by decide +kernel
theorem n_114_13 : ∀ l, xpr 114 13 l = l := xpr_no (by decide +kernel)
theorem r_114_16 : xfetch 114 16 = some (.ireturn, 1) := by decide +kernel
theorem n_114_16 : ∀ l, xpr 114 16 l = l := xpr_no (by decide +kernel)
theorem v_RL_tableInfo_0 {S : Option (Nat × (Nat → Int32))} {s : zSt} {Q : Option Value ⊕ Nat → zSt → Prop} {x1 : Int} {x2 : Int} 
    (h : rng x1 ∧ ((0 ≤ x1 ∧ x1 < 3 ∧ zI s (31 + x1) 0 ≠ 0 → rng x2 ∧ ((0 ≤ x2 ∧ x2 ≤ 5 → wp S 33 0 [(0, rf 2), (1, iv x1), (2, iv x2)] [] s (fun o5 s5 => zkI (fun y5 => Q (rI y5) s5) (fun e5 => False) o5)) ∧ ((¬ (0 ≤ x2 ∧ x2 ≤ 5) → Q (rT 0) (zbump s))))) ∧ ((¬ (0 ≤ x1 ∧ x1 < 3 ∧ zI s (31 + x1) 0 ≠ 0) → Q (rT 2) (zbump s))))) :
    wp S 114 0 [(0, rf 2), (1, iv x1), (2, iv x2)] [] s Q := by
  refine i_aload_n (a := 2) r_114_0 (n_114_0 _) rfl ?_
  refine i_iload_n (x := x1) r_114_1 (n_114_1 _) rfl ?_
  obtain ⟨g1, h⟩ := h
  refine wp_virt (b := 2) (rest := []) (Ls := [(0, rf 2), (1, iv x1)]) r_114_2 (n_114_2 _) rfl ⟨rfl, rfl, by decide, by decide⟩ rfl rfl lf_2 ⟨rfl, Nat.le_of_ble_eq_true rfl, Nat.le_of_ble_eq_true rfl⟩ rfl (K_RL_checkTable g1) ?_
  rintro _ _ (⟨c2, rfl, rfl⟩ | ⟨c2, rfl, rfl⟩)
  · replace h := h.1 c2
    refine .inl ⟨none, rfl, ?_⟩
    show wp S 114 5 [(0, rf 2), (1, iv x1), (2, iv x2)] [] s Q
    refine i_iload_n (x := x2) r_114_5 (n_114_5 _) rfl ?_
    refine i_iconst r_114_6 (n_114_6 _) ?_
    obtain ⟨g3, h⟩ := h
    refine wp_stat (rest := []) (Ls := [(0, iv x2), (1, iv 5)]) r_114_7 (n_114_7 _) rfl ⟨rfl, by decide, by decide, by decide⟩ rfl rfl ⟨rfl, Nat.le_of_ble_eq_true rfl, Nat.le_of_ble_eq_true rfl⟩ rfl (K_RL_checkWhat g3 ⟨by omega, by omega⟩) ?_
    rintro _ _ (⟨c4, rfl, rfl⟩ | ⟨c4, rfl, rfl⟩)
    · replace h := h.1 c4
      refine .inl ⟨none, rfl, ?_⟩
      show wp S 114 10 [(0, rf 2), (1, iv x1), (2, iv x2)] [] s Q
      refine i_aload_n (a := 2) r_114_10 (n_114_10 _) rfl ?_
      refine i_iload_n (x := x1) r_114_11 (n_114_11 _) rfl ?_
      refine i_iload_n (x := x2) r_114_12 (n_114_12 _) rfl ?_
      refine wp_virt (b := 2) (rest := []) (Ls := [(0, rf 2), (1, iv x1), (2, iv x2)]) r_114_13 (n_114_13 _) rfl ⟨rfl, rfl, by decide, by decide⟩ rfl rfl lf_2 ⟨rfl, Nat.le_of_ble_eq_true rfl, Nat.le_of_ble_eq_true rfl⟩ rfl h ?_
      intro o5 s5 h
      rcases h with ⟨y5, q6, rfl, h⟩ | ⟨e5, rfl, h⟩
      · refine .inl ⟨some (iv y5), rfl, ?_⟩
        show wp S 114 16 [(0, rf 2), (1, iv x1), (2, iv x2)] [iv y5] s5 Q
        exact i_ireturn r_114_16 (n_114_16 _) rfl h
      · skip
        exact h.elim
    · replace h := h.2 c4
      exact .inr ⟨_, rfl, rfl, .inl ⟨rfl, h⟩⟩
  · replace h := h.2 c2
    exact .inr ⟨_, rfl, .inl ⟨rfl, h⟩⟩
theorem r_116_0 : xfetch 116 0 = some (.aload_n 0, 1) := by decide +kernel
theorem n_116_0 : ∀ l, xpr 116 0 l = l := xpr_no (by decide +kernel)
theorem r_116_1 : xfetch 116 1 = some (.iload_n 1, 1) := by decide +kernel
theorem n_116_1 : ∀ l, xpr 116 1 l = l := xpr_no (by decide +kernel)
theorem r_116_2 : xfetch 116 2 = some (.iload_n 2, 1) := by decide +kernel
theorem n_116_2 : ∀ l, xpr 116 2 l = l := xpr_no (by decide +kernel)
theorem r_116_3 : xfetch 116 3 = some (.iload_n 3, 1) := by decide +kernel
theorem n_116_3 : ∀ l, xpr 116 3 l = l := xpr_no (by decide +kernel)
theorem r_116_4 : xfetch 116 4 = some (.invokevirtual 290, 3) := by decide +kernel
theorem n_116_4 : ∀ l, xpr 116 4 l = l := xpr_no (by decide +kernel)
theorem r_116_7 : xfetch 116 7 = some (.aload_n 0, 1) := by decide +kernel
theorem n_116_7 : ∀ l, xpr 116 7 l = l := xpr_no (by decide +kernel)
theorem r_116_8 : xfetch 116 8 = some (.iload_n 1, 1) := by decide +kernel
theorem n_116_8 : ∀ l, xpr 116 8 l = l := xpr_no (by decide +kernel)
theorem r_116_9 : xfetch 116 9 = some (.invokevirtual 293, 3) := by decide +kernel
theorem n_116_9 : ∀ l, xpr 116 9 l = l := xpr_no (by decide +kernel)
theorem r_116_12 : xfetch 116 12 = some (.aload_n 0, 1) := by decide +kernel
theorem n_116_12 : ∀ l, xpr 116 12 l = l := xpr_no (by decide +kernel)
theorem r_116_13 : xfetch 116 13 = some (.getfield 47, 3) := by decide +kernel
theorem n_116_13 : ∀ l, xpr 116 13 l = l := xpr_no (by decide +kernel)
theorem r_116_16 : xfetch 116 16 = some (.iload_n 2, 1) := by decide +kernel
theorem n_116_16 : ∀ l, xpr 116 16 l = l := xpr_no (by decide +kernel)
theorem r_116_17 : xfetch 116 17 = some (.iload_n 3, 1) := by decide +kernel
theorem n_116_17 : ∀ l, xpr 116 17 l = l := xpr_no (by decide +kernel)
theorem r_116_18 : xfetch 116 18 = some (.invokevirtual 296, 3) := by decide +kernel
theorem n_116_18 : ∀ l, xpr 116 18 l = l := xpr_no (by decide +kernel)
theorem r_116_21 : xfetch 116 21 = some (.ireturn, 1) := by decide +kernel
theorem n_116_21 : ∀ l, xpr 116 21 l = l := xpr_no (by decide +kernel)
theorem v_RL_address_0 {S : Option (Nat × (Nat → Int32))} {s : zSt} {Q : Option Value ⊕ Nat → zSt → Prop} {x1 : Int} {x2 : Int} {x3 : Int} 
    (h : rng x1 ∧ (rng x2 ∧ (rng x3 ∧ ((0 ≤ x1 → x1 < 3 → zI s (31 + x1) 0 ≠ 0 → 0 ≤ zI s (31 + x1) 1 ∧ zI s (31 + x1) 1 < zI s 3 0 ∧ zI s (31 + x1) 1 < 6) ∧ ((((0 ≤ x1 ∧ x1 < 3 ∧ zI s (31 + x1) 0 ≠ 0) ∧ 0 ≤ x2 ∧ x2 < zI s (31 + x1) 2) ∧ 0 ≤ x3 ∧ x3 < zI s (67 + 11 * zI s (31 + x1) 1) 0 → wp S 120 0 [(0, rf 2), (1, iv x1)] [] s (fun o6 s6 => zkU ((0 ≤ x3 ∧ x3 < 40) ∧ ((x3 < zI s6 48 3) ∧ ((0 < zI s6 48 5) ∧ ((0 ≤ x2) ∧ (Q (rI (zI s6 48 0 + x2 / zI s6 48 5 * zI s6 48 6 + zI s6 (48 + 2) x3 + x2 % zI s6 48 5 * zI s6 (48 + 3) x3)) s6))))) (fun e6 => False) o6)) ∧ ((¬ (((0 ≤ x1 ∧ x1 < 3 ∧ zI s (31 + x1) 0 ≠ 0) ∧ 0 ≤ x2 ∧ x2 < zI s (31 + x1) 2) ∧ 0 ≤ x3 ∧ x3 < zI s (67 + 11 * zI s (31 + x1) 1) 0) → Q (rT 2) (zbump s)))))))) :
    wp S 116 0 [(0, rf 2), (1, iv x1), (2, iv x2), (3, iv x3)] [] s Q := by
  refine i_aload_n (a := 2) r_116_0 (n_116_0 _) rfl ?_
  refine i_iload_n (x := x1) r_116_1 (n_116_1 _) rfl ?_
  refine i_iload_n (x := x2) r_116_2 (n_116_2 _) rfl ?_
  refine i_iload_n (x := x3) r_116_3 (n_116_3 _) rfl ?_
  obtain ⟨g1, h⟩ := h
  obtain ⟨g2, h⟩ := h
  obtain ⟨g3, h⟩ := h
  obtain ⟨g4, h⟩ := h
  refine wp_virt (b := 2) (rest := []) (Ls := [(0, rf 2), (1, iv x1), (2, iv x2), (3, iv x3)]) r_116_4 (n_116_4 _) rfl ⟨rfl, rfl, by decide, by decide⟩ rfl rfl lf_2 ⟨rfl, Nat.le_of_ble_eq_true rfl, Nat.le_of_ble_eq_true rfl⟩ rfl (K_RL_checkPlace g1 g2 g3 g4) ?_
  rintro _ _ (⟨c5, rfl, rfl⟩ | ⟨c5, rfl, rfl⟩)
  · replace h := h.1 c5
    refine .inl ⟨none, rfl, ?_⟩
    show wp S 116 7 [(0, rf 2), (1, iv x1), (2, iv x2), (3, iv x3)] [] s Q
    refine i_aload_n (a := 2) r_116_7 (n_116_7 _) rfl ?_
    refine i_iload_n (x := x1) r_116_8 (n_116_8 _) rfl ?_
    refine wp_virt (b := 2) (rest := []) (Ls := [(0, rf 2), (1, iv x1)]) r_116_9 (n_116_9 _) rfl ⟨rfl, rfl, by decide, by decide⟩ rfl rfl lf_2 ⟨rfl, Nat.le_of_ble_eq_true rfl, Nat.le_of_ble_eq_true rfl⟩ rfl h ?_
    intro o6 s6 h
    rcases h with ⟨rfl, h⟩ | ⟨e6, rfl, h⟩
    · refine .inl ⟨none, rfl, ?_⟩
      refine i_aload_n (a := 2) r_116_12 (n_116_12 _) rfl ?_
      refine i_getR (a := 2) (b := 48) r_116_13 (n_116_13 _) rfl rfl rfl (by omega) lf_2 (by omega) ?_
      refine i_iload_n (x := x2) r_116_16 (n_116_16 _) rfl ?_
      refine i_iload_n (x := x3) r_116_17 (n_116_17 _) rfl ?_
      obtain ⟨g8, h⟩ := h
      obtain ⟨g9, h⟩ := h
      obtain ⟨g10, h⟩ := h
      obtain ⟨g11, h⟩ := h
      refine wp_virt (b := 48) (rest := []) (Ls := [(0, rf 48), (1, iv x2), (2, iv x3)]) r_116_18 (n_116_18 _) rfl ⟨rfl, rfl, by decide, by decide⟩ rfl rfl lf_48 ⟨rfl, Nat.le_of_ble_eq_true rfl, Nat.le_of_ble_eq_true rfl⟩ rfl (K_View_placeOf lf_48 g8 g9 g10 g2 g11) ?_
      rintro _ _ ⟨rfl, rfl⟩
      refine .inl ⟨some (iv (zI s6 48 0 + x2 / zI s6 48 5 * zI s6 48 6 + zI s6 (48 + 2) x3 + x2 % zI s6 48 5 * zI s6 (48 + 3) x3)), rfl, ?_⟩
      show wp S 116 21 [(0, rf 2), (1, iv x1), (2, iv x2), (3, iv x3)] [iv (zI s6 48 0 + x2 / zI s6 48 5 * zI s6 48 6 + zI s6 (48 + 2) x3 + x2 % zI s6 48 5 * zI s6 (48 + 3) x3)] s6 Q
      exact i_ireturn r_116_21 (n_116_21 _) rfl h
    · skip
      exact h.elim
  · replace h := h.2 c5
    exact .inr ⟨_, rfl, .inl ⟨rfl, h⟩⟩
theorem r_120_0 : xfetch 120 0 = some (.aload_n 0, 1) := by decide +kernel
theorem n_120_0 : ∀ l, xpr 120 0 l = l := xpr_no (by decide +kernel)
theorem r_120_1 : xfetch 120 1 = some (.getfield 10, 3) := by decide +kernel
theorem n_120_1 : ∀ l, xpr 120 1 l = l := xpr_no (by decide +kernel)
theorem r_120_4 : xfetch 120 4 = some (.getfield 256, 3) := by decide +kernel
theorem n_120_4 : ∀ l, xpr 120 4 l = l := xpr_no (by decide +kernel)
theorem r_120_7 : xfetch 120 7 = some (.iload_n 1, 1) := by decide +kernel
theorem n_120_7 : ∀ l, xpr 120 7 l = l := xpr_no (by decide +kernel)
theorem r_120_8 : xfetch 120 8 = some (.aaload, 1) := by decide +kernel
theorem n_120_8 : ∀ l, xpr 120 8 l = l := xpr_no (by decide +kernel)
theorem r_120_9 : xfetch 120 9 = some (.astore_n 2, 1) := by decide +kernel
theorem n_120_9 : ∀ l, xpr 120 9 l = l := xpr_no (by decide +kernel)
theorem r_120_10 : xfetch 120 10 = some (.aload_n 0, 1) := by decide +kernel
theorem n_120_10 : ∀ l, xpr 120 10 l = l := xpr_no (by decide +kernel)
theorem r_120_11 : xfetch 120 11 = some (.getfield 47, 3) := by decide +kernel
theorem n_120_11 : ∀ l, xpr 120 11 l = l := xpr_no (by decide +kernel)
theorem r_120_14 : xfetch 120 14 = some (.aload_n 0, 1) := by decide +kernel
theorem n_120_14 : ∀ l, xpr 120 14 l = l := xpr_no (by decide +kernel)
theorem r_120_15 : xfetch 120 15 = some (.getfield 18, 3) := by decide +kernel
theorem n_120_15 : ∀ l, xpr 120 15 l = l := xpr_no (by decide +kernel)
theorem r_120_18 : xfetch 120 18 = some (.aload_n 2, 1) := by decide +kernel
theorem n_120_18 : ∀ l, xpr 120 18 l = l := xpr_no (by decide +kernel)
theorem r_120_19 : xfetch 120 19 = some (.getfield 266, 3) := by decide +kernel
theorem n_120_19 : ∀ l, xpr 120 19 l = l := xpr_no (by decide +kernel)
theorem r_120_22 : xfetch 120 22 = some (.aaload, 1) := by decide +kernel
theorem n_120_22 : ∀ l, xpr 120 22 l = l := xpr_no (by decide +kernel)
theorem r_120_23 : xfetch 120 23 = some (.aload_n 2, 1) := by decide +kernel
theorem n_120_23 : ∀ l, xpr 120 23 l = l := xpr_no (by decide +kernel)
theorem r_120_24 : xfetch 120 24 = some (.getfield 269, 3) := by decide +kernel
theorem n_120_24 : ∀ l, xpr 120 24 l = l := xpr_no (by decide +kernel)
theorem r_120_27 : xfetch 120 27 = some (.aload_n 2, 1) := by decide +kernel
theorem n_120_27 : ∀ l, xpr 120 27 l = l := xpr_no (by decide +kernel)
theorem r_120_28 : xfetch 120 28 = some (.getfield 272, 3) := by decide +kernel
theorem n_120_28 : ∀ l, xpr 120 28 l = l := xpr_no (by decide +kernel)
theorem r_120_31 : xfetch 120 31 = some (.invokevirtual 244, 3) := by decide +kernel
theorem n_120_31 : ∀ l, xpr 120 31 l = l := xpr_no (by decide +kernel)
theorem r_120_34 : xfetch 120 34 = some (.aload_n 0, 1) := by decide +kernel
theorem n_120_34 : ∀ l, xpr 120 34 l = l := xpr_no (by decide +kernel)
theorem r_120_35 : xfetch 120 35 = some (.getfield 47, 3) := by decide +kernel
theorem n_120_35 : ∀ l, xpr 120 35 l = l := xpr_no (by decide +kernel)
theorem r_120_38 : xfetch 120 38 = some (.aload_n 2, 1) := by decide +kernel
theorem n_120_38 : ∀ l, xpr 120 38 l = l := xpr_no (by decide +kernel)
theorem r_120_39 : xfetch 120 39 = some (.getfield 277, 3) := by decide +kernel
theorem n_120_39 : ∀ l, xpr 120 39 l = l := xpr_no (by decide +kernel)
theorem r_120_42 : xfetch 120 42 = some (.aload_n 2, 1) := by decide +kernel
theorem n_120_42 : ∀ l, xpr 120 42 l = l := xpr_no (by decide +kernel)
theorem r_120_43 : xfetch 120 43 = some (.getfield 275, 3) := by decide +kernel
theorem n_120_43 : ∀ l, xpr 120 43 l = l := xpr_no (by decide +kernel)
theorem r_120_46 : xfetch 120 46 = some (.invokevirtual 371, 3) := by decide +kernel
theorem n_120_46 : ∀ l, xpr 120 46 l = l := xpr_no (by decide +kernel)
theorem r_120_49 : xfetch 120 49 = some (.return_, 1) := by decide +kernel
theorem n_120_49 : ∀ l, xpr 120 49 l = l := xpr_no (by decide +kernel)
theorem v_RL_openView_0 {S : Option (Nat × (Nat → Int32))} {s : zSt} {Q : Option Value ⊕ Nat → zSt → Prop} {x1 : Int} 
    (h : (0 ≤ x1 ∧ x1 < 3) ∧ ((0 ≤ (zI s (31 + x1) 1) ∧ (zI s (31 + x1) 1) < 6) ∧ (wp S 107 0 [(0, rf 48), (1, rf (62 + 11 * (zI s (31 + x1) 1))), (2, iv (zI s (31 + x1) 2)), (3, iv (zI s (31 + x1) 3))] [] s (fun o8 s8 => zkU (Q rU (zwI (zwI s8 48 0 (zI s8 (31 + x1) 5)) 48 1 (zI s8 (31 + x1) 4))) (fun e8 => False) o8)))) :
    wp S 120 0 [(0, rf 2), (1, iv x1)] [] s Q := by
  refine i_aload_n (a := 2) r_120_0 (n_120_0 _) rfl ?_
  refine i_getR (a := 2) (b := 3) r_120_1 (n_120_1 _) rfl rfl rfl (by omega) lf_2 (by omega) ?_
  refine i_getR (a := 3) (b := 5) r_120_4 (n_120_4 _) rfl rfl rfl (by omega) lf_3 (by omega) ?_
  refine i_iload_n (x := x1) r_120_7 (n_120_7 _) rfl ?_
  obtain ⟨g1, h⟩ := h
  refine i_aaload (c := 6) (a := 5) (j := x1) (b := 31 + x1) r_120_8 (n_120_8 _) lf_5 ⟨by omega, by omega⟩ (by omega) (by omega) rfl (by omega) ?_
  have t2 := e_6 (j := x1) lf_5 (by omega) (by omega)
  rw [show 5 + 26 + 1 * x1 = 31 + x1 by omega] at t2
  refine i_astore_n (l' := [(0, rf 2), (1, iv x1), (2, rf (31 + x1))]) r_120_9 (n_120_9 _) (by decide) rfl ?_
  refine i_aload_n (a := 2) r_120_10 (n_120_10 _) rfl ?_
  refine i_getR (a := 2) (b := 48) r_120_11 (n_120_11 _) rfl rfl rfl (by omega) lf_2 (by omega) ?_
  refine i_aload_n (a := 2) r_120_14 (n_120_14 _) rfl ?_
  refine i_getR (a := 2) (b := 34) r_120_15 (n_120_15 _) rfl rfl rfl (by omega) lf_2 (by omega) ?_
  refine i_aload_n (a := 31 + x1) r_120_18 (n_120_18 _) rfl ?_
  refine i_getI (a := 31 + x1) r_120_19 (n_120_19 _) rfl (by decide) t2 (fun q3 => ?_)
  obtain ⟨g4, h⟩ := h
  refine i_aaload (c := 4) (a := 34) (j := zI s (31 + x1) 1) (b := 62 + 11 * (zI s (31 + x1) 1)) r_120_22 (n_120_22 _) lf_34 ⟨by omega, by omega⟩ (by omega) (by omega) rfl (by omega) ?_
  have t5 := e_4 (j := zI s (31 + x1) 1) lf_34 (by omega) (by omega)
  rw [show 34 + 28 + 11 * (zI s (31 + x1) 1) = 62 + 11 * (zI s (31 + x1) 1) by omega] at t5
  refine i_aload_n (a := 31 + x1) r_120_23 (n_120_23 _) rfl ?_
  refine i_getI (a := 31 + x1) r_120_24 (n_120_24 _) rfl (by decide) t2 (fun q6 => ?_)
  refine i_aload_n (a := 31 + x1) r_120_27 (n_120_27 _) rfl ?_
  refine i_getI (a := 31 + x1) r_120_28 (n_120_28 _) rfl (by decide) t2 (fun q7 => ?_)
  refine wp_virt (b := 48) (rest := []) (Ls := [(0, rf 48), (1, rf (62 + 11 * (zI s (31 + x1) 1))), (2, iv (zI s (31 + x1) 2)), (3, iv (zI s (31 + x1) 3))]) r_120_31 (n_120_31 _) rfl ⟨rfl, rfl, by decide, by decide⟩ rfl rfl lf_48 ⟨rfl, Nat.le_of_ble_eq_true rfl, Nat.le_of_ble_eq_true rfl⟩ rfl h ?_
  intro o8 s8 h
  rcases h with ⟨rfl, h⟩ | ⟨e8, rfl, h⟩
  · refine .inl ⟨none, rfl, ?_⟩
    refine i_aload_n (a := 2) r_120_34 (n_120_34 _) rfl ?_
    refine i_getR (a := 2) (b := 48) r_120_35 (n_120_35 _) rfl rfl rfl (by omega) lf_2 (by omega) ?_
    refine i_aload_n (a := 31 + x1) r_120_38 (n_120_38 _) rfl ?_
    refine i_getI (a := 31 + x1) r_120_39 (n_120_39 _) rfl (by decide) t2 (fun q10 => ?_)
    refine i_aload_n (a := 31 + x1) r_120_42 (n_120_42 _) rfl ?_
    refine i_getI (a := 31 + x1) r_120_43 (n_120_43 _) rfl (by decide) t2 (fun q11 => ?_)
    refine wp_virt (b := 48) (rest := []) (Ls := [(0, rf 48), (1, iv (zI s8 (31 + x1) 5)), (2, iv (zI s8 (31 + x1) 4))]) r_120_46 (n_120_46 _) rfl ⟨rfl, rfl, by decide, by decide⟩ rfl rfl lf_48 ⟨rfl, Nat.le_of_ble_eq_true rfl, Nat.le_of_ble_eq_true rfl⟩ rfl (K_View_moveTo lf_48 q10 q11) ?_
    rintro _ _ ⟨rfl, rfl⟩
    refine .inl ⟨none, rfl, ?_⟩
    show wp S 120 49 [(0, rf 2), (1, iv x1), (2, rf (31 + x1))] [] (zwI (zwI s8 48 0 (zI s8 (31 + x1) 5)) 48 1 (zI s8 (31 + x1) 4)) Q
    exact i_return r_120_49 (n_120_49 _) rfl h
  · skip
    exact h.elim
theorem r_125_0 : xfetch 125 0 = some (.aload_n 0, 1) := by decide +kernel
theorem n_125_0 : ∀ l, xpr 125 0 l = l := xpr_no (by decide +kernel)
theorem r_125_1 : xfetch 125 1 = some (.iload_n 1, 1) := by decide +kernel
theorem n_125_1 : ∀ l, xpr 125 1 l = l := xpr_no (by decide +kernel)
theorem r_125_2 : xfetch 125 2 = some (.iload_n 2, 1) := by decide +kernel
theorem n_125_2 : ∀ l, xpr 125 2 l = l := xpr_no (by decide +kernel)
theorem r_125_3 : xfetch 125 3 = some (.iload_n 3, 1) := by decide +kernel
theorem n_125_3 : ∀ l, xpr 125 3 l = l := xpr_no (by decide +kernel)
theorem r_125_4 : xfetch 125 4 = some (.invokevirtual 290, 3) := by decide +kernel
theorem n_125_4 : ∀ l, xpr 125 4 l = l := xpr_no (by decide +kernel)
theorem r_125_7 : xfetch 125 7 = some (.aload_n 0, 1) := by decide +kernel
theorem n_125_7 : ∀ l, xpr 125 7 l = l := xpr_no (by decide +kernel)
theorem r_125_8 : xfetch 125 8 = some (.iload_n 1, 1) := by decide +kernel
theorem n_125_8 : ∀ l, xpr 125 8 l = l := xpr_no (by decide +kernel)
theorem r_125_9 : xfetch 125 9 = some (.invokevirtual 293, 3) := by decide +kernel
theorem n_125_9 : ∀ l, xpr 125 9 l = l := xpr_no (by decide +kernel)
theorem r_125_12 : xfetch 125 12 = some (.aload_n 0, 1) := by decide +kernel
theorem n_125_12 : ∀ l, xpr 125 12 l = l := xpr_no (by decide +kernel)
theorem r_125_13 : xfetch 125 13 = some (.getfield 47, 3) := by decide +kernel
theorem n_125_13 : ∀ l, xpr 125 13 l = l := xpr_no (by decide +kernel)
theorem r_125_16 : xfetch 125 16 = some (.aload_n 0, 1) := by decide +kernel
theorem n_125_16 : ∀ l, xpr 125 16 l = l := xpr_no (by decide +kernel)
theorem r_125_17 : xfetch 125 17 = some (.getfield 10, 3) := by decide +kernel
theorem n_125_17 : ∀ l, xpr 125 17 l = l := xpr_no (by decide +kernel)
theorem r_125_20 : xfetch 125 20 = some (.getfield 299, 3) := by decide +kernel
theorem n_125_20 : ∀ l, xpr 125 20 l = l := xpr_no (by decide +kernel)
theorem r_125_23 : xfetch 125 23 = some (.iload_n 2, 1) := by decide +kernel
theorem n_125_23 : ∀ l, xpr 125 23 l = l := xpr_no (by decide +kernel)
theorem r_125_24 : xfetch 125 24 = some (.iload_n 3, 1) := by decide +kernel
theorem n_125_24 : ∀ l, xpr 125 24 l = l := xpr_no (by decide +kernel)
theorem r_125_25 : xfetch 125 25 = some (.invokevirtual 303, 3) := by decide +kernel
theorem n_125_25 : ∀ l, xpr 125 25 l = l := xpr_no (by decide +kernel)
theorem r_125_28 : xfetch 125 28 = some (.lreturn, 1) := by decide +kernel
theorem n_125_28 : ∀ l, xpr 125 28 l = l := xpr_no (by decide +kernel)
theorem v_RL_get_0 {S : Option (Nat × (Nat → Int32))} {s : zSt} {Q : Option Value ⊕ Nat → zSt → Prop} {x1 : Int} {x2 : Int} {x3 : Int} 
    (h : rng x1 ∧ (rng x2 ∧ (rng x3 ∧ ((0 ≤ x1 → x1 < 3 → zI s (31 + x1) 0 ≠ 0 → 0 ≤ zI s (31 + x1) 1 ∧ zI s (31 + x1) 1 < zI s 3 0 ∧ zI s (31 + x1) 1 < 6) ∧ ((((0 ≤ x1 ∧ x1 < 3 ∧ zI s (31 + x1) 0 ≠ 0) ∧ 0 ≤ x2 ∧ x2 < zI s (31 + x1) 2) ∧ 0 ≤ x3 ∧ x3 < zI s (67 + 11 * zI s (31 + x1) 1) 0 → wp S 120 0 [(0, rf 2), (1, iv x1)] [] s (fun o6 s6 => zkU (wp S 126 0 [(0, rf 48), (1, rf 6), (2, iv x2), (3, iv x3)] [] s6 (fun o8 s8 => zkL (fun y8 => Q (rL y8) s8) (fun e8 => False) o8)) (fun e6 => False) o6)) ∧ ((¬ (((0 ≤ x1 ∧ x1 < 3 ∧ zI s (31 + x1) 0 ≠ 0) ∧ 0 ≤ x2 ∧ x2 < zI s (31 + x1) 2) ∧ 0 ≤ x3 ∧ x3 < zI s (67 + 11 * zI s (31 + x1) 1) 0) → Q (rT 2) (zbump s)))))))) :
    wp S 125 0 [(0, rf 2), (1, iv x1), (2, iv x2), (3, iv x3)] [] s Q := by
  refine i_aload_n (a := 2) r_125_0 (n_125_0 _) rfl ?_
  refine i_iload_n (x := x1) r_125_1 (n_125_1 _) rfl ?_
  refine i_iload_n (x := x2) r_125_2 (n_125_2 _) rfl ?_
  refine i_iload_n (x := x3) r_125_3 (n_125_3 _) rfl ?_
  obtain ⟨g1, h⟩ := h
  obtain ⟨g2, h⟩ := h
  obtain ⟨g3, h⟩ := h
  obtain ⟨g4, h⟩ := h
  refine wp_virt (b := 2) (rest := []) (Ls := [(0, rf 2), (1, iv x1), (2, iv x2), (3, iv x3)]) r_125_4 (n_125_4 _) rfl ⟨rfl, rfl, by decide, by decide⟩ rfl rfl lf_2 ⟨rfl, Nat.le_of_ble_eq_true rfl, Nat.le_of_ble_eq_true rfl⟩ rfl (K_RL_checkPlace g1 g2 g3 g4) ?_
  rintro _ _ (⟨c5, rfl, rfl⟩ | ⟨c5, rfl, rfl⟩)
  · replace h := h.1 c5
    refine .inl ⟨none, rfl, ?_⟩
    show wp S 125 7 [(0, rf 2), (1, iv x1), (2, iv x2), (3, iv x3)] [] s Q
    refine i_aload_n (a := 2) r_125_7 (n_125_7 _) rfl ?_
    refine i_iload_n (x := x1) r_125_8 (n_125_8 _) rfl ?_
    refine wp_virt (b := 2) (rest := []) (Ls := [(0, rf 2), (1, iv x1)]) r_125_9 (n_125_9 _) rfl ⟨rfl, rfl, by decide, by decide⟩ rfl rfl lf_2 ⟨rfl, Nat.le_of_ble_eq_true rfl, Nat.le_of_ble_eq_true rfl⟩ rfl h ?_
    intro o6 s6 h
    rcases h with ⟨rfl, h⟩ | ⟨e6, rfl, h⟩
    · refine .inl ⟨none, rfl, ?_⟩
      refine i_aload_n (a := 2) r_125_12 (n_125_12 _) rfl ?_
      refine i_getR (a := 2) (b := 48) r_125_13 (n_125_13 _) rfl rfl rfl (by omega) lf_2 (by omega) ?_
      refine i_aload_n (a := 2) r_125_16 (n_125_16 _) rfl ?_
      refine i_getR (a := 2) (b := 3) r_125_17 (n_125_17 _) rfl rfl rfl (by omega) lf_2 (by omega) ?_
      refine i_getR (a := 3) (b := 6) r_125_20 (n_125_20 _) rfl rfl rfl (by omega) lf_3 (by omega) ?_
      refine i_iload_n (x := x2) r_125_23 (n_125_23 _) rfl ?_
      refine i_iload_n (x := x3) r_125_24 (n_125_24 _) rfl ?_
      refine wp_virt (b := 48) (rest := []) (Ls := [(0, rf 48), (1, rf 6), (2, iv x2), (3, iv x3)]) r_125_25 (n_125_25 _) rfl ⟨rfl, rfl, by decide, by decide⟩ rfl rfl lf_48 ⟨rfl, Nat.le_of_ble_eq_true rfl, Nat.le_of_ble_eq_true rfl⟩ rfl h ?_
      intro o8 s8 h
      rcases h with ⟨y8, rfl, h⟩ | ⟨e8, rfl, h⟩
      · refine .inl ⟨some (.long y8), rfl, ?_⟩
        show wp S 125 28 [(0, rf 2), (1, iv x1), (2, iv x2), (3, iv x3)] [.long y8] s8 Q
        exact i_lreturn r_125_28 (n_125_28 _) rfl h
      · skip
        exact h.elim
    · skip
      exact h.elim
  · replace h := h.2 c5
    exact .inr ⟨_, rfl, .inl ⟨rfl, h⟩⟩
theorem r_126_0 : xfetch 126 0 = some (.aload_n 0, 1) := by decide +kernel
theorem n_126_0 : ∀ l, xpr 126 0 l = l := xpr_no (by decide +kernel)
theorem r_126_1 : xfetch 126 1 = some (.iload_n 3, 1) := by decide +kernel
theorem n_126_1 : ∀ l, xpr 126 1 l = l := xpr_no (by decide +kernel)
theorem r_126_2 : xfetch 126 2 = some (.invokevirtual 78, 3) := by decide +kernel
theorem n_126_2 : ∀ l, xpr 126 2 l = l := xpr_no (by decide +kernel)
theorem r_126_5 : xfetch 126 5 = some (.ifCond .ne 5, 3) := by decide +kernel
theorem n_126_5 : ∀ l, xpr 126 5 l = l := xpr_no (by decide +kernel)
theorem r_126_8 : xfetch 126 8 = some (.lconst 0, 1) := by decide +kernel
theorem n_126_8 : ∀ l, xpr 126 8 l = l := xpr_no (by decide +kernel)
theorem r_126_9 : xfetch 126 9 = some (.lreturn, 1) := by decide +kernel
theorem n_126_9 : ∀ l, xpr 126 9 l = l := xpr_no (by decide +kernel)
theorem r_126_10 : xfetch 126 10 = some (.aload_n 0, 1) := by decide +kernel
theorem n_126_10 : ∀ l, xpr 126 10 l = l := xpr_no (by decide +kernel)
theorem r_126_11 : xfetch 126 11 = some (.aload_n 1, 1) := by decide +kernel
theorem n_126_11 : ∀ l, xpr 126 11 l = l := xpr_no (by decide +kernel)
theorem r_126_12 : xfetch 126 12 = some (.aload_n 0, 1) := by decide +kernel
theorem n_126_12 : ∀ l, xpr 126 12 l = l := xpr_no (by decide +kernel)
theorem r_126_13 : xfetch 126 13 = some (.iload_n 2, 1) := by decide +kernel
theorem n_126_13 : ∀ l, xpr 126 13 l = l := xpr_no (by decide +kernel)
theorem r_126_14 : xfetch 126 14 = some (.iload_n 3, 1) := by decide +kernel
theorem n_126_14 : ∀ l, xpr 126 14 l = l := xpr_no (by decide +kernel)
theorem r_126_15 : xfetch 126 15 = some (.invokevirtual 82, 3) := by decide +kernel
theorem n_126_15 : ∀ l, xpr 126 15 l = l := xpr_no (by decide +kernel)
theorem r_126_18 : xfetch 126 18 = some (.aload_n 0, 1) := by decide +kernel
theorem n_126_18 : ∀ l, xpr 126 18 l = l := xpr_no (by decide +kernel)
theorem r_126_19 : xfetch 126 19 = some (.getfield 22, 3) := by decide +kernel
theorem n_126_19 : ∀ l, xpr 126 19 l = l := xpr_no (by decide +kernel)
theorem r_126_22 : xfetch 126 22 = some (.iload_n 3, 1) := by decide +kernel
theorem n_126_22 : ∀ l, xpr 126 22 l = l := xpr_no (by decide +kernel)
theorem r_126_23 : xfetch 126 23 = some (.iaload, 1) := by decide +kernel
theorem n_126_23 : ∀ l, xpr 126 23 l = l := xpr_no (by decide +kernel)
theorem r_126_24 : xfetch 126 24 = some (.invokevirtual 85, 3) := by decide +kernel
theorem n_126_24 : ∀ l, xpr 126 24 l = l := xpr_no (by decide +kernel)
theorem r_126_27 : xfetch 126 27 = some (.lstore 4, 2) := by decide +kernel
theorem n_126_27 : ∀ l, xpr 126 27 l = l := xpr_no (by decide +kernel)
theorem r_126_29 : xfetch 126 29 = some (.aload_n 0, 1) := by decide +kernel
theorem n_126_29 : ∀ l, xpr 126 29 l = l := xpr_no (by decide +kernel)
theorem r_126_30 : xfetch 126 30 = some (.getfield 15, 3) := by decide +kernel
theorem n_126_30 : ∀ l, xpr 126 30 l = l := xpr_no (by decide +kernel)
theorem r_126_33 : xfetch 126 33 = some (.iload_n 3, 1) := by decide +kernel
theorem n_126_33 : ∀ l, xpr 126 33 l = l := xpr_no (by decide +kernel)
theorem r_126_34 : xfetch 126 34 = some (.iaload, 1) := by decide +kernel
theorem n_126_34 : ∀ l, xpr 126 34 l = l := xpr_no (by decide +kernel)
theorem r_126_35 : xfetch 126 35 = some (.istore 6, 2) := by decide +kernel
theorem n_126_35 : ∀ l, xpr 126 35 l = l := xpr_no (by decide +kernel)
theorem r_126_37 : xfetch 126 37 = some (.iload 6, 2) := by decide +kernel
theorem n_126_37 : ∀ l, xpr 126 37 l = l := xpr_no (by decide +kernel)
theorem r_126_39 : xfetch 126 39 = some (.invokestatic 89, 3) := by decide +kernel
theorem n_126_39 : ∀ l, xpr 126 39 l = l := xpr_no (by decide +kernel)
theorem r_126_42 : xfetch 126 42 = some (.ifCond .eq 19, 3) := by decide +kernel
theorem n_126_42 : ∀ l, xpr 126 42 l = l := xpr_no (by decide +kernel)
theorem r_126_45 : xfetch 126 45 = some (.lload 4, 2) := by decide +kernel
theorem n_126_45 : ∀ l, xpr 126 45 l = l := xpr_no (by decide +kernel)
theorem r_126_47 : xfetch 126 47 = some (.aload_n 0, 1) := by decide +kernel
theorem n_126_47 : ∀ l, xpr 126 47 l = l := xpr_no (by decide +kernel)
theorem r_126_48 : xfetch 126 48 = some (.getfield 25, 3) := by decide +kernel
theorem n_126_48 : ∀ l, xpr 126 48 l = l := xpr_no (by decide +kernel)
theorem r_126_51 : xfetch 126 51 = some (.iload_n 3, 1) := by decide +kernel
theorem n_126_51 : ∀ l, xpr 126 51 l = l := xpr_no (by decide +kernel)
theorem r_126_52 : xfetch 126 52 = some (.iaload, 1) := by decide +kernel
theorem n_126_52 : ∀ l, xpr 126 52 l = l := xpr_no (by decide +kernel)
theorem r_126_53 : xfetch 126 53 = some (.lushr, 1) := by decide +kernel
theorem n_126_53 : ∀ l, xpr 126 53 l = l := xpr_no (by decide +kernel)
theorem r_126_54 : xfetch 126 54 = some (.iload 6, 2) := by decide +kernel
theorem n_126_54 : ∀ l, xpr 126 54 l = l := xpr_no (by decide +kernel)
theorem r_126_56 : xfetch 126 56 = some (.invokestatic 92, 3) := by decide +kernel
theorem n_126_56 : ∀ l, xpr 126 56 l = l := xpr_no (by decide +kernel)
theorem r_126_59 : xfetch 126 59 = some (.land, 1) := by decide +kernel
theorem n_126_59 : ∀ l, xpr 126 59 l = l := xpr_no (by decide +kernel)
theorem r_126_60 : xfetch 126 60 = some (.lreturn, 1) := by decide +kernel
theorem n_126_60 : ∀ l, xpr 126 60 l = l := xpr_no (by decide +kernel)
theorem r_126_61 : xfetch 126 61 = some (.iload 6, 2) := by decide +kernel
theorem n_126_61 : ∀ l, xpr 126 61 l = l := xpr_no (by decide +kernel)
theorem r_126_63 : xfetch 126 63 = some (.tableswitch 75 0 7 #[45, 75, 51, 75, 57, 75, 75, 62], 45) := by decide +kernel
theorem n_126_63 : ∀ l, xpr 126 63 l = l := xpr_no (by decide +kernel)
theorem r_126_108 : xfetch 126 108 = some (.lload 4, 2) := by decide +kernel
theorem n_126_108 : ∀ l, xpr 126 108 l = l := xpr_no (by decide +kernel)
theorem r_126_110 : xfetch 126 110 = some (.l2i, 1) := by decide +kernel
theorem n_126_110 : ∀ l, xpr 126 110 l = l := xpr_no (by decide +kernel)
theorem r_126_111 : xfetch 126 111 = some (.i2b, 1) := by decide +kernel
theorem n_126_111 : ∀ l, xpr 126 111 l = l := xpr_no (by decide +kernel)
theorem r_126_112 : xfetch 126 112 = some (.i2l, 1) := by decide +kernel
theorem n_126_112 : ∀ l, xpr 126 112 l = l := xpr_no (by decide +kernel)
theorem r_126_113 : xfetch 126 113 = some (.lreturn, 1) := by decide +kernel
theorem n_126_113 : ∀ l, xpr 126 113 l = l := xpr_no (by decide +kernel)
theorem r_126_114 : xfetch 126 114 = some (.lload 4, 2) := by decide +kernel
theorem n_126_114 : ∀ l, xpr 126 114 l = l := xpr_no (by decide +kernel)
theorem r_126_116 : xfetch 126 116 = some (.l2i, 1) := by decide +kernel
theorem n_126_116 : ∀ l, xpr 126 116 l = l := xpr_no (by decide +kernel)
theorem r_126_117 : xfetch 126 117 = some (.i2s, 1) := by decide +kernel
theorem n_126_117 : ∀ l, xpr 126 117 l = l := xpr_no (by decide +kernel)
theorem r_126_118 : xfetch 126 118 = some (.i2l, 1) := by decide +kernel
theorem n_126_118 : ∀ l, xpr 126 118 l = l := xpr_no (by decide +kernel)
theorem r_126_119 : xfetch 126 119 = some (.lreturn, 1) := by decide +kernel
theorem n_126_119 : ∀ l, xpr 126 119 l = l := xpr_no (by decide +kernel)
theorem r_126_120 : xfetch 126 120 = some (.lload 4, 2) := by decide +kernel
theorem n_126_120 : ∀ l, xpr 126 120 l = l := xpr_no (by decide +kernel)
theorem r_126_122 : xfetch 126 122 = some (.l2i, 1) := by decide +kernel
theorem n_126_122 : ∀ l, xpr 126 122 l = l := xpr_no (by decide +kernel)
theorem r_126_123 : xfetch 126 123 = some (.i2l, 1) := by decide +kernel
theorem n_126_123 : ∀ l, xpr 126 123 l = l := xpr_no (by decide +kernel)
theorem r_126_124 : xfetch 126 124 = some (.lreturn, 1) := by decide +kernel
theorem n_126_124 : ∀ l, xpr 126 124 l = l := xpr_no (by decide +kernel)
theorem r_126_125 : xfetch 126 125 = some (.lload 4, 2) := by decide +kernel
theorem n_126_125 : ∀ l, xpr 126 125 l = l := xpr_no (by decide +kernel)
theorem r_126_127 : xfetch 126 127 = some (.lconst 0, 1) := by decide +kernel
theorem n_126_127 : ∀ l, xpr 126 127 l = l := xpr_no (by decide +kernel)
theorem r_126_128 : xfetch 126 128 = some (.lcmp, 1) := by decide +kernel
theorem n_126_128 : ∀ l, xpr 126 128 l = l := xpr_no (by decide +kernel)
theorem r_126_129 : xfetch 126 129 = some (.ifCond .ne 7, 3) := by decide +kernel
theorem n_126_129 : ∀ l, xpr 126 129 l = l := xpr_no (by decide +kernel)
theorem r_126_132 : xfetch 126 132 = some (.lconst 0, 1) := by decide +kernel
theorem n_126_132 : ∀ l, xpr 126 132 l = l := xpr_no (by decide +kernel)
theorem r_126_133 : xfetch 126 133 = some (.goto 4, 3) := by decide +kernel
theorem n_126_133 : ∀ l, xpr 126 133 l = l := xpr_no (by decide +kernel)
theorem r_126_136 : xfetch 126 136 = some (.lconst 1, 1) := by decide +kernel
theorem n_126_136 : ∀ l, xpr 126 136 l = l := xpr_no (by decide +kernel)
theorem r_126_137 : xfetch 126 137 = some (.lreturn, 1) := by decide +kernel
theorem n_126_137 : ∀ l, xpr 126 137 l = l := xpr_no (by decide +kernel)
theorem r_126_138 : xfetch 126 138 = some (.lload 4, 2) := by decide +kernel
theorem n_126_138 : ∀ l, xpr 126 138 l = l := xpr_no (by decide +kernel)
theorem r_126_140 : xfetch 126 140 = some (.lreturn, 1) := by decide +kernel
theorem n_126_140 : ∀ l, xpr 126 140 l = l := xpr_no (by decide +kernel)
theorem v_View_read_0 {S : Option (Nat × (Nat → Int32))} {s : zSt} {Q : Option Value ⊕ Nat → zSt → Prop} {a0 : Int} {a1 : Int} {x2 : Int} {x3 : Int} (ha0 : isO a0 8) (ha1 : isA a1 3 1024)
    (h : rng x3 ∧ ((0 ≤ x3 ∧ x3 < zI s a0 3 ∧ x3 < 40 → (0 ≤ x3 ∧ x3 < 40) ∧ ((x3 < zI s a0 3) ∧ ((0 < zI s a0 5) ∧ (rng x2 ∧ ((0 ≤ x2) ∧ (wp S 127 0 [(0, rf a0), (1, rf a1), (2, iv (zI s a0 0 + x2 / zI s a0 5 * zI s a0 6 + zI s (a0 + 2) x3 + x2 % zI s a0 5 * zI s (a0 + 3) x3)), (3, iv (zI s (a0 + 3) x3))] [] s (fun o12 s12 => zkL (fun y12 => (¬ (20 < (zI s12 (a0 + 1) x3) ∧ (zI s12 (a0 + 1) x3) ≤ 36) → ((zI s12 (a0 + 1) x3) = 0 → Q (rL (zi2l (zi2b (zl2i y12)))) s12) ∧ (((zI s12 (a0 + 1) x3) = 1 → Q (rL y12) s12) ∧ (((zI s12 (a0 + 1) x3) = 2 → Q (rL (zi2l (zi2s (zl2i y12)))) s12) ∧ (((zI s12 (a0 + 1) x3) = 3 → Q (rL y12) s12) ∧ (((zI s12 (a0 + 1) x3) = 4 → Q (rL (zi2l (zl2i y12))) s12) ∧ (((zI s12 (a0 + 1) x3) = 5 → Q (rL y12) s12) ∧ (((zI s12 (a0 + 1) x3) = 6 → Q (rL y12) s12) ∧ (((zI s12 (a0 + 1) x3) = 7 → ((zcmp y12 0) ≠ 0 → Q (rL 1) s12) ∧ ((zcmp y12 0) = 0 → Q (rL 0) s12)) ∧ ((((zI s12 (a0 + 1) x3) < 0 ∨ 7 < (zI s12 (a0 + 1) x3)) → Q (rL y12) s12)))))))))) ∧ (20 < (zI s12 (a0 + 1) x3) ∧ (zI s12 (a0 + 1) x3) ≤ 36 → Q (rL ((zushrL y12 (zI s12 (a0 + 4) x3)) &&& ((zshlL 1 ((zI s12 (a0 + 1) x3) - 20)) - 1))) s12)) (fun e12 => False) o12))))))) ∧ (¬ (0 ≤ x3 ∧ x3 < zI s a0 3 ∧ x3 < 40) → Q (rL 0) s))) :
    wp S 126 0 [(0, rf a0), (1, rf a1), (2, iv x2), (3, iv x3)] [] s Q := by
  refine i_aload_n (a := a0) r_126_0 (n_126_0 _) rfl ?_
  refine i_iload_n (x := x3) r_126_1 (n_126_1 _) rfl ?_
  obtain ⟨g1, h⟩ := h
  refine wp_virt (b := a0) (rest := []) (Ls := [(0, rf a0), (1, iv x3)]) r_126_2 (n_126_2 _) rfl ⟨rfl, rfl, by decide, by decide⟩ rfl rfl ha0 ⟨rfl, Nat.le_of_ble_eq_true rfl, Nat.le_of_ble_eq_true rfl⟩ rfl (K_View_hasLeaf ha0 g1) ?_
  rintro _ _ ⟨rfl, rfl⟩
  refine .inl ⟨some (iv (bi (0 ≤ x3 ∧ x3 < zI s a0 3 ∧ x3 < 40))), rfl, ?_⟩
  show wp S 126 5 [(0, rf a0), (1, rf a1), (2, iv x2), (3, iv x3)] [iv (bi (0 ≤ x3 ∧ x3 < zI s a0 3 ∧ x3 < 40))] s Q
  refine i_if (t := 10) r_126_5 (n_126_5 _) rfl (TB_ne) (fun c3 => ?_) (fun c3 => ?_)
  · replace h := h.1 c3
    refine i_aload_n (a := a0) r_126_10 (n_126_10 _) rfl ?_
    refine i_aload_n (a := a1) r_126_11 (n_126_11 _) rfl ?_
    refine i_aload_n (a := a0) r_126_12 (n_126_12 _) rfl ?_
    refine i_iload_n (x := x2) r_126_13 (n_126_13 _) rfl ?_
    refine i_iload_n (x := x3) r_126_14 (n_126_14 _) rfl ?_
    obtain ⟨g4, h⟩ := h
    obtain ⟨g5, h⟩ := h
    obtain ⟨g6, h⟩ := h
    obtain ⟨g7, h⟩ := h
    obtain ⟨g8, h⟩ := h
    refine wp_virt (b := a0) (rest := [rf a1, rf a0]) (Ls := [(0, rf a0), (1, iv x2), (2, iv x3)]) r_126_15 (n_126_15 _) rfl ⟨rfl, rfl, by decide, by decide⟩ rfl rfl ha0 ⟨rfl, Nat.le_of_ble_eq_true rfl, Nat.le_of_ble_eq_true rfl⟩ rfl (K_View_placeOf ha0 g4 g5 g6 g7 g8) ?_
    rintro _ _ ⟨rfl, rfl⟩
    refine .inl ⟨some (iv (zI s a0 0 + x2 / zI s a0 5 * zI s a0 6 + zI s (a0 + 2) x3 + x2 % zI s a0 5 * zI s (a0 + 3) x3)), rfl, ?_⟩
    show wp S 126 18 [(0, rf a0), (1, rf a1), (2, iv x2), (3, iv x3)] [iv (zI s a0 0 + x2 / zI s a0 5 * zI s a0 6 + zI s (a0 + 2) x3 + x2 % zI s a0 5 * zI s (a0 + 3) x3), rf a1, rf a0] s Q
    refine i_aload_n (a := a0) r_126_18 (n_126_18 _) rfl ?_
    refine i_getR (a := a0) (b := a0 + 3) r_126_19 (n_126_19 _) rfl rfl rfl (by omega) ha0 (by omega) ?_
    have t10 := (t_8_9 ha0)
    refine i_iload_n (x := x3) r_126_22 (n_126_22 _) rfl ?_
    refine i_iaload (a := a0 + 3) (j := x3) r_126_23 (n_126_23 _) t10 ⟨by omega, by omega⟩ (by omega) (by omega) (fun q11 => ?_)
    refine wp_virt (b := a0) (rest := []) (Ls := [(0, rf a0), (1, rf a1), (2, iv (zI s a0 0 + x2 / zI s a0 5 * zI s a0 6 + zI s (a0 + 2) x3 + x2 % zI s a0 5 * zI s (a0 + 3) x3)), (3, iv (zI s (a0 + 3) x3))]) r_126_24 (n_126_24 _) rfl ⟨rfl, rfl, by decide, by decide⟩ rfl rfl ha0 ⟨rfl, Nat.le_of_ble_eq_true rfl, Nat.le_of_ble_eq_true rfl⟩ rfl h ?_
    intro o12 s12 h
    rcases h with ⟨y12, rfl, h⟩ | ⟨e12, rfl, h⟩
    · refine .inl ⟨some (.long y12), rfl, ?_⟩
      show wp S 126 27 [(0, rf a0), (1, rf a1), (2, iv x2), (3, iv x3)] [.long y12] s12 Q
      refine i_lstore (l' := [(0, rf a0), (1, rf a1), (2, iv x2), (3, iv x3), (4, .long y12)]) r_126_27 (n_126_27 _) (by decide) rfl ?_
      refine i_aload_n (a := a0) r_126_29 (n_126_29 _) rfl ?_
      refine i_getR (a := a0) (b := a0 + 1) r_126_30 (n_126_30 _) rfl rfl rfl (by omega) ha0 (by omega) ?_
      have t14 := (t_8_7 ha0)
      refine i_iload_n (x := x3) r_126_33 (n_126_33 _) rfl ?_
      refine i_iaload (a := a0 + 1) (j := x3) r_126_34 (n_126_34 _) t14 ⟨by omega, by omega⟩ (by omega) (by omega) (fun q15 => ?_)
      refine i_istore (l' := [(0, rf a0), (1, rf a1), (2, iv x2), (3, iv x3), (4, .long y12), (6, iv (zI s12 (a0 + 1) x3))]) r_126_35 (n_126_35 _) (by decide) rfl ?_
      refine i_iload (x := zI s12 (a0 + 1) x3) r_126_37 (n_126_37 _) rfl ?_
      refine wp_stat (rest := []) (Ls := [(0, iv (zI s12 (a0 + 1) x3))]) r_126_39 (n_126_39 _) rfl ⟨rfl, by decide, by decide, by decide⟩ rfl rfl ⟨rfl, Nat.le_of_ble_eq_true rfl, Nat.le_of_ble_eq_true rfl⟩ rfl (K_RL_isBits q15) ?_
      rintro _ _ ⟨rfl, rfl⟩
      refine .inl ⟨some (iv (bi (20 < (zI s12 (a0 + 1) x3) ∧ (zI s12 (a0 + 1) x3) ≤ 36))), rfl, ?_⟩
      show wp S 126 42 [(0, rf a0), (1, rf a1), (2, iv x2), (3, iv x3), (4, .long y12), (6, iv (zI s12 (a0 + 1) x3))] [iv (bi (20 < (zI s12 (a0 + 1) x3) ∧ (zI s12 (a0 + 1) x3) ≤ 36))] s12 Q
      refine i_if (t := 61) r_126_42 (n_126_42 _) rfl (TB_eq) (fun c17 => ?_) (fun c17 => ?_)
      · replace h := h.1 c17
        refine i_iload (x := zI s12 (a0 + 1) x3) r_126_61 (n_126_61 _) rfl ?_
        rcases (by omega : (zI s12 (a0 + 1) x3) = 0 ∨ (zI s12 (a0 + 1) x3) = 1 ∨ (zI s12 (a0 + 1) x3) = 2 ∨ (zI s12 (a0 + 1) x3) = 3 ∨ (zI s12 (a0 + 1) x3) = 4 ∨ (zI s12 (a0 + 1) x3) = 5 ∨ (zI s12 (a0 + 1) x3) = 6 ∨ (zI s12 (a0 + 1) x3) = 7 ∨ ((zI s12 (a0 + 1) x3) < 0 ∨ 7 < (zI s12 (a0 + 1) x3))) with c18 | c18 | c18 | c18 | c18 | c18 | c18 | c18 | c18
        · replace h := h.1 c18
          refine i_sw_hit (kk := 0) (t := 108) r_126_63 (n_126_63 _) (by omega) q15 (by omega) rfl rfl ?_
          refine i_lload (u := y12) r_126_108 (n_126_108 _) rfl ?_
          refine i_l2i r_126_110 (n_126_110 _) ?_
          refine i_i2b r_126_111 (n_126_111 _) ?_
          refine i_i2l r_126_112 (n_126_112 _) ?_
          exact i_lreturn r_126_113 (n_126_113 _) rfl h
        · replace h := h.2.1 c18
          refine i_sw_hit (kk := 1) (t := 138) r_126_63 (n_126_63 _) (by omega) q15 (by omega) rfl rfl ?_
          refine i_lload (u := y12) r_126_138 (n_126_138 _) rfl ?_
          exact i_lreturn r_126_140 (n_126_140 _) rfl h
        · replace h := h.2.2.1 c18
          refine i_sw_hit (kk := 2) (t := 114) r_126_63 (n_126_63 _) (by omega) q15 (by omega) rfl rfl ?_
          refine i_lload (u := y12) r_126_114 (n_126_114 _) rfl ?_
          refine i_l2i r_126_116 (n_126_116 _) ?_
          refine i_i2s r_126_117 (n_126_117 _) ?_
          refine i_i2l r_126_118 (n_126_118 _) ?_
          exact i_lreturn r_126_119 (n_126_119 _) rfl h
        · replace h := h.2.2.2.1 c18
          refine i_sw_hit (kk := 3) (t := 138) r_126_63 (n_126_63 _) (by omega) q15 (by omega) rfl rfl ?_
          refine i_lload (u := y12) r_126_138 (n_126_138 _) rfl ?_
          exact i_lreturn r_126_140 (n_126_140 _) rfl h
        · replace h := h.2.2.2.2.1 c18
          refine i_sw_hit (kk := 4) (t := 120) r_126_63 (n_126_63 _) (by omega) q15 (by omega) rfl rfl ?_
          refine i_lload (u := y12) r_126_120 (n_126_120 _) rfl ?_
          refine i_l2i r_126_122 (n_126_122 _) ?_
          refine i_i2l r_126_123 (n_126_123 _) ?_
          exact i_lreturn r_126_124 (n_126_124 _) rfl h
        · replace h := h.2.2.2.2.2.1 c18
          refine i_sw_hit (kk := 5) (t := 138) r_126_63 (n_126_63 _) (by omega) q15 (by omega) rfl rfl ?_
          refine i_lload (u := y12) r_126_138 (n_126_138 _) rfl ?_
          exact i_lreturn r_126_140 (n_126_140 _) rfl h
        · replace h := h.2.2.2.2.2.2.1 c18
          refine i_sw_hit (kk := 6) (t := 138) r_126_63 (n_126_63 _) (by omega) q15 (by omega) rfl rfl ?_
          refine i_lload (u := y12) r_126_138 (n_126_138 _) rfl ?_
          exact i_lreturn r_126_140 (n_126_140 _) rfl h
        · replace h := h.2.2.2.2.2.2.2.1 c18
          refine i_sw_hit (kk := 7) (t := 125) r_126_63 (n_126_63 _) (by omega) q15 (by omega) rfl rfl ?_
          refine i_lload (u := y12) r_126_125 (n_126_125 _) rfl ?_
          refine i_lconst r_126_127 (n_126_127 _) ?_
          refine i_lcmp r_126_128 (n_126_128 _) ?_
          refine i_if (t := 136) r_126_129 (n_126_129 _) rfl (T_ne (zcmp_rng _ _) ⟨by omega, by omega⟩) (fun c19 => ?_) (fun c19 => ?_)
          · replace h := h.1 c19
            refine i_lconst r_126_136 (n_126_136 _) ?_
            exact i_lreturn r_126_137 (n_126_137 _) rfl h
          · replace h := h.2 c19
            refine i_lconst r_126_132 (n_126_132 _) ?_
            refine i_goto (t := 137) r_126_133 (n_126_133 _) rfl ?_
            exact i_lreturn r_126_137 (n_126_137 _) rfl h
        · replace h := h.2.2.2.2.2.2.2.2 c18
          refine i_sw_out (t := 138) r_126_63 (n_126_63 _) c18 q15 rfl ?_
          refine i_lload (u := y12) r_126_138 (n_126_138 _) rfl ?_
          exact i_lreturn r_126_140 (n_126_140 _) rfl h
      · replace h := h.2 c17
        refine i_lload (u := y12) r_126_45 (n_126_45 _) rfl ?_
        refine i_aload_n (a := a0) r_126_47 (n_126_47 _) rfl ?_
        refine i_getR (a := a0) (b := a0 + 4) r_126_48 (n_126_48 _) rfl rfl rfl (by omega) ha0 (by omega) ?_
        have t20 := (t_8_10 ha0)
        refine i_iload_n (x := x3) r_126_51 (n_126_51 _) rfl ?_
        refine i_iaload (a := a0 + 4) (j := x3) r_126_52 (n_126_52 _) t20 ⟨by omega, by omega⟩ (by omega) (by omega) (fun q21 => ?_)
        refine i_lushr r_126_53 (n_126_53 _) ?_
        refine i_iload (x := zI s12 (a0 + 1) x3) r_126_54 (n_126_54 _) rfl ?_
        refine wp_stat (rest := [.long (zushrL y12 (zI s12 (a0 + 4) x3))]) (Ls := [(0, iv (zI s12 (a0 + 1) x3))]) r_126_56 (n_126_56 _) rfl ⟨rfl, by decide, by decide, by decide⟩ rfl rfl ⟨rfl, Nat.le_of_ble_eq_true rfl, Nat.le_of_ble_eq_true rfl⟩ rfl K_View_maskOf ?_
        rintro _ _ ⟨rfl, rfl⟩
        refine .inl ⟨some (.long ((zshlL 1 ((zI s12 (a0 + 1) x3) - 20)) - 1)), rfl, ?_⟩
        show wp S 126 59 [(0, rf a0), (1, rf a1), (2, iv x2), (3, iv x3), (4, .long y12), (6, iv (zI s12 (a0 + 1) x3))] [.long ((zshlL 1 ((zI s12 (a0 + 1) x3) - 20)) - 1), .long (zushrL y12 (zI s12 (a0 + 4) x3))] s12 Q
        refine i_land r_126_59 (n_126_59 _) ?_
        exact i_lreturn r_126_60 (n_126_60 _) rfl h
    · skip
      exact h.elim
  · replace h := h.2 c3
    refine i_lconst r_126_8 (n_126_8 _) ?_
    exact i_lreturn r_126_9 (n_126_9 _) rfl h
theorem r_127_0 : xfetch 127 0 = some (.lconst 0, 1) := by decide +kernel
theorem n_127_0 : ∀ l, xpr 127 0 l = l := xpr_no (by decide +kernel)
theorem r_127_1 : xfetch 127 1 = some (.lstore 4, 2) := by decide +kernel
theorem n_127_1 : ∀ l, xpr 127 1 l = l := xpr_no (by decide +kernel)
theorem r_127_3 : xfetch 127 3 = some (.iconst 0, 1) := by decide +kernel
theorem n_127_3 : ∀ l, xpr 127 3 l = l := xpr_no (by decide +kernel)
theorem r_127_4 : xfetch 127 4 = some (.istore 6, 2) := by decide +kernel
theorem n_127_4 : ∀ l, xpr 127 4 l = l := xpr_no (by decide +kernel)
theorem r_127_6 : xfetch 127 6 = some (.iload 6, 2) := by decide +kernel
theorem r_127_8 : xfetch 127 8 = some (.iload_n 3, 1) := by decide +kernel
theorem n_127_8 : ∀ l, xpr 127 8 l = l := xpr_no (by decide +kernel)
theorem r_127_9 : xfetch 127 9 = some (.if_icmp .ge 63, 3) := by decide +kernel
theorem n_127_9 : ∀ l, xpr 127 9 l = l := xpr_no (by decide +kernel)
theorem r_127_12 : xfetch 127 12 = some (.aload_n 0, 1) := by decide +kernel
theorem n_127_12 : ∀ l, xpr 127 12 l = l := xpr_no (by decide +kernel)
theorem r_127_13 : xfetch 127 13 = some (.getfield 75, 3) := by decide +kernel
theorem n_127_13 : ∀ l, xpr 127 13 l = l := xpr_no (by decide +kernel)
theorem r_127_16 : xfetch 127 16 = some (.ifCond .ne 14, 3) := by decide +kernel
theorem n_127_16 : ∀ l, xpr 127 16 l = l := xpr_no (by decide +kernel)
theorem r_127_19 : xfetch 127 19 = some (.iload_n 2, 1) := by decide +kernel
theorem n_127_19 : ∀ l, xpr 127 19 l = l := xpr_no (by decide +kernel)
theorem r_127_20 : xfetch 127 20 = some (.iload_n 3, 1) := by decide +kernel
theorem n_127_20 : ∀ l, xpr 127 20 l = l := xpr_no (by decide +kernel)
theorem r_127_21 : xfetch 127 21 = some (.iadd, 1) := by decide +kernel
theorem n_127_21 : ∀ l, xpr 127 21 l = l := xpr_no (by decide +kernel)
theorem r_127_22 : xfetch 127 22 = some (.iconst 1, 1) := by decide +kernel
theorem n_127_22 : ∀ l, xpr 127 22 l = l := xpr_no (by decide +kernel)
theorem r_127_23 : xfetch 127 23 = some (.isub, 1) := by decide +kernel
theorem n_127_23 : ∀ l, xpr 127 23 l = l := xpr_no (by decide +kernel)
theorem r_127_24 : xfetch 127 24 = some (.iload 6, 2) := by decide +kernel
theorem n_127_24 : ∀ l, xpr 127 24 l = l := xpr_no (by decide +kernel)
theorem r_127_26 : xfetch 127 26 = some (.isub, 1) := by decide +kernel
theorem n_127_26 : ∀ l, xpr 127 26 l = l := xpr_no (by decide +kernel)
theorem r_127_27 : xfetch 127 27 = some (.goto 7, 3) := by decide +kernel
theorem n_127_27 : ∀ l, xpr 127 27 l = l := xpr_no (by decide +kernel)
theorem r_127_30 : xfetch 127 30 = some (.iload_n 2, 1) := by decide +kernel
theorem n_127_30 : ∀ l, xpr 127 30 l = l := xpr_no (by decide +kernel)
theorem r_127_31 : xfetch 127 31 = some (.iload 6, 2) := by decide +kernel
theorem n_127_31 : ∀ l, xpr 127 31 l = l := xpr_no (by decide +kernel)
theorem r_127_33 : xfetch 127 33 = some (.iadd, 1) := by decide +kernel
theorem n_127_33 : ∀ l, xpr 127 33 l = l := xpr_no (by decide +kernel)
theorem r_127_34 : xfetch 127 34 = some (.istore 7, 2) := by decide +kernel
theorem n_127_34 : ∀ l, xpr 127 34 l = l := xpr_no (by decide +kernel)
theorem r_127_36 : xfetch 127 36 = some (.iload 7, 2) := by decide +kernel
theorem n_127_36 : ∀ l, xpr 127 36 l = l := xpr_no (by decide +kernel)
theorem r_127_38 : xfetch 127 38 = some (.ifCond .lt 28, 3) := by decide +kernel
theorem n_127_38 : ∀ l, xpr 127 38 l = l := xpr_no (by decide +kernel)
theorem r_127_41 : xfetch 127 41 = some (.iload 7, 2) := by decide +kernel
theorem n_127_41 : ∀ l, xpr 127 41 l = l := xpr_no (by decide +kernel)
theorem r_127_43 : xfetch 127 43 = some (.sipush 1024, 3) := by decide +kernel
theorem n_127_43 : ∀ l, xpr 127 43 l = l := xpr_no (by decide +kernel)
theorem r_127_46 : xfetch 127 46 = some (.if_icmp .ge 20, 3) := by decide +kernel
theorem n_127_46 : ∀ l, xpr 127 46 l = l := xpr_no (by decide +kernel)
theorem r_127_49 : xfetch 127 49 = some (.lload 4, 2) := by decide +kernel
theorem n_127_49 : ∀ l, xpr 127 49 l = l := xpr_no (by decide +kernel)
theorem r_127_51 : xfetch 127 51 = some (.bipush 8, 2) := by decide +kernel
theorem n_127_51 : ∀ l, xpr 127 51 l = l := xpr_no (by decide +kernel)
theorem r_127_53 : xfetch 127 53 = some (.lshl, 1) := by decide +kernel
theorem n_127_53 : ∀ l, xpr 127 53 l = l := xpr_no (by decide +kernel)
theorem r_127_54 : xfetch 127 54 = some (.aload_n 1, 1) := by decide +kernel
theorem n_127_54 : ∀ l, xpr 127 54 l = l := xpr_no (by decide +kernel)
theorem r_127_55 : xfetch 127 55 = some (.iload 7, 2) := by decide +kernel
theorem n_127_55 : ∀ l, xpr 127 55 l = l := xpr_no (by decide +kernel)
theorem r_127_57 : xfetch 127 57 = some (.baload, 1) := by decide +kernel
theorem n_127_57 : ∀ l, xpr 127 57 l = l := xpr_no (by decide +kernel)
theorem r_127_58 : xfetch 127 58 = some (.sipush 255, 3) := by decide +kernel
theorem n_127_58 : ∀ l, xpr 127 58 l = l := xpr_no (by decide +kernel)
theorem r_127_61 : xfetch 127 61 = some (.iand, 1) := by decide +kernel
theorem n_127_61 : ∀ l, xpr 127 61 l = l := xpr_no (by decide +kernel)
theorem r_127_62 : xfetch 127 62 = some (.i2l, 1) := by decide +kernel
theorem n_127_62 : ∀ l, xpr 127 62 l = l := xpr_no (by decide +kernel)
theorem r_127_63 : xfetch 127 63 = some (.lor, 1) := by decide +kernel
theorem n_127_63 : ∀ l, xpr 127 63 l = l := xpr_no (by decide +kernel)
theorem r_127_64 : xfetch 127 64 = some (.lstore 4, 2) := by decide +kernel
theorem n_127_64 : ∀ l, xpr 127 64 l = l := xpr_no (by decide +kernel)
theorem r_127_66 : xfetch 127 66 = some (.iinc 6 1, 3) := by decide +kernel
theorem n_127_66 : ∀ l, xpr 127 66 l = l := xpr_no (by decide +kernel)
theorem r_127_69 : xfetch 127 69 = some (.goto (-63), 3) := by decide +kernel
theorem n_127_69 : ∀ l, xpr 127 69 l = l := xpr_no (by decide +kernel)
theorem r_127_72 : xfetch 127 72 = some (.lload 4, 2) := by decide +kernel
theorem n_127_72 : ∀ l, xpr 127 72 l = l := xpr_no (by decide +kernel)
theorem r_127_74 : xfetch 127 74 = some (.lreturn, 1) := by decide +kernel
theorem n_127_74 : ∀ l, xpr 127 74 l = l := xpr_no (by decide +kernel)
theorem v_View_rawAt_0 {S : Option (Nat × (Nat → Int32))} {s : zSt} {Q : Option Value ⊕ Nat → zSt → Prop} {a0 : Int} {a1 : Int} {x2 : Int} {x3 : Int} (ha0 : isO a0 8) (ha1 : isA a1 3 1024)
    (h : wp S 127 6 [(0, rf a0), (1, rf a1), (2, iv x2), (3, iv x3), (4, .long 0), (6, iv 0)] [] s Q) :
    wp S 127 0 [(0, rf a0), (1, rf a1), (2, iv x2), (3, iv x3)] [] s Q := by
  refine i_lconst r_127_0 (n_127_0 _) ?_
  refine i_lstore (l' := [(0, rf a0), (1, rf a1), (2, iv x2), (3, iv x3), (4, .long 0)]) r_127_1 (n_127_1 _) (by decide) rfl ?_
  refine i_iconst r_127_3 (n_127_3 _) ?_
  refine i_istore (l' := [(0, rf a0), (1, rf a1), (2, iv x2), (3, iv x3), (4, .long 0), (6, iv 0)]) r_127_4 (n_127_4 _) (by decide) rfl ?_
  exact wp_pr (l' := [(0, rf a0), (1, rf a1), (2, iv x2), (3, iv x3), (4, .long 0), (6, iv 0)]) rfl h
theorem v_View_rawAt_6 {S : Option (Nat × (Nat → Int32))} {s : zSt} {Q : Option Value ⊕ Nat → zSt → Prop} {a0 : Int} {a1 : Int} {x2 : Int} {x3 : Int} {u4 : Int64} {x6 : Int} (ha0 : isO a0 8) (ha1 : isA a1 3 1024)
    (h : rng x6 ∧ (rng x3 ∧ ((x3 ≤ x6 → Q (rL u4) s) ∧ (x6 < x3 → ((zI s a0 1) ≠ 0 → rng (x2 + x6) ∧ (((x2 + x6) < 0 → wp S 127 6 [(0, rf a0), (1, rf a1), (2, iv x2), (3, iv x3), (4, .long u4), (6, iv (x6 + 1))] [] s Q) ∧ (0 ≤ (x2 + x6) → (1024 ≤ (x2 + x6) → wp S 127 6 [(0, rf a0), (1, rf a1), (2, iv x2), (3, iv x3), (4, .long u4), (6, iv (x6 + 1))] [] s Q) ∧ ((x2 + x6) < 1024 → (0 ≤ (x2 + x6) ∧ (x2 + x6) < 1024) ∧ (wp S 127 6 [(0, rf a0), (1, rf a1), (2, iv x2), (3, iv x3), (4, .long ((zshlL u4 8) ||| (zi2l (zand (zI s a1 (x2 + x6)) 255)))), (6, iv (x6 + 1))] [] s Q))))) ∧ ((zI s a0 1) = 0 → rng (((x2 + x3) - 1) - x6) ∧ (((((x2 + x3) - 1) - x6) < 0 → wp S 127 6 [(0, rf a0), (1, rf a1), (2, iv x2), (3, iv x3), (4, .long u4), (6, iv (x6 + 1))] [] s Q) ∧ (0 ≤ (((x2 + x3) - 1) - x6) → (1024 ≤ (((x2 + x3) - 1) - x6) → wp S 127 6 [(0, rf a0), (1, rf a1), (2, iv x2), (3, iv x3), (4, .long u4), (6, iv (x6 + 1))] [] s Q) ∧ ((((x2 + x3) - 1) - x6) < 1024 → (0 ≤ (((x2 + x3) - 1) - x6) ∧ (((x2 + x3) - 1) - x6) < 1024) ∧ (wp S 127 6 [(0, rf a0), (1, rf a1), (2, iv x2), (3, iv x3), (4, .long ((zshlL u4 8) ||| (zi2l (zand (zI s a1 (((x2 + x3) - 1) - x6)) 255)))), (6, iv (x6 + 1))] [] s Q))))))))) :
    wp S 127 6 [(0, rf a0), (1, rf a1), (2, iv x2), (3, iv x3), (4, .long u4), (6, iv x6)] [] s Q := by
  refine i_iload (x := x6) r_127_6 rfl rfl ?_
  refine i_iload_n (x := x3) r_127_8 (n_127_8 _) rfl ?_
  obtain ⟨g1, h⟩ := h
  obtain ⟨g2, h⟩ := h
  refine i_icmp (t := 72) r_127_9 (n_127_9 _) rfl (T_ge g1 g2) (fun c3 => ?_) (fun c3 => ?_)
  · replace h := h.1 c3
    refine i_lload (u := u4) r_127_72 (n_127_72 _) rfl ?_
    exact i_lreturn r_127_74 (n_127_74 _) rfl h
  · replace h := h.2 c3
    refine i_aload_n (a := a0) r_127_12 (n_127_12 _) rfl ?_
    refine i_getI (a := a0) r_127_13 (n_127_13 _) rfl (by decide) ha0 (fun q4 => ?_)
    refine i_if (t := 30) r_127_16 (n_127_16 _) rfl (T_ne q4 ⟨by omega, by omega⟩) (fun c5 => ?_) (fun c5 => ?_)
    · replace h := h.1 c5
      refine i_iload_n (x := x2) r_127_30 (n_127_30 _) rfl ?_
      refine i_iload (x := x6) r_127_31 (n_127_31 _) rfl ?_
      refine i_iadd r_127_33 (n_127_33 _) ?_
      refine i_istore (l' := [(0, rf a0), (1, rf a1), (2, iv x2), (3, iv x3), (4, .long u4), (6, iv x6), (7, iv (x2 + x6))]) r_127_34 (n_127_34 _) (by decide) rfl ?_
      refine i_iload (x := x2 + x6) r_127_36 (n_127_36 _) rfl ?_
      obtain ⟨g6, h⟩ := h
      refine i_if (t := 66) r_127_38 (n_127_38 _) rfl (T_lt g6 ⟨by omega, by omega⟩) (fun c7 => ?_) (fun c7 => ?_)
      · replace h := h.1 c7
        refine i_iinc (x := x6) (l' := [(0, rf a0), (1, rf a1), (2, iv x2), (3, iv x3), (4, .long u4), (6, iv (x6 + 1)), (7, iv (x2 + x6))]) r_127_66 (n_127_66 _) (by decide) rfl rfl ?_
        refine i_goto (t := 6) r_127_69 (n_127_69 _) rfl ?_
        exact wp_pr (l' := [(0, rf a0), (1, rf a1), (2, iv x2), (3, iv x3), (4, .long u4), (6, iv (x6 + 1))]) rfl h
      · replace h := h.2 c7
        refine i_iload (x := x2 + x6) r_127_41 (n_127_41 _) rfl ?_
        refine i_sipush r_127_43 (n_127_43 _) rfl ?_
        refine i_icmp (t := 66) r_127_46 (n_127_46 _) rfl (T_ge g6 ⟨by omega, by omega⟩) (fun c8 => ?_) (fun c8 => ?_)
        · replace h := h.1 c8
          refine i_iinc (x := x6) (l' := [(0, rf a0), (1, rf a1), (2, iv x2), (3, iv x3), (4, .long u4), (6, iv (x6 + 1)), (7, iv (x2 + x6))]) r_127_66 (n_127_66 _) (by decide) rfl rfl ?_
          refine i_goto (t := 6) r_127_69 (n_127_69 _) rfl ?_
          exact wp_pr (l' := [(0, rf a0), (1, rf a1), (2, iv x2), (3, iv x3), (4, .long u4), (6, iv (x6 + 1))]) rfl h
        · replace h := h.2 c8
          refine i_lload (u := u4) r_127_49 (n_127_49 _) rfl ?_
          refine i_bipush r_127_51 (n_127_51 _) rfl ?_
          refine i_lshl r_127_53 (n_127_53 _) ?_
          refine i_aload_n (a := a1) r_127_54 (n_127_54 _) rfl ?_
          refine i_iload (x := x2 + x6) r_127_55 (n_127_55 _) rfl ?_
          obtain ⟨g9, h⟩ := h
          refine i_baload (a := a1) (j := x2 + x6) r_127_57 (n_127_57 _) ha1 ⟨by omega, by omega⟩ (by omega) (by omega) (fun q10 => ?_)
          refine i_sipush r_127_58 (n_127_58 _) rfl ?_
          refine i_iand r_127_61 (n_127_61 _) ?_
          refine i_i2l r_127_62 (n_127_62 _) ?_
          refine i_lor r_127_63 (n_127_63 _) ?_
          refine i_lstore (l' := [(0, rf a0), (1, rf a1), (2, iv x2), (3, iv x3), (4, .long ((zshlL u4 8) ||| (zi2l (zand (zI s a1 (x2 + x6)) 255)))), (6, iv x6), (7, iv (x2 + x6))]) r_127_64 (n_127_64 _) (by decide) rfl ?_
          refine i_iinc (x := x6) (l' := [(0, rf a0), (1, rf a1), (2, iv x2), (3, iv x3), (4, .long ((zshlL u4 8) ||| (zi2l (zand (zI s a1 (x2 + x6)) 255)))), (6, iv (x6 + 1)), (7, iv (x2 + x6))]) r_127_66 (n_127_66 _) (by decide) rfl rfl ?_
          refine i_goto (t := 6) r_127_69 (n_127_69 _) rfl ?_
          exact wp_pr (l' := [(0, rf a0), (1, rf a1), (2, iv x2), (3, iv x3), (4, .long ((zshlL u4 8) ||| (zi2l (zand (zI s a1 (x2 + x6)) 255)))), (6, iv (x6 + 1))]) rfl h
    · replace h := h.2 c5
      refine i_iload_n (x := x2) r_127_19 (n_127_19 _) rfl ?_
      refine i_iload_n (x := x3) r_127_20 (n_127_20 _) rfl ?_
      refine i_iadd r_127_21 (n_127_21 _) ?_
      refine i_iconst r_127_22 (n_127_22 _) ?_
      refine i_isub r_127_23 (n_127_23 _) ?_
      refine i_iload (x := x6) r_127_24 (n_127_24 _) rfl ?_
      refine i_isub r_127_26 (n_127_26 _) ?_
      refine i_goto (t := 34) r_127_27 (n_127_27 _) rfl ?_
      refine i_istore (l' := [(0, rf a0), (1, rf a1), (2, iv x2), (3, iv x3), (4, .long u4), (6, iv x6), (7, iv (((x2 + x3) - 1) - x6))]) r_127_34 (n_127_34 _) (by decide) rfl ?_
      refine i_iload (x := ((x2 + x3) - 1) - x6) r_127_36 (n_127_36 _) rfl ?_
      obtain ⟨g11, h⟩ := h
      refine i_if (t := 66) r_127_38 (n_127_38 _) rfl (T_lt g11 ⟨by omega, by omega⟩) (fun c12 => ?_) (fun c12 => ?_)
      · replace h := h.1 c12
        refine i_iinc (x := x6) (l' := [(0, rf a0), (1, rf a1), (2, iv x2), (3, iv x3), (4, .long u4), (6, iv (x6 + 1)), (7, iv (((x2 + x3) - 1) - x6))]) r_127_66 (n_127_66 _) (by decide) rfl rfl ?_
        refine i_goto (t := 6) r_127_69 (n_127_69 _) rfl ?_
        exact wp_pr (l' := [(0, rf a0), (1, rf a1), (2, iv x2), (3, iv x3), (4, .long u4), (6, iv (x6 + 1))]) rfl h
      · replace h := h.2 c12
        refine i_iload (x := ((x2 + x3) - 1) - x6) r_127_41 (n_127_41 _) rfl ?_
        refine i_sipush r_127_43 (n_127_43 _) rfl ?_
        refine i_icmp (t := 66) r_127_46 (n_127_46 _) rfl (T_ge g11 ⟨by omega, by omega⟩) (fun c13 => ?_) (fun c13 => ?_)
        · replace h := h.1 c13
          refine i_iinc (x := x6) (l' := [(0, rf a0), (1, rf a1), (2, iv x2), (3, iv x3), (4, .long u4), (6, iv (x6 + 1)), (7, iv (((x2 + x3) - 1) - x6))]) r_127_66 (n_127_66 _) (by decide) rfl rfl ?_
          refine i_goto (t := 6) r_127_69 (n_127_69 _) rfl ?_
          exact wp_pr (l' := [(0, rf a0), (1, rf a1), (2, iv x2), (3, iv x3), (4, .long u4), (6, iv (x6 + 1))]) rfl h
        · replace h := h.2 c13
          refine i_lload (u := u4) r_127_49 (n_127_49 _) rfl ?_
          refine i_bipush r_127_51 (n_127_51 _) rfl ?_
          refine i_lshl r_127_53 (n_127_53 _) ?_
          refine i_aload_n (a := a1) r_127_54 (n_127_54 _) rfl ?_
          refine i_iload (x := ((x2 + x3) - 1) - x6) r_127_55 (n_127_55 _) rfl ?_
          obtain ⟨g14, h⟩ := h
          refine i_baload (a := a1) (j := ((x2 + x3) - 1) - x6) r_127_57 (n_127_57 _) ha1 ⟨by omega, by omega⟩ (by omega) (by omega) (fun q15 => ?_)
          refine i_sipush r_127_58 (n_127_58 _) rfl ?_
          refine i_iand r_127_61 (n_127_61 _) ?_
          refine i_i2l r_127_62 (n_127_62 _) ?_
          refine i_lor r_127_63 (n_127_63 _) ?_
          refine i_lstore (l' := [(0, rf a0), (1, rf a1), (2, iv x2), (3, iv x3), (4, .long ((zshlL u4 8) ||| (zi2l (zand (zI s a1 (((x2 + x3) - 1) - x6)) 255)))), (6, iv x6), (7, iv (((x2 + x3) - 1) - x6))]) r_127_64 (n_127_64 _) (by decide) rfl ?_
          refine i_iinc (x := x6) (l' := [(0, rf a0), (1, rf a1), (2, iv x2), (3, iv x3), (4, .long ((zshlL u4 8) ||| (zi2l (zand (zI s a1 (((x2 + x3) - 1) - x6)) 255)))), (6, iv (x6 + 1)), (7, iv (((x2 + x3) - 1) - x6))]) r_127_66 (n_127_66 _) (by decide) rfl rfl ?_
          refine i_goto (t := 6) r_127_69 (n_127_69 _) rfl ?_
          exact wp_pr (l' := [(0, rf a0), (1, rf a1), (2, iv x2), (3, iv x3), (4, .long ((zshlL u4 8) ||| (zi2l (zand (zI s a1 (((x2 + x3) - 1) - x6)) 255)))), (6, iv (x6 + 1))]) rfl h
theorem r_130_0 : xfetch 130 0 = some (.aload_n 0, 1) := by decide +kernel
theorem n_130_0 : ∀ l, xpr 130 0 l = l := xpr_no (by decide +kernel)
theorem r_130_1 : xfetch 130 1 = some (.iload_n 1, 1) := by decide +kernel
theorem n_130_1 : ∀ l, xpr 130 1 l = l := xpr_no (by decide +kernel)
theorem r_130_2 : xfetch 130 2 = some (.iload_n 2, 1) := by decide +kernel
theorem n_130_2 : ∀ l, xpr 130 2 l = l := xpr_no (by decide +kernel)
theorem r_130_3 : xfetch 130 3 = some (.iload_n 3, 1) := by decide +kernel
theorem n_130_3 : ∀ l, xpr 130 3 l = l := xpr_no (by decide +kernel)
theorem r_130_4 : xfetch 130 4 = some (.invokevirtual 290, 3) := by decide +kernel
theorem n_130_4 : ∀ l, xpr 130 4 l = l := xpr_no (by decide +kernel)
theorem r_130_7 : xfetch 130 7 = some (.aload_n 0, 1) := by decide +kernel
theorem n_130_7 : ∀ l, xpr 130 7 l = l := xpr_no (by decide +kernel)
theorem r_130_8 : xfetch 130 8 = some (.invokevirtual 77, 3) := by decide +kernel
theorem n_130_8 : ∀ l, xpr 130 8 l = l := xpr_no (by decide +kernel)
theorem r_130_11 : xfetch 130 11 = some (.aload_n 0, 1) := by decide +kernel
theorem n_130_11 : ∀ l, xpr 130 11 l = l := xpr_no (by decide +kernel)
theorem r_130_12 : xfetch 130 12 = some (.iload_n 1, 1) := by decide +kernel
theorem n_130_12 : ∀ l, xpr 130 12 l = l := xpr_no (by decide +kernel)
theorem r_130_13 : xfetch 130 13 = some (.invokevirtual 293, 3) := by decide +kernel
theorem n_130_13 : ∀ l, xpr 130 13 l = l := xpr_no (by decide +kernel)
theorem r_130_16 : xfetch 130 16 = some (.aload_n 0, 1) := by decide +kernel
theorem n_130_16 : ∀ l, xpr 130 16 l = l := xpr_no (by decide +kernel)
theorem r_130_17 : xfetch 130 17 = some (.getfield 47, 3) := by decide +kernel
theorem n_130_17 : ∀ l, xpr 130 17 l = l := xpr_no (by decide +kernel)
theorem r_130_20 : xfetch 130 20 = some (.aload_n 0, 1) := by decide +kernel
theorem n_130_20 : ∀ l, xpr 130 20 l = l := xpr_no (by decide +kernel)
theorem r_130_21 : xfetch 130 21 = some (.getfield 10, 3) := by decide +kernel
theorem n_130_21 : ∀ l, xpr 130 21 l = l := xpr_no (by decide +kernel)
theorem r_130_24 : xfetch 130 24 = some (.getfield 299, 3) := by decide +kernel
theorem n_130_24 : ∀ l, xpr 130 24 l = l := xpr_no (by decide +kernel)
theorem r_130_27 : xfetch 130 27 = some (.iload_n 2, 1) := by decide +kernel
theorem n_130_27 : ∀ l, xpr 130 27 l = l := xpr_no (by decide +kernel)
theorem r_130_28 : xfetch 130 28 = some (.iload_n 3, 1) := by decide +kernel
theorem n_130_28 : ∀ l, xpr 130 28 l = l := xpr_no (by decide +kernel)
theorem r_130_29 : xfetch 130 29 = some (.invokevirtual 303, 3) := by decide +kernel
theorem n_130_29 : ∀ l, xpr 130 29 l = l := xpr_no (by decide +kernel)
theorem r_130_32 : xfetch 130 32 = some (.lstore 6, 2) := by decide +kernel
theorem n_130_32 : ∀ l, xpr 130 32 l = l := xpr_no (by decide +kernel)
theorem r_130_34 : xfetch 130 34 = some (.aload_n 0, 1) := by decide +kernel
theorem n_130_34 : ∀ l, xpr 130 34 l = l := xpr_no (by decide +kernel)
theorem r_130_35 : xfetch 130 35 = some (.getfield 47, 3) := by decide +kernel
theorem n_130_35 : ∀ l, xpr 130 35 l = l := xpr_no (by decide +kernel)
theorem r_130_38 : xfetch 130 38 = some (.aload_n 0, 1) := by decide +kernel
theorem n_130_38 : ∀ l, xpr 130 38 l = l := xpr_no (by decide +kernel)
theorem r_130_39 : xfetch 130 39 = some (.getfield 10, 3) := by decide +kernel
theorem n_130_39 : ∀ l, xpr 130 39 l = l := xpr_no (by decide +kernel)
theorem r_130_42 : xfetch 130 42 = some (.getfield 299, 3) := by decide +kernel
theorem n_130_42 : ∀ l, xpr 130 42 l = l := xpr_no (by decide +kernel)
theorem r_130_45 : xfetch 130 45 = some (.iload_n 2, 1) := by decide +kernel
theorem n_130_45 : ∀ l, xpr 130 45 l = l := xpr_no (by decide +kernel)
theorem r_130_46 : xfetch 130 46 = some (.iload_n 3, 1) := by decide +kernel
theorem n_130_46 : ∀ l, xpr 130 46 l = l := xpr_no (by decide +kernel)
theorem r_130_47 : xfetch 130 47 = some (.lload 4, 2) := by decide +kernel
theorem n_130_47 : ∀ l, xpr 130 47 l = l := xpr_no (by decide +kernel)
theorem r_130_49 : xfetch 130 49 = some (.invokevirtual 307, 3) := by decide +kernel
theorem n_130_49 : ∀ l, xpr 130 49 l = l := xpr_no (by decide +kernel)
theorem r_130_52 : xfetch 130 52 = some (.lload 6, 2) := by decide +kernel
theorem n_130_52 : ∀ l, xpr 130 52 l = l := xpr_no (by decide +kernel)
theorem r_130_54 : xfetch 130 54 = some (.lreturn, 1) := by decide +kernel
theorem n_130_54 : ∀ l, xpr 130 54 l = l := xpr_no (by decide +kernel)
theorem v_RL_set_0 {S : Option (Nat × (Nat → Int32))} {s : zSt} {Q : Option Value ⊕ Nat → zSt → Prop} {x1 : Int} {x2 : Int} {x3 : Int} {u4 : Int64} 
    (h : rng x1 ∧ (rng x2 ∧ (rng x3 ∧ ((0 ≤ x1 → x1 < 3 → zI s (31 + x1) 0 ≠ 0 → 0 ≤ zI s (31 + x1) 1 ∧ zI s (31 + x1) 1 < zI s 3 0 ∧ zI s (31 + x1) 1 < 6) ∧ ((((0 ≤ x1 ∧ x1 < 3 ∧ zI s (31 + x1) 0 ≠ 0) ∧ 0 ≤ x2 ∧ x2 < zI s (31 + x1) 2) ∧ 0 ≤ x3 ∧ x3 < zI s (67 + 11 * zI s (31 + x1) 1) 0 → wp S 18 0 [(0, rf 2)] [] s (fun o6 s6 => zkU (wp S 120 0 [(0, rf 2), (1, iv x1)] [] s6 (fun o8 s8 => zkU (wp S 126 0 [(0, rf 48), (1, rf 6), (2, iv x2), (3, iv x3)] [] s8 (fun o10 s10 => zkL (fun y10 => wp S 131 0 [(0, rf 48), (1, rf 6), (2, iv x2), (3, iv x3), (4, .long u4)] [] s10 (fun o12 s12 => zkU (Q (rL y10) s12) (fun e12 => False) o12)) (fun e10 => False) o10)) (fun e8 => False) o8)) (fun e6 => False) o6)) ∧ ((¬ (((0 ≤ x1 ∧ x1 < 3 ∧ zI s (31 + x1) 0 ≠ 0) ∧ 0 ≤ x2 ∧ x2 < zI s (31 + x1) 2) ∧ 0 ≤ x3 ∧ x3 < zI s (67 + 11 * zI s (31 + x1) 1) 0) → Q (rT 2) (zbump s)))))))) :
    wp S 130 0 [(0, rf 2), (1, iv x1), (2, iv x2), (3, iv x3), (4, .long u4)] [] s Q := by
  refine i_aload_n (a := 2) r_130_0 (n_130_0 _) rfl ?_
  refine i_iload_n (x := x1) r_130_1 (n_130_1 _) rfl ?_
  refine i_iload_n (x := x2) r_130_2 (n_130_2 _) rfl ?_
  refine i_iload_n (x := x3) r_130_3 (n_130_3 _) rfl ?_
  obtain ⟨g1, h⟩ := h
  obtain ⟨g2, h⟩ := h
  obtain ⟨g3, h⟩ := h
  obtain ⟨g4, h⟩ := h
  refine wp_virt (b := 2) (rest := []) (Ls := [(0, rf 2), (1, iv x1), (2, iv x2), (3, iv x3)]) r_130_4 (n_130_4 _) rfl ⟨rfl, rfl, by decide, by decide⟩ rfl rfl lf_2 ⟨rfl, Nat.le_of_ble_eq_true rfl, Nat.le_of_ble_eq_true rfl⟩ rfl (K_RL_checkPlace g1 g2 g3 g4) ?_
  rintro _ _ (⟨c5, rfl, rfl⟩ | ⟨c5, rfl, rfl⟩)
  · replace h := h.1 c5
    refine .inl ⟨none, rfl, ?_⟩
    show wp S 130 7 [(0, rf 2), (1, iv x1), (2, iv x2), (3, iv x3), (4, .long u4)] [] s Q
    refine i_aload_n (a := 2) r_130_7 (n_130_7 _) rfl ?_
    refine wp_virt (b := 2) (rest := []) (Ls := [(0, rf 2)]) r_130_8 (n_130_8 _) rfl ⟨rfl, rfl, by decide, by decide⟩ rfl rfl lf_2 ⟨rfl, Nat.le_of_ble_eq_true rfl, Nat.le_of_ble_eq_true rfl⟩ rfl h ?_
    intro o6 s6 h
    rcases h with ⟨rfl, h⟩ | ⟨e6, rfl, h⟩
    · refine .inl ⟨none, rfl, ?_⟩
      refine i_aload_n (a := 2) r_130_11 (n_130_11 _) rfl ?_
      refine i_iload_n (x := x1) r_130_12 (n_130_12 _) rfl ?_
      refine wp_virt (b := 2) (rest := []) (Ls := [(0, rf 2), (1, iv x1)]) r_130_13 (n_130_13 _) rfl ⟨rfl, rfl, by decide, by decide⟩ rfl rfl lf_2 ⟨rfl, Nat.le_of_ble_eq_true rfl, Nat.le_of_ble_eq_true rfl⟩ rfl h ?_
      intro o8 s8 h
      rcases h with ⟨rfl, h⟩ | ⟨e8, rfl, h⟩
      · refine .inl ⟨none, rfl, ?_⟩
        refine i_aload_n (a := 2) r_130_16 (n_130_16 _) rfl ?_
        refine i_getR (a := 2) (b := 48) r_130_17 (n_130_17 _) rfl rfl rfl (by omega) lf_2 (by omega) ?_
        refine i_aload_n (a := 2) r_130_20 (n_130_20 _) rfl ?_
        refine i_getR (a := 2) (b := 3) r_130_21 (n_130_21 _) rfl rfl rfl (by omega) lf_2 (by omega) ?_
        refine i_getR (a := 3) (b := 6) r_130_24 (n_130_24 _) rfl rfl rfl (by omega) lf_3 (by omega) ?_
        refine i_iload_n (x := x2) r_130_27 (n_130_27 _) rfl ?_
        refine i_iload_n (x := x3) r_130_28 (n_130_28 _) rfl ?_
        refine wp_virt (b := 48) (rest := []) (Ls := [(0, rf 48), (1, rf 6), (2, iv x2), (3, iv x3)]) r_130_29 (n_130_29 _) rfl ⟨rfl, rfl, by decide, by decide⟩ rfl rfl lf_48 ⟨rfl, Nat.le_of_ble_eq_true rfl, Nat.le_of_ble_eq_true rfl⟩ rfl h ?_
        intro o10 s10 h
        rcases h with ⟨y10, rfl, h⟩ | ⟨e10, rfl, h⟩
        · refine .inl ⟨some (.long y10), rfl, ?_⟩
          show wp S 130 32 [(0, rf 2), (1, iv x1), (2, iv x2), (3, iv x3), (4, .long u4)] [.long y10] s10 Q
          refine i_lstore (l' := [(0, rf 2), (1, iv x1), (2, iv x2), (3, iv x3), (4, .long u4), (6, .long y10)]) r_130_32 (n_130_32 _) (by decide) rfl ?_
          refine i_aload_n (a := 2) r_130_34 (n_130_34 _) rfl ?_
          refine i_getR (a := 2) (b := 48) r_130_35 (n_130_35 _) rfl rfl rfl (by omega) lf_2 (by omega) ?_
          refine i_aload_n (a := 2) r_130_38 (n_130_38 _) rfl ?_
          refine i_getR (a := 2) (b := 3) r_130_39 (n_130_39 _) rfl rfl rfl (by omega) lf_2 (by omega) ?_
          refine i_getR (a := 3) (b := 6) r_130_42 (n_130_42 _) rfl rfl rfl (by omega) lf_3 (by omega) ?_
          refine i_iload_n (x := x2) r_130_45 (n_130_45 _) rfl ?_
          refine i_iload_n (x := x3) r_130_46 (n_130_46 _) rfl ?_
          refine i_lload (u := u4) r_130_47 (n_130_47 _) rfl ?_
          refine wp_virt (b := 48) (rest := []) (Ls := [(0, rf 48), (1, rf 6), (2, iv x2), (3, iv x3), (4, .long u4)]) r_130_49 (n_130_49 _) rfl ⟨rfl, rfl, by decide, by decide⟩ rfl rfl lf_48 ⟨rfl, Nat.le_of_ble_eq_true rfl, Nat.le_of_ble_eq_true rfl⟩ rfl h ?_
          intro o12 s12 h
          rcases h with ⟨rfl, h⟩ | ⟨e12, rfl, h⟩
          · refine .inl ⟨none, rfl, ?_⟩
            refine i_lload (u := y10) r_130_52 (n_130_52 _) rfl ?_
            exact i_lreturn r_130_54 (n_130_54 _) rfl h
          · skip
            exact h.elim
        · skip
          exact h.elim
      · skip
        exact h.elim
    · skip
      exact h.elim
  · replace h := h.2 c5
    exact .inr ⟨_, rfl, .inl ⟨rfl, h⟩⟩
theorem r_131_0 : xfetch 131 0 = some (.aload_n 0, 1) := by decide +kernel
theorem n_131_0 : ∀ l, xpr 131 0 l = l := xpr_no (by decide +kernel)
theorem r_131_1 : xfetch 131 1 = some (.iload_n 3, 1) := by decide +kernel
theorem n_131_1 : ∀ l, xpr 131 1 l = l := xpr_no (by decide +kernel)
theorem r_131_2 : xfetch 131 2 = some (.invokevirtual 78, 3) := by decide +kernel
theorem n_131_2 : ∀ l, xpr 131 2 l = l := xpr_no (by decide +kernel)
theorem r_131_5 : xfetch 131 5 = some (.ifCond .ne 4, 3) := by decide +kernel
theorem n_131_5 : ∀ l, xpr 131 5 l = l := xpr_no (by decide +kernel)
theorem r_131_8 : xfetch 131 8 = some (.return_, 1) := by decide +kernel
theorem n_131_8 : ∀ l, xpr 131 8 l = l := xpr_no (by decide +kernel)
theorem r_131_9 : xfetch 131 9 = some (.aload_n 0, 1) := by decide +kernel
theorem n_131_9 : ∀ l, xpr 131 9 l = l := xpr_no (by decide +kernel)
theorem r_131_10 : xfetch 131 10 = some (.iload_n 2, 1) := by decide +kernel
theorem n_131_10 : ∀ l, xpr 131 10 l = l := xpr_no (by decide +kernel)
theorem r_131_11 : xfetch 131 11 = some (.iload_n 3, 1) := by decide +kernel
theorem n_131_11 : ∀ l, xpr 131 11 l = l := xpr_no (by decide +kernel)
theorem r_131_12 : xfetch 131 12 = some (.invokevirtual 82, 3) := by decide +kernel
theorem n_131_12 : ∀ l, xpr 131 12 l = l := xpr_no (by decide +kernel)
theorem r_131_15 : xfetch 131 15 = some (.istore 6, 2) := by decide +kernel
theorem n_131_15 : ∀ l, xpr 131 15 l = l := xpr_no (by decide +kernel)
theorem r_131_17 : xfetch 131 17 = some (.aload_n 0, 1) := by decide +kernel
theorem n_131_17 : ∀ l, xpr 131 17 l = l := xpr_no (by decide +kernel)
theorem r_131_18 : xfetch 131 18 = some (.getfield 15, 3) := by decide +kernel
theorem n_131_18 : ∀ l, xpr 131 18 l = l := xpr_no (by decide +kernel)
theorem r_131_21 : xfetch 131 21 = some (.iload_n 3, 1) := by decide +kernel
theorem n_131_21 : ∀ l, xpr 131 21 l = l := xpr_no (by decide +kernel)
theorem r_131_22 : xfetch 131 22 = some (.iaload, 1) := by decide +kernel
theorem n_131_22 : ∀ l, xpr 131 22 l = l := xpr_no (by decide +kernel)
theorem r_131_23 : xfetch 131 23 = some (.istore 7, 2) := by decide +kernel
theorem n_131_23 : ∀ l, xpr 131 23 l = l := xpr_no (by decide +kernel)
theorem r_131_25 : xfetch 131 25 = some (.lload 4, 2) := by decide +kernel
theorem n_131_25 : ∀ l, xpr 131 25 l = l := xpr_no (by decide +kernel)
theorem r_131_27 : xfetch 131 27 = some (.lstore 8, 2) := by decide +kernel
theorem n_131_27 : ∀ l, xpr 131 27 l = l := xpr_no (by decide +kernel)
theorem r_131_29 : xfetch 131 29 = some (.iload 7, 2) := by decide +kernel
theorem n_131_29 : ∀ l, xpr 131 29 l = l := xpr_no (by decide +kernel)
theorem r_131_31 : xfetch 131 31 = some (.bipush 7, 2) := by decide +kernel
theorem n_131_31 : ∀ l, xpr 131 31 l = l := xpr_no (by decide +kernel)
theorem r_131_33 : xfetch 131 33 = some (.if_icmp .ne 20, 3) := by decide +kernel
theorem n_131_33 : ∀ l, xpr 131 33 l = l := xpr_no (by decide +kernel)
theorem r_131_36 : xfetch 131 36 = some (.lload 4, 2) := by decide +kernel
theorem n_131_36 : ∀ l, xpr 131 36 l = l := xpr_no (by decide +kernel)
theorem r_131_38 : xfetch 131 38 = some (.lconst 0, 1) := by decide +kernel
theorem n_131_38 : ∀ l, xpr 131 38 l = l := xpr_no (by decide +kernel)
theorem r_131_39 : xfetch 131 39 = some (.lcmp, 1) := by decide +kernel
theorem n_131_39 : ∀ l, xpr 131 39 l = l := xpr_no (by decide +kernel)
theorem r_131_40 : xfetch 131 40 = some (.ifCond .ne 7, 3) := by decide +kernel
theorem n_131_40 : ∀ l, xpr 131 40 l = l := xpr_no (by decide +kernel)
theorem r_131_43 : xfetch 131 43 = some (.lconst 0, 1) := by decide +kernel
theorem n_131_43 : ∀ l, xpr 131 43 l = l := xpr_no (by decide +kernel)
theorem r_131_44 : xfetch 131 44 = some (.goto 4, 3) := by decide +kernel
theorem n_131_44 : ∀ l, xpr 131 44 l = l := xpr_no (by decide +kernel)
theorem r_131_47 : xfetch 131 47 = some (.lconst 1, 1) := by decide +kernel
theorem n_131_47 : ∀ l, xpr 131 47 l = l := xpr_no (by decide +kernel)
theorem r_131_48 : xfetch 131 48 = some (.lstore 8, 2) := by decide +kernel
theorem n_131_48 : ∀ l, xpr 131 48 l = l := xpr_no (by decide +kernel)
theorem r_131_50 : xfetch 131 50 = some (.goto 60, 3) := by decide +kernel
theorem n_131_50 : ∀ l, xpr 131 50 l = l := xpr_no (by decide +kernel)
theorem r_131_53 : xfetch 131 53 = some (.iload 7, 2) := by decide +kernel
theorem n_131_53 : ∀ l, xpr 131 53 l = l := xpr_no (by decide +kernel)
theorem r_131_55 : xfetch 131 55 = some (.invokestatic 89, 3) := by decide +kernel
theorem n_131_55 : ∀ l, xpr 131 55 l = l := xpr_no (by decide +kernel)
theorem r_131_58 : xfetch 131 58 = some (.ifCond .eq 52, 3) := by decide +kernel
theorem n_131_58 : ∀ l, xpr 131 58 l = l := xpr_no (by decide +kernel)
theorem r_131_61 : xfetch 131 61 = some (.iload 7, 2) := by decide +kernel
theorem n_131_61 : ∀ l, xpr 131 61 l = l := xpr_no (by decide +kernel)
theorem r_131_63 : xfetch 131 63 = some (.invokestatic 92, 3) := by decide +kernel
theorem n_131_63 : ∀ l, xpr 131 63 l = l := xpr_no (by decide +kernel)
theorem r_131_66 : xfetch 131 66 = some (.aload_n 0, 1) := by decide +kernel
theorem n_131_66 : ∀ l, xpr 131 66 l = l := xpr_no (by decide +kernel)
theorem r_131_67 : xfetch 131 67 = some (.getfield 25, 3) := by decide +kernel
theorem n_131_67 : ∀ l, xpr 131 67 l = l := xpr_no (by decide +kernel)
theorem r_131_70 : xfetch 131 70 = some (.iload_n 3, 1) := by decide +kernel
theorem n_131_70 : ∀ l, xpr 131 70 l = l := xpr_no (by decide +kernel)
theorem r_131_71 : xfetch 131 71 = some (.iaload, 1) := by decide +kernel
theorem n_131_71 : ∀ l, xpr 131 71 l = l := xpr_no (by decide +kernel)
theorem r_131_72 : xfetch 131 72 = some (.lshl, 1) := by decide +kernel
theorem n_131_72 : ∀ l, xpr 131 72 l = l := xpr_no (by decide +kernel)
theorem r_131_73 : xfetch 131 73 = some (.lstore 10, 2) := by decide +kernel
theorem n_131_73 : ∀ l, xpr 131 73 l = l := xpr_no (by decide +kernel)
theorem r_131_75 : xfetch 131 75 = some (.aload_n 0, 1) := by decide +kernel
theorem n_131_75 : ∀ l, xpr 131 75 l = l := xpr_no (by decide +kernel)
theorem r_131_76 : xfetch 131 76 = some (.aload_n 1, 1) := by decide +kernel
theorem n_131_76 : ∀ l, xpr 131 76 l = l := xpr_no (by decide +kernel)
theorem r_131_77 : xfetch 131 77 = some (.iload 6, 2) := by decide +kernel
theorem n_131_77 : ∀ l, xpr 131 77 l = l := xpr_no (by decide +kernel)
theorem r_131_79 : xfetch 131 79 = some (.aload_n 0, 1) := by decide +kernel
theorem n_131_79 : ∀ l, xpr 131 79 l = l := xpr_no (by decide +kernel)
theorem r_131_80 : xfetch 131 80 = some (.getfield 22, 3) := by decide +kernel
theorem n_131_80 : ∀ l, xpr 131 80 l = l := xpr_no (by decide +kernel)
theorem r_131_83 : xfetch 131 83 = some (.iload_n 3, 1) := by decide +kernel
theorem n_131_83 : ∀ l, xpr 131 83 l = l := xpr_no (by decide +kernel)
theorem r_131_84 : xfetch 131 84 = some (.iaload, 1) := by decide +kernel
theorem n_131_84 : ∀ l, xpr 131 84 l = l := xpr_no (by decide +kernel)
theorem r_131_85 : xfetch 131 85 = some (.invokevirtual 85, 3) := by decide +kernel
theorem n_131_85 : ∀ l, xpr 131 85 l = l := xpr_no (by decide +kernel)
theorem r_131_88 : xfetch 131 88 = some (.lload 10, 2) := by decide +kernel
theorem n_131_88 : ∀ l, xpr 131 88 l = l := xpr_no (by decide +kernel)
theorem r_131_90 : xfetch 131 90 = some (.ldc2_w 96, 3) := by decide +kernel
theorem n_131_90 : ∀ l, xpr 131 90 l = l := xpr_no (by decide +kernel)
theorem r_131_93 : xfetch 131 93 = some (.lxor, 1) := by decide +kernel
theorem n_131_93 : ∀ l, xpr 131 93 l = l := xpr_no (by decide +kernel)
theorem r_131_94 : xfetch 131 94 = some (.land, 1) := by decide +kernel
theorem n_131_94 : ∀ l, xpr 131 94 l = l := xpr_no (by decide +kernel)
theorem r_131_95 : xfetch 131 95 = some (.lload 4, 2) := by decide +kernel
theorem n_131_95 : ∀ l, xpr 131 95 l = l := xpr_no (by decide +kernel)
theorem r_131_97 : xfetch 131 97 = some (.aload_n 0, 1) := by decide +kernel
theorem n_131_97 : ∀ l, xpr 131 97 l = l := xpr_no (by decide +kernel)
theorem r_131_98 : xfetch 131 98 = some (.getfield 25, 3) := by decide +kernel
theorem n_131_98 : ∀ l, xpr 131 98 l = l := xpr_no (by decide +kernel)
theorem r_131_101 : xfetch 131 101 = some (.iload_n 3, 1) := by decide +kernel
theorem n_131_101 : ∀ l, xpr 131 101 l = l := xpr_no (by decide +kernel)
theorem r_131_102 : xfetch 131 102 = some (.iaload, 1) := by decide +kernel
theorem n_131_102 : ∀ l, xpr 131 102 l = l := xpr_no (by decide +kernel)
theorem r_131_103 : xfetch 131 103 = some (.lshl, 1) := by decide +kernel
theorem n_131_103 : ∀ l, xpr 131 103 l = l := xpr_no (by decide +kernel)
theorem r_131_104 : xfetch 131 104 = some (.lload 10, 2) := by decide +kernel
theorem n_131_104 : ∀ l, xpr 131 104 l = l := xpr_no (by decide +kernel)
theorem r_131_106 : xfetch 131 106 = some (.land, 1) := by decide +kernel
theorem n_131_106 : ∀ l, xpr 131 106 l = l := xpr_no (by decide +kernel)
theorem r_131_107 : xfetch 131 107 = some (.lor, 1) := by decide +kernel
theorem n_131_107 : ∀ l, xpr 131 107 l = l := xpr_no (by decide +kernel)
theorem r_131_108 : xfetch 131 108 = some (.lstore 8, 2) := by decide +kernel
theorem n_131_108 : ∀ l, xpr 131 108 l = l := xpr_no (by decide +kernel)
theorem r_131_110 : xfetch 131 110 = some (.aload_n 0, 1) := by decide +kernel
theorem n_131_110 : ∀ l, xpr 131 110 l = l := xpr_no (by decide +kernel)
theorem r_131_111 : xfetch 131 111 = some (.aload_n 1, 1) := by decide +kernel
theorem n_131_111 : ∀ l, xpr 131 111 l = l := xpr_no (by decide +kernel)
theorem r_131_112 : xfetch 131 112 = some (.iload 6, 2) := by decide +kernel
theorem n_131_112 : ∀ l, xpr 131 112 l = l := xpr_no (by decide +kernel)
theorem r_131_114 : xfetch 131 114 = some (.aload_n 0, 1) := by decide +kernel
theorem n_131_114 : ∀ l, xpr 131 114 l = l := xpr_no (by decide +kernel)
theorem r_131_115 : xfetch 131 115 = some (.getfield 22, 3) := by decide +kernel
theorem n_131_115 : ∀ l, xpr 131 115 l = l := xpr_no (by decide +kernel)
theorem r_131_118 : xfetch 131 118 = some (.iload_n 3, 1) := by decide +kernel
theorem n_131_118 : ∀ l, xpr 131 118 l = l := xpr_no (by decide +kernel)
theorem r_131_119 : xfetch 131 119 = some (.iaload, 1) := by decide +kernel
theorem n_131_119 : ∀ l, xpr 131 119 l = l := xpr_no (by decide +kernel)
theorem r_131_120 : xfetch 131 120 = some (.lload 8, 2) := by decide +kernel
theorem n_131_120 : ∀ l, xpr 131 120 l = l := xpr_no (by decide +kernel)
theorem r_131_122 : xfetch 131 122 = some (.invokevirtual 98, 3) := by decide +kernel
theorem n_131_122 : ∀ l, xpr 131 122 l = l := xpr_no (by decide +kernel)
theorem r_131_125 : xfetch 131 125 = some (.return_, 1) := by decide +kernel
theorem n_131_125 : ∀ l, xpr 131 125 l = l := xpr_no (by decide +kernel)
theorem v_View_write_0 {S : Option (Nat × (Nat → Int32))} {s : zSt} {Q : Option Value ⊕ Nat → zSt → Prop} {a0 : Int} {a1 : Int} {x2 : Int} {x3 : Int} {u4 : Int64} (ha0 : isO a0 8) (ha1 : isA a1 3 1024)
    (h : rng x3 ∧ ((0 ≤ x3 ∧ x3 < zI s a0 3 ∧ x3 < 40 → (0 ≤ x3 ∧ x3 < 40) ∧ ((x3 < zI s a0 3) ∧ ((0 < zI s a0 5) ∧ (rng x2 ∧ ((0 ≤ x2) ∧ (((zI s (a0 + 1) x3) ≠ 7 → (¬ (20 < (zI s (a0 + 1) x3) ∧ (zI s (a0 + 1) x3) ≤ 36) → wp S 132 0 [(0, rf a0), (1, rf a1), (2, iv (zI s a0 0 + x2 / zI s a0 5 * zI s a0 6 + zI s (a0 + 2) x3 + x2 % zI s a0 5 * zI s (a0 + 3) x3)), (3, iv (zI s (a0 + 3) x3)), (4, .long u4)] [] s (fun o17 s17 => zkU (Q rU s17) (fun e17 => False) o17)) ∧ (20 < (zI s (a0 + 1) x3) ∧ (zI s (a0 + 1) x3) ≤ 36 → wp S 127 0 [(0, rf a0), (1, rf a1), (2, iv (zI s a0 0 + x2 / zI s a0 5 * zI s a0 6 + zI s (a0 + 2) x3 + x2 % zI s a0 5 * zI s (a0 + 3) x3)), (3, iv (zI s (a0 + 3) x3))] [] s (fun o24 s24 => zkL (fun y24 => wp S 132 0 [(0, rf a0), (1, rf a1), (2, iv (zI s a0 0 + x2 / zI s a0 5 * zI s a0 6 + zI s (a0 + 2) x3 + x2 % zI s a0 5 * zI s (a0 + 3) x3)), (3, iv (zI s24 (a0 + 3) x3)), (4, .long ((y24 &&& ((zshlL ((zshlL 1 ((zI s (a0 + 1) x3) - 20)) - 1) (zI s (a0 + 4) x3)) ^^^ (-1))) ||| ((zshlL u4 (zI s24 (a0 + 4) x3)) &&& (zshlL ((zshlL 1 ((zI s (a0 + 1) x3) - 20)) - 1) (zI s (a0 + 4) x3)))))] [] s24 (fun o30 s30 => zkU (Q rU s30) (fun e30 => False) o30)) (fun e24 => False) o24))) ∧ ((zI s (a0 + 1) x3) = 7 → ((zcmp u4 0) ≠ 0 → wp S 132 0 [(0, rf a0), (1, rf a1), (2, iv (zI s a0 0 + x2 / zI s a0 5 * zI s a0 6 + zI s (a0 + 2) x3 + x2 % zI s a0 5 * zI s (a0 + 3) x3)), (3, iv (zI s (a0 + 3) x3)), (4, .long 1)] [] s (fun o35 s35 => zkU (Q rU s35) (fun e35 => False) o35)) ∧ ((zcmp u4 0) = 0 → wp S 132 0 [(0, rf a0), (1, rf a1), (2, iv (zI s a0 0 + x2 / zI s a0 5 * zI s a0 6 + zI s (a0 + 2) x3 + x2 % zI s a0 5 * zI s (a0 + 3) x3)), (3, iv (zI s (a0 + 3) x3)), (4, .long 0)] [] s (fun o39 s39 => zkU (Q rU s39) (fun e39 => False) o39))))))))) ∧ (¬ (0 ≤ x3 ∧ x3 < zI s a0 3 ∧ x3 < 40) → Q rU s))) :
    wp S 131 0 [(0, rf a0), (1, rf a1), (2, iv x2), (3, iv x3), (4, .long u4)] [] s Q := by
  refine i_aload_n (a := a0) r_131_0 (n_131_0 _) rfl ?_
  refine i_iload_n (x := x3) r_131_1 (n_131_1 _) rfl ?_
  obtain ⟨g1, h⟩ := h
  refine wp_virt (b := a0) (rest := []) (Ls := [(0, rf a0), (1, iv x3)]) r_131_2 (n_131_2 _) rfl ⟨rfl, rfl, by decide, by decide⟩ rfl rfl ha0 ⟨rfl, Nat.le_of_ble_eq_true rfl, Nat.le_of_ble_eq_true rfl⟩ rfl (K_View_hasLeaf ha0 g1) ?_
  rintro _ _ ⟨rfl, rfl⟩
  refine .inl ⟨some (iv (bi (0 ≤ x3 ∧ x3 < zI s a0 3 ∧ x3 < 40))), rfl, ?_⟩
  show wp S 131 5 [(0, rf a0), (1, rf a1), (2, iv x2), (3, iv x3), (4, .long u4)] [iv (bi (0 ≤ x3 ∧ x3 < zI s a0 3 ∧ x3 < 40))] s Q
  refine i_if (t := 9) r_131_5 (n_131_5 _) rfl (TB_ne) (fun c3 => ?_) (fun c3 => ?_)
  · replace h := h.1 c3
    refine i_aload_n (a := a0) r_131_9 (n_131_9 _) rfl ?_
    refine i_iload_n (x := x2) r_131_10 (n_131_10 _) rfl ?_
    refine i_iload_n (x := x3) r_131_11 (n_131_11 _) rfl ?_
    obtain ⟨g4, h⟩ := h
    obtain ⟨g5, h⟩ := h
    obtain ⟨g6, h⟩ := h
    obtain ⟨g7, h⟩ := h
    obtain ⟨g8, h⟩ := h
    refine wp_virt (b := a0) (rest := []) (Ls := [(0, rf a0), (1, iv x2), (2, iv x3)]) r_131_12 (n_131_12 _) rfl ⟨rfl, rfl, by decide, by decide⟩ rfl rfl ha0 ⟨rfl, Nat.le_of_ble_eq_true rfl, Nat.le_of_ble_eq_true rfl⟩ rfl (K_View_placeOf ha0 g4 g5 g6 g7 g8) ?_
    rintro _ _ ⟨rfl, rfl⟩
    refine .inl ⟨some (iv (zI s a0 0 + x2 / zI s a0 5 * zI s a0 6 + zI s (a0 + 2) x3 + x2 % zI s a0 5 * zI s (a0 + 3) x3)), rfl, ?_⟩
    show wp S 131 15 [(0, rf a0), (1, rf a1), (2, iv x2), (3, iv x3), (4, .long u4)] [iv (zI s a0 0 + x2 / zI s a0 5 * zI s a0 6 + zI s (a0 + 2) x3 + x2 % zI s a0 5 * zI s (a0 + 3) x3)] s Q
    refine i_istore (l' := [(0, rf a0), (1, rf a1), (2, iv x2), (3, iv x3), (4, .long u4), (6, iv (zI s a0 0 + x2 / zI s a0 5 * zI s a0 6 + zI s (a0 + 2) x3 + x2 % zI s a0 5 * zI s (a0 + 3) x3))]) r_131_15 (n_131_15 _) (by decide) rfl ?_
    refine i_aload_n (a := a0) r_131_17 (n_131_17 _) rfl ?_
    refine i_getR (a := a0) (b := a0 + 1) r_131_18 (n_131_18 _) rfl rfl rfl (by omega) ha0 (by omega) ?_
    have t10 := (t_8_7 ha0)
    refine i_iload_n (x := x3) r_131_21 (n_131_21 _) rfl ?_
    refine i_iaload (a := a0 + 1) (j := x3) r_131_22 (n_131_22 _) t10 ⟨by omega, by omega⟩ (by omega) (by omega) (fun q11 => ?_)
    refine i_istore (l' := [(0, rf a0), (1, rf a1), (2, iv x2), (3, iv x3), (4, .long u4), (6, iv (zI s a0 0 + x2 / zI s a0 5 * zI s a0 6 + zI s (a0 + 2) x3 + x2 % zI s a0 5 * zI s (a0 + 3) x3)), (7, iv (zI s (a0 + 1) x3))]) r_131_23 (n_131_23 _) (by decide) rfl ?_
    refine i_lload (u := u4) r_131_25 (n_131_25 _) rfl ?_
    refine i_lstore (l' := [(0, rf a0), (1, rf a1), (2, iv x2), (3, iv x3), (4, .long u4), (6, iv (zI s a0 0 + x2 / zI s a0 5 * zI s a0 6 + zI s (a0 + 2) x3 + x2 % zI s a0 5 * zI s (a0 + 3) x3)), (7, iv (zI s (a0 + 1) x3)), (8, .long u4)]) r_131_27 (n_131_27 _) (by decide) rfl ?_
    refine i_iload (x := zI s (a0 + 1) x3) r_131_29 (n_131_29 _) rfl ?_
    refine i_bipush r_131_31 (n_131_31 _) rfl ?_
    refine i_icmp (t := 53) r_131_33 (n_131_33 _) rfl (T_ne q11 ⟨by omega, by omega⟩) (fun c12 => ?_) (fun c12 => ?_)
    · replace h := h.1 c12
      refine i_iload (x := zI s (a0 + 1) x3) r_131_53 (n_131_53 _) rfl ?_
      refine wp_stat (rest := []) (Ls := [(0, iv (zI s (a0 + 1) x3))]) r_131_55 (n_131_55 _) rfl ⟨rfl, by decide, by decide, by decide⟩ rfl rfl ⟨rfl, Nat.le_of_ble_eq_true rfl, Nat.le_of_ble_eq_true rfl⟩ rfl (K_RL_isBits q11) ?_
      rintro _ _ ⟨rfl, rfl⟩
      refine .inl ⟨some (iv (bi (20 < (zI s (a0 + 1) x3) ∧ (zI s (a0 + 1) x3) ≤ 36))), rfl, ?_⟩
      show wp S 131 58 [(0, rf a0), (1, rf a1), (2, iv x2), (3, iv x3), (4, .long u4), (6, iv (zI s a0 0 + x2 / zI s a0 5 * zI s a0 6 + zI s (a0 + 2) x3 + x2 % zI s a0 5 * zI s (a0 + 3) x3)), (7, iv (zI s (a0 + 1) x3)), (8, .long u4)] [iv (bi (20 < (zI s (a0 + 1) x3) ∧ (zI s (a0 + 1) x3) ≤ 36))] s Q
      refine i_if (t := 110) r_131_58 (n_131_58 _) rfl (TB_eq) (fun c14 => ?_) (fun c14 => ?_)
      · replace h := h.1 c14
        refine i_aload_n (a := a0) r_131_110 (n_131_110 _) rfl ?_
        refine i_aload_n (a := a1) r_131_111 (n_131_111 _) rfl ?_
        refine i_iload (x := zI s a0 0 + x2 / zI s a0 5 * zI s a0 6 + zI s (a0 + 2) x3 + x2 % zI s a0 5 * zI s (a0 + 3) x3) r_131_112 (n_131_112 _) rfl ?_
        refine i_aload_n (a := a0) r_131_114 (n_131_114 _) rfl ?_
        refine i_getR (a := a0) (b := a0 + 3) r_131_115 (n_131_115 _) rfl rfl rfl (by omega) ha0 (by omega) ?_
        have t15 := (t_8_9 ha0)
        refine i_iload_n (x := x3) r_131_118 (n_131_118 _) rfl ?_
        refine i_iaload (a := a0 + 3) (j := x3) r_131_119 (n_131_119 _) t15 ⟨by omega, by omega⟩ (by omega) (by omega) (fun q16 => ?_)
        refine i_lload (u := u4) r_131_120 (n_131_120 _) rfl ?_
        refine wp_virt (b := a0) (rest := []) (Ls := [(0, rf a0), (1, rf a1), (2, iv (zI s a0 0 + x2 / zI s a0 5 * zI s a0 6 + zI s (a0 + 2) x3 + x2 % zI s a0 5 * zI s (a0 + 3) x3)), (3, iv (zI s (a0 + 3) x3)), (4, .long u4)]) r_131_122 (n_131_122 _) rfl ⟨rfl, rfl, by decide, by decide⟩ rfl rfl ha0 ⟨rfl, Nat.le_of_ble_eq_true rfl, Nat.le_of_ble_eq_true rfl⟩ rfl h ?_
        intro o17 s17 h
        rcases h with ⟨rfl, h⟩ | ⟨e17, rfl, h⟩
        · refine .inl ⟨none, rfl, ?_⟩
          exact i_return r_131_125 (n_131_125 _) rfl h
        · skip
          exact h.elim
      · replace h := h.2 c14
        refine i_iload (x := zI s (a0 + 1) x3) r_131_61 (n_131_61 _) rfl ?_
        refine wp_stat (rest := []) (Ls := [(0, iv (zI s (a0 + 1) x3))]) r_131_63 (n_131_63 _) rfl ⟨rfl, by decide, by decide, by decide⟩ rfl rfl ⟨rfl, Nat.le_of_ble_eq_true rfl, Nat.le_of_ble_eq_true rfl⟩ rfl K_View_maskOf ?_
        rintro _ _ ⟨rfl, rfl⟩
        refine .inl ⟨some (.long ((zshlL 1 ((zI s (a0 + 1) x3) - 20)) - 1)), rfl, ?_⟩
        show wp S 131 66 [(0, rf a0), (1, rf a1), (2, iv x2), (3, iv x3), (4, .long u4), (6, iv (zI s a0 0 + x2 / zI s a0 5 * zI s a0 6 + zI s (a0 + 2) x3 + x2 % zI s a0 5 * zI s (a0 + 3) x3)), (7, iv (zI s (a0 + 1) x3)), (8, .long u4)] [.long ((zshlL 1 ((zI s (a0 + 1) x3) - 20)) - 1)] s Q
        refine i_aload_n (a := a0) r_131_66 (n_131_66 _) rfl ?_
        refine i_getR (a := a0) (b := a0 + 4) r_131_67 (n_131_67 _) rfl rfl rfl (by omega) ha0 (by omega) ?_
        have t20 := (t_8_10 ha0)
        refine i_iload_n (x := x3) r_131_70 (n_131_70 _) rfl ?_
        refine i_iaload (a := a0 + 4) (j := x3) r_131_71 (n_131_71 _) t20 ⟨by omega, by omega⟩ (by omega) (by omega) (fun q21 => ?_)
        refine i_lshl r_131_72 (n_131_72 _) ?_
        refine i_lstore (l' := [(0, rf a0), (1, rf a1), (2, iv x2), (3, iv x3), (4, .long u4), (6, iv (zI s a0 0 + x2 / zI s a0 5 * zI s a0 6 + zI s (a0 + 2) x3 + x2 % zI s a0 5 * zI s (a0 + 3) x3)), (7, iv (zI s (a0 + 1) x3)), (8, .long u4), (10, .long (zshlL ((zshlL 1 ((zI s (a0 + 1) x3) - 20)) - 1) (zI s (a0 + 4) x3)))]) r_131_73 (n_131_73 _) (by decide) rfl ?_
        refine i_aload_n (a := a0) r_131_75 (n_131_75 _) rfl ?_
        refine i_aload_n (a := a1) r_131_76 (n_131_76 _) rfl ?_
        refine i_iload (x := zI s a0 0 + x2 / zI s a0 5 * zI s a0 6 + zI s (a0 + 2) x3 + x2 % zI s a0 5 * zI s (a0 + 3) x3) r_131_77 (n_131_77 _) rfl ?_
        refine i_aload_n (a := a0) r_131_79 (n_131_79 _) rfl ?_
        refine i_getR (a := a0) (b := a0 + 3) r_131_80 (n_131_80 _) rfl rfl rfl (by omega) ha0 (by omega) ?_
        have t22 := (t_8_9 ha0)
        refine i_iload_n (x := x3) r_131_83 (n_131_83 _) rfl ?_
        refine i_iaload (a := a0 + 3) (j := x3) r_131_84 (n_131_84 _) t22 ⟨by omega, by omega⟩ (by omega) (by omega) (fun q23 => ?_)
        refine wp_virt (b := a0) (rest := []) (Ls := [(0, rf a0), (1, rf a1), (2, iv (zI s a0 0 + x2 / zI s a0 5 * zI s a0 6 + zI s (a0 + 2) x3 + x2 % zI s a0 5 * zI s (a0 + 3) x3)), (3, iv (zI s (a0 + 3) x3))]) r_131_85 (n_131_85 _) rfl ⟨rfl, rfl, by decide, by decide⟩ rfl rfl ha0 ⟨rfl, Nat.le_of_ble_eq_true rfl, Nat.le_of_ble_eq_true rfl⟩ rfl h ?_
        intro o24 s24 h
        rcases h with ⟨y24, rfl, h⟩ | ⟨e24, rfl, h⟩
        · refine .inl ⟨some (.long y24), rfl, ?_⟩
          show wp S 131 88 [(0, rf a0), (1, rf a1), (2, iv x2), (3, iv x3), (4, .long u4), (6, iv (zI s a0 0 + x2 / zI s a0 5 * zI s a0 6 + zI s (a0 + 2) x3 + x2 % zI s a0 5 * zI s (a0 + 3) x3)), (7, iv (zI s (a0 + 1) x3)), (8, .long u4), (10, .long (zshlL ((zshlL 1 ((zI s (a0 + 1) x3) - 20)) - 1) (zI s (a0 + 4) x3)))] [.long y24] s24 Q
          refine i_lload (u := zshlL ((zshlL 1 ((zI s (a0 + 1) x3) - 20)) - 1) (zI s (a0 + 4) x3)) r_131_88 (n_131_88 _) rfl ?_
          refine i_ldc2 r_131_90 (n_131_90 _) rfl ?_
          refine i_lxor r_131_93 (n_131_93 _) ?_
          refine i_land r_131_94 (n_131_94 _) ?_
          refine i_lload (u := u4) r_131_95 (n_131_95 _) rfl ?_
          refine i_aload_n (a := a0) r_131_97 (n_131_97 _) rfl ?_
          refine i_getR (a := a0) (b := a0 + 4) r_131_98 (n_131_98 _) rfl rfl rfl (by omega) ha0 (by omega) ?_
          have t26 := (t_8_10 ha0)
          refine i_iload_n (x := x3) r_131_101 (n_131_101 _) rfl ?_
          refine i_iaload (a := a0 + 4) (j := x3) r_131_102 (n_131_102 _) t26 ⟨by omega, by omega⟩ (by omega) (by omega) (fun q27 => ?_)
          refine i_lshl r_131_103 (n_131_103 _) ?_
          refine i_lload (u := zshlL ((zshlL 1 ((zI s (a0 + 1) x3) - 20)) - 1) (zI s (a0 + 4) x3)) r_131_104 (n_131_104 _) rfl ?_
          refine i_land r_131_106 (n_131_106 _) ?_
          refine i_lor r_131_107 (n_131_107 _) ?_
          refine i_lstore (l' := [(0, rf a0), (1, rf a1), (2, iv x2), (3, iv x3), (4, .long u4), (6, iv (zI s a0 0 + x2 / zI s a0 5 * zI s a0 6 + zI s (a0 + 2) x3 + x2 % zI s a0 5 * zI s (a0 + 3) x3)), (7, iv (zI s (a0 + 1) x3)), (8, .long ((y24 &&& ((zshlL ((zshlL 1 ((zI s (a0 + 1) x3) - 20)) - 1) (zI s (a0 + 4) x3)) ^^^ (-1))) ||| ((zshlL u4 (zI s24 (a0 + 4) x3)) &&& (zshlL ((zshlL 1 ((zI s (a0 + 1) x3) - 20)) - 1) (zI s (a0 + 4) x3))))), (10, .long (zshlL ((zshlL 1 ((zI s (a0 + 1) x3) - 20)) - 1) (zI s (a0 + 4) x3)))]) r_131_108 (n_131_108 _) (by decide) rfl ?_
          refine i_aload_n (a := a0) r_131_110 (n_131_110 _) rfl ?_
          refine i_aload_n (a := a1) r_131_111 (n_131_111 _) rfl ?_
          refine i_iload (x := zI s a0 0 + x2 / zI s a0 5 * zI s a0 6 + zI s (a0 + 2) x3 + x2 % zI s a0 5 * zI s (a0 + 3) x3) r_131_112 (n_131_112 _) rfl ?_
          refine i_aload_n (a := a0) r_131_114 (n_131_114 _) rfl ?_
          refine i_getR (a := a0) (b := a0 + 3) r_131_115 (n_131_115 _) rfl rfl rfl (by omega) ha0 (by omega) ?_
          have t28 := (t_8_9 ha0)
          refine i_iload_n (x := x3) r_131_118 (n_131_118 _) rfl ?_
          refine i_iaload (a := a0 + 3) (j := x3) r_131_119 (n_131_119 _) t28 ⟨by omega, by omega⟩ (by omega) (by omega) (fun q29 => ?_)
          refine i_lload (u := (y24 &&& ((zshlL ((zshlL 1 ((zI s (a0 + 1) x3) - 20)) - 1) (zI s (a0 + 4) x3)) ^^^ (-1))) ||| ((zshlL u4 (zI s24 (a0 + 4) x3)) &&& (zshlL ((zshlL 1 ((zI s (a0 + 1) x3) - 20)) - 1) (zI s (a0 + 4) x3)))) r_131_120 (n_131_120 _) rfl ?_
          refine wp_virt (b := a0) (rest := []) (Ls := [(0, rf a0), (1, rf a1), (2, iv (zI s a0 0 + x2 / zI s a0 5 * zI s a0 6 + zI s (a0 + 2) x3 + x2 % zI s a0 5 * zI s (a0 + 3) x3)), (3, iv (zI s24 (a0 + 3) x3)), (4, .long ((y24 &&& ((zshlL ((zshlL 1 ((zI s (a0 + 1) x3) - 20)) - 1) (zI s (a0 + 4) x3)) ^^^ (-1))) ||| ((zshlL u4 (zI s24 (a0 + 4) x3)) &&& (zshlL ((zshlL 1 ((zI s (a0 + 1) x3) - 20)) - 1) (zI s (a0 + 4) x3)))))]) r_131_122 (n_131_122 _) rfl ⟨rfl, rfl, by decide, by decide⟩ rfl rfl ha0 ⟨rfl, Nat.le_of_ble_eq_true rfl, Nat.le_of_ble_eq_true rfl⟩ rfl h ?_
          intro o30 s30 h
          rcases h with ⟨rfl, h⟩ | ⟨e30, rfl, h⟩
          · refine .inl ⟨none, rfl, ?_⟩
            exact i_return r_131_125 (n_131_125 _) rfl h
          · skip
            exact h.elim
        · skip
          exact h.elim
    · replace h := h.2 c12
      refine i_lload (u := u4) r_131_36 (n_131_36 _) rfl ?_
      refine i_lconst r_131_38 (n_131_38 _) ?_
      refine i_lcmp r_131_39 (n_131_39 _) ?_
      refine i_if (t := 47) r_131_40 (n_131_40 _) rfl (T_ne (zcmp_rng _ _) ⟨by omega, by omega⟩) (fun c32 => ?_) (fun c32 => ?_)
      · replace h := h.1 c32
        refine i_lconst r_131_47 (n_131_47 _) ?_
        refine i_lstore (l' := [(0, rf a0), (1, rf a1), (2, iv x2), (3, iv x3), (4, .long u4), (6, iv (zI s a0 0 + x2 / zI s a0 5 * zI s a0 6 + zI s (a0 + 2) x3 + x2 % zI s a0 5 * zI s (a0 + 3) x3)), (7, iv (zI s (a0 + 1) x3)), (8, .long 1)]) r_131_48 (n_131_48 _) (by decide) rfl ?_
        refine i_goto (t := 110) r_131_50 (n_131_50 _) rfl ?_
        refine i_aload_n (a := a0) r_131_110 (n_131_110 _) rfl ?_
        refine i_aload_n (a := a1) r_131_111 (n_131_111 _) rfl ?_
        refine i_iload (x := zI s a0 0 + x2 / zI s a0 5 * zI s a0 6 + zI s (a0 + 2) x3 + x2 % zI s a0 5 * zI s (a0 + 3) x3) r_131_112 (n_131_112 _) rfl ?_
        refine i_aload_n (a := a0) r_131_114 (n_131_114 _) rfl ?_
        refine i_getR (a := a0) (b := a0 + 3) r_131_115 (n_131_115 _) rfl rfl rfl (by omega) ha0 (by omega) ?_
        have t33 := (t_8_9 ha0)
        refine i_iload_n (x := x3) r_131_118 (n_131_118 _) rfl ?_
        refine i_iaload (a := a0 + 3) (j := x3) r_131_119 (n_131_119 _) t33 ⟨by omega, by omega⟩ (by omega) (by omega) (fun q34 => ?_)
        refine i_lload (u := 1) r_131_120 (n_131_120 _) rfl ?_
        refine wp_virt (b := a0) (rest := []) (Ls := [(0, rf a0), (1, rf a1), (2, iv (zI s a0 0 + x2 / zI s a0 5 * zI s a0 6 + zI s (a0 + 2) x3 + x2 % zI s a0 5 * zI s (a0 + 3) x3)), (3, iv (zI s (a0 + 3) x3)), (4, .long 1)]) r_131_122 (n_131_122 _) rfl ⟨rfl, rfl, by decide, by decide⟩ rfl rfl ha0 ⟨rfl, Nat.le_of_ble_eq_true rfl, Nat.le_of_ble_eq_true rfl⟩ rfl h ?_
        intro o35 s35 h
        rcases h with ⟨rfl, h⟩ | ⟨e35, rfl, h⟩
        · refine .inl ⟨none, rfl, ?_⟩
          exact i_return r_131_125 (n_131_125 _) rfl h
        · skip
          exact h.elim
      · replace h := h.2 c32
        refine i_lconst r_131_43 (n_131_43 _) ?_
        refine i_goto (t := 48) r_131_44 (n_131_44 _) rfl ?_
        refine i_lstore (l' := [(0, rf a0), (1, rf a1), (2, iv x2), (3, iv x3), (4, .long u4), (6, iv (zI s a0 0 + x2 / zI s a0 5 * zI s a0 6 + zI s (a0 + 2) x3 + x2 % zI s a0 5 * zI s (a0 + 3) x3)), (7, iv (zI s (a0 + 1) x3)), (8, .long 0)]) r_131_48 (n_131_48 _) (by decide) rfl ?_
        refine i_goto (t := 110) r_131_50 (n_131_50 _) rfl ?_
        refine i_aload_n (a := a0) r_131_110 (n_131_110 _) rfl ?_
        refine i_aload_n (a := a1) r_131_111 (n_131_111 _) rfl ?_
        refine i_iload (x := zI s a0 0 + x2 / zI s a0 5 * zI s a0 6 + zI s (a0 + 2) x3 + x2 % zI s a0 5 * zI s (a0 + 3) x3) r_131_112 (n_131_112 _) rfl ?_
        refine i_aload_n (a := a0) r_131_114 (n_131_114 _) rfl ?_
        refine i_getR (a := a0) (b := a0 + 3) r_131_115 (n_131_115 _) rfl rfl rfl (by omega) ha0 (by omega) ?_
        have t37 := (t_8_9 ha0)
        refine i_iload_n (x := x3) r_131_118 (n_131_118 _) rfl ?_
        refine i_iaload (a := a0 + 3) (j := x3) r_131_119 (n_131_119 _) t37 ⟨by omega, by omega⟩ (by omega) (by omega) (fun q38 => ?_)
        refine i_lload (u := 0) r_131_120 (n_131_120 _) rfl ?_
        refine wp_virt (b := a0) (rest := []) (Ls := [(0, rf a0), (1, rf a1), (2, iv (zI s a0 0 + x2 / zI s a0 5 * zI s a0 6 + zI s (a0 + 2) x3 + x2 % zI s a0 5 * zI s (a0 + 3) x3)), (3, iv (zI s (a0 + 3) x3)), (4, .long 0)]) r_131_122 (n_131_122 _) rfl ⟨rfl, rfl, by decide, by decide⟩ rfl rfl ha0 ⟨rfl, Nat.le_of_ble_eq_true rfl, Nat.le_of_ble_eq_true rfl⟩ rfl h ?_
        intro o39 s39 h
        rcases h with ⟨rfl, h⟩ | ⟨e39, rfl, h⟩
        · refine .inl ⟨none, rfl, ?_⟩
          exact i_return r_131_125 (n_131_125 _) rfl h
        · skip
          exact h.elim
  · replace h := h.2 c3
    exact i_return r_131_8 (n_131_8 _) rfl h

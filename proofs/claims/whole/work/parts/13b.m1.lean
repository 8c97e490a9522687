theorem r_212_0 : xfetch 212 0 = some (.aload_n 0, 1) := by decide +kernel
theorem n_212_0 : ∀ l, xpr 212 0 l = l := xpr_no (by decide +kernel)
theorem r_212_1 : xfetch 212 1 = some (.invokevirtual 152, 3) := by decide +kernel
theorem n_212_1 : ∀ l, xpr 212 1 l = l := xpr_no (by decide +kernel)
theorem r_212_4 : xfetch 212 4 = some (.aload_n 0, 1) := by decide +kernel
theorem n_212_4 : ∀ l, xpr 212 4 l = l := xpr_no (by decide +kernel)
theorem r_212_5 : xfetch 212 5 = some (.aload_n 0, 1) := by decide +kernel
theorem n_212_5 : ∀ l, xpr 212 5 l = l := xpr_no (by decide +kernel)
theorem r_212_6 : xfetch 212 6 = some (.aload_n 0, 1) := by decide +kernel
theorem n_212_6 : ∀ l, xpr 212 6 l = l := xpr_no (by decide +kernel)
theorem r_212_7 : xfetch 212 7 = some (.iload_n 1, 1) := by decide +kernel
theorem n_212_7 : ∀ l, xpr 212 7 l = l := xpr_no (by decide +kernel)
theorem r_212_8 : xfetch 212 8 = some (.invokevirtual 142, 3) := by decide +kernel
theorem n_212_8 : ∀ l, xpr 212 8 l = l := xpr_no (by decide +kernel)
theorem r_212_11 : xfetch 212 11 = some (.ifCond .eq 16, 3) := by decide +kernel
theorem n_212_11 : ∀ l, xpr 212 11 l = l := xpr_no (by decide +kernel)
theorem r_212_14 : xfetch 212 14 = some (.aload_n 0, 1) := by decide +kernel
theorem n_212_14 : ∀ l, xpr 212 14 l = l := xpr_no (by decide +kernel)
theorem r_212_15 : xfetch 212 15 = some (.iload_n 1, 1) := by decide +kernel
theorem n_212_15 : ∀ l, xpr 212 15 l = l := xpr_no (by decide +kernel)
theorem r_212_16 : xfetch 212 16 = some (.iload_n 2, 1) := by decide +kernel
theorem n_212_16 : ∀ l, xpr 212 16 l = l := xpr_no (by decide +kernel)
theorem r_212_17 : xfetch 212 17 = some (.invokevirtual 172, 3) := by decide +kernel
theorem n_212_17 : ∀ l, xpr 212 17 l = l := xpr_no (by decide +kernel)
theorem r_212_20 : xfetch 212 20 = some (.ifCond .eq 7, 3) := by decide +kernel
theorem n_212_20 : ∀ l, xpr 212 20 l = l := xpr_no (by decide +kernel)
theorem r_212_23 : xfetch 212 23 = some (.iconst 1, 1) := by decide +kernel
theorem n_212_23 : ∀ l, xpr 212 23 l = l := xpr_no (by decide +kernel)
theorem r_212_24 : xfetch 212 24 = some (.goto 4, 3) := by decide +kernel
theorem n_212_24 : ∀ l, xpr 212 24 l = l := xpr_no (by decide +kernel)
theorem r_212_27 : xfetch 212 27 = some (.iconst 0, 1) := by decide +kernel
theorem n_212_27 : ∀ l, xpr 212 27 l = l := xpr_no (by decide +kernel)
theorem r_212_28 : xfetch 212 28 = some (.invokevirtual 175, 3) := by decide +kernel
theorem n_212_28 : ∀ l, xpr 212 28 l = l := xpr_no (by decide +kernel)
theorem r_212_31 : xfetch 212 31 = some (.invokevirtual 84, 3) := by decide +kernel
theorem n_212_31 : ∀ l, xpr 212 31 l = l := xpr_no (by decide +kernel)
theorem r_212_34 : xfetch 212 34 = some (.ifCond .eq 5, 3) := by decide +kernel
theorem n_212_34 : ∀ l, xpr 212 34 l = l := xpr_no (by decide +kernel)
theorem r_212_37 : xfetch 212 37 = some (.iconst 0, 1) := by decide +kernel
theorem n_212_37 : ∀ l, xpr 212 37 l = l := xpr_no (by decide +kernel)
theorem r_212_38 : xfetch 212 38 = some (.ireturn, 1) := by decide +kernel
theorem n_212_38 : ∀ l, xpr 212 38 l = l := xpr_no (by decide +kernel)
theorem r_212_39 : xfetch 212 39 = some (.bipush 40, 2) := by decide +kernel
theorem n_212_39 : ∀ l, xpr 212 39 l = l := xpr_no (by decide +kernel)
theorem r_212_41 : xfetch 212 41 = some (.iload_n 1, 1) := by decide +kernel
theorem n_212_41 : ∀ l, xpr 212 41 l = l := xpr_no (by decide +kernel)
theorem r_212_42 : xfetch 212 42 = some (.imul, 1) := by decide +kernel
theorem n_212_42 : ∀ l, xpr 212 42 l = l := xpr_no (by decide +kernel)
theorem r_212_43 : xfetch 212 43 = some (.iload_n 2, 1) := by decide +kernel
theorem n_212_43 : ∀ l, xpr 212 43 l = l := xpr_no (by decide +kernel)
theorem r_212_44 : xfetch 212 44 = some (.iadd, 1) := by decide +kernel
theorem n_212_44 : ∀ l, xpr 212 44 l = l := xpr_no (by decide +kernel)
theorem r_212_45 : xfetch 212 45 = some (.istore 4, 2) := by decide +kernel
theorem n_212_45 : ∀ l, xpr 212 45 l = l := xpr_no (by decide +kernel)
theorem r_212_47 : xfetch 212 47 = some (.iload_n 3, 1) := by decide +kernel
theorem n_212_47 : ∀ l, xpr 212 47 l = l := xpr_no (by decide +kernel)
theorem r_212_48 : xfetch 212 48 = some (.iconst 0, 1) := by decide +kernel
theorem n_212_48 : ∀ l, xpr 212 48 l = l := xpr_no (by decide +kernel)
theorem r_212_49 : xfetch 212 49 = some (.aload_n 0, 1) := by decide +kernel
theorem n_212_49 : ∀ l, xpr 212 49 l = l := xpr_no (by decide +kernel)
theorem r_212_50 : xfetch 212 50 = some (.getfield 43, 3) := by decide +kernel
theorem n_212_50 : ∀ l, xpr 212 50 l = l := xpr_no (by decide +kernel)
theorem r_212_53 : xfetch 212 53 = some (.iload 4, 2) := by decide +kernel
theorem n_212_53 : ∀ l, xpr 212 53 l = l := xpr_no (by decide +kernel)
theorem r_212_55 : xfetch 212 55 = some (.iaload, 1) := by decide +kernel
theorem n_212_55 : ∀ l, xpr 212 55 l = l := xpr_no (by decide +kernel)
theorem r_212_56 : xfetch 212 56 = some (.iconst 1, 1) := by decide +kernel
theorem n_212_56 : ∀ l, xpr 212 56 l = l := xpr_no (by decide +kernel)
theorem r_212_57 : xfetch 212 57 = some (.isub, 1) := by decide +kernel
theorem n_212_57 : ∀ l, xpr 212 57 l = l := xpr_no (by decide +kernel)
theorem r_212_58 : xfetch 212 58 = some (.invokestatic 88, 3) := by decide +kernel
theorem n_212_58 : ∀ l, xpr 212 58 l = l := xpr_no (by decide +kernel)
theorem r_212_61 : xfetch 212 61 = some (.ifCond .eq 18, 3) := by decide +kernel
theorem n_212_61 : ∀ l, xpr 212 61 l = l := xpr_no (by decide +kernel)
theorem r_212_64 : xfetch 212 64 = some (.aload_n 0, 1) := by decide +kernel
theorem n_212_64 : ∀ l, xpr 212 64 l = l := xpr_no (by decide +kernel)
theorem r_212_65 : xfetch 212 65 = some (.getfield 40, 3) := by decide +kernel
theorem n_212_65 : ∀ l, xpr 212 65 l = l := xpr_no (by decide +kernel)
theorem r_212_68 : xfetch 212 68 = some (.bipush 32, 2) := by decide +kernel
theorem n_212_68 : ∀ l, xpr 212 68 l = l := xpr_no (by decide +kernel)
theorem r_212_70 : xfetch 212 70 = some (.iload 4, 2) := by decide +kernel
theorem n_212_70 : ∀ l, xpr 212 70 l = l := xpr_no (by decide +kernel)
theorem r_212_72 : xfetch 212 72 = some (.imul, 1) := by decide +kernel
theorem n_212_72 : ∀ l, xpr 212 72 l = l := xpr_no (by decide +kernel)
theorem r_212_73 : xfetch 212 73 = some (.iload_n 3, 1) := by decide +kernel
theorem n_212_73 : ∀ l, xpr 212 73 l = l := xpr_no (by decide +kernel)
theorem r_212_74 : xfetch 212 74 = some (.iadd, 1) := by decide +kernel
theorem n_212_74 : ∀ l, xpr 212 74 l = l := xpr_no (by decide +kernel)
theorem r_212_75 : xfetch 212 75 = some (.iaload, 1) := by decide +kernel
theorem n_212_75 : ∀ l, xpr 212 75 l = l := xpr_no (by decide +kernel)
theorem r_212_76 : xfetch 212 76 = some (.goto 4, 3) := by decide +kernel
theorem n_212_76 : ∀ l, xpr 212 76 l = l := xpr_no (by decide +kernel)
theorem r_212_79 : xfetch 212 79 = some (.iconst (-1), 1) := by decide +kernel
theorem n_212_79 : ∀ l, xpr 212 79 l = l := xpr_no (by decide +kernel)
theorem r_212_80 : xfetch 212 80 = some (.ireturn, 1) := by decide +kernel
theorem n_212_80 : ∀ l, xpr 212 80 l = l := xpr_no (by decide +kernel)
theorem v_Model_pathByte_0 {S : Option (Nat × (Nat → Int32))} {s : zSt} {Q : Option Value ⊕ Nat → zSt → Prop} {x1 : Int} {x2 : Int} {x3 : Int} 
    (h : wp S 193 0 [(0, rf 252)] [] s (fun o1 s1 => zkU (rng x1 ∧ (rng ((zI s1 253 0) - 1) ∧ ((¬ (0 ≤ x1 ∧ x1 ≤ ((zI s1 253 0) - 1)) → Q (rI 0) (zwI s1 252 3 1)) ∧ (0 ≤ x1 ∧ x1 ≤ ((zI s1 253 0) - 1) → (0 ≤ x1 ∧ x1 < 6) ∧ (rng x2 ∧ (rng ((zI s1 256 x1) - 1) ∧ ((¬ (0 ≤ x2 ∧ x2 ≤ ((zI s1 256 x1) - 1)) → Q (rI 0) (zwI s1 252 3 1)) ∧ (0 ≤ x2 ∧ x2 ≤ ((zI s1 256 x1) - 1) → (0 ≤ ((40 * x1) + x2) ∧ ((40 * x1) + x2) < 240) ∧ (rng x3 ∧ (rng ((zI s1 264 ((40 * x1) + x2)) - 1) ∧ ((¬ (0 ≤ x3 ∧ x3 ≤ ((zI s1 264 ((40 * x1) + x2)) - 1)) → Q (rI (-1)) (zwI s1 252 3 0)) ∧ (0 ≤ x3 ∧ x3 ≤ ((zI s1 264 ((40 * x1) + x2)) - 1) → (0 ≤ ((32 * ((40 * x1) + x2)) + x3) ∧ ((32 * ((40 * x1) + x2)) + x3) < 7680) ∧ (Q (rI (zI s1 263 ((32 * ((40 * x1) + x2)) + x3))) (zwI s1 252 3 0)))))))))))))) (fun e1 => False) o1)) :
    wp S 212 0 [(0, rf 252), (1, iv x1), (2, iv x2), (3, iv x3)] [] s Q := by
  refine i_aload_n (a := 252) r_212_0 (n_212_0 _) rfl ?_
  refine wp_virt (b := 252) (rest := []) (Ls := [(0, rf 252)]) r_212_1 (n_212_1 _) rfl ⟨rfl, rfl, by decide, by decide⟩ rfl rfl lf_252 ⟨rfl, Nat.le_of_ble_eq_true rfl, Nat.le_of_ble_eq_true rfl⟩ rfl h ?_
  intro o1 s1 h
  rcases h with ⟨rfl, h⟩ | ⟨e1, rfl, h⟩
  · refine .inl ⟨none, rfl, ?_⟩
    refine i_aload_n (a := 252) r_212_4 (n_212_4 _) rfl ?_
    refine i_aload_n (a := 252) r_212_5 (n_212_5 _) rfl ?_
    refine i_aload_n (a := 252) r_212_6 (n_212_6 _) rfl ?_
    refine i_iload_n (x := x1) r_212_7 (n_212_7 _) rfl ?_
    obtain ⟨g3, h⟩ := h
    obtain ⟨g4, h⟩ := h
    refine wp_virt (b := 252) (rest := [rf 252, rf 252]) (Ls := [(0, rf 252), (1, iv x1)]) r_212_8 (n_212_8 _) rfl ⟨rfl, rfl, by decide, by decide⟩ rfl rfl lf_252 ⟨rfl, Nat.le_of_ble_eq_true rfl, Nat.le_of_ble_eq_true rfl⟩ rfl (K_Model_isRecord g3 g4) ?_
    rintro _ _ ⟨rfl, rfl⟩
    refine .inl ⟨some (iv (bi (0 ≤ x1 ∧ x1 ≤ ((zI s1 253 0) - 1)))), rfl, ?_⟩
    show wp S 212 11 [(0, rf 252), (1, iv x1), (2, iv x2), (3, iv x3)] [iv (bi (0 ≤ x1 ∧ x1 ≤ ((zI s1 253 0) - 1))), rf 252, rf 252] s1 Q
    refine i_if (t := 27) r_212_11 (n_212_11 _) rfl (TB_eq) (fun c6 => ?_) (fun c6 => ?_)
    · replace h := h.1 c6
      refine i_iconst r_212_27 (n_212_27 _) ?_
      refine wp_virt (b := 252) (rest := [rf 252]) (Ls := [(0, rf 252), (1, iv 0)]) r_212_28 (n_212_28 _) rfl ⟨rfl, rfl, by decide, by decide⟩ rfl rfl lf_252 ⟨rfl, Nat.le_of_ble_eq_true rfl, Nat.le_of_ble_eq_true rfl⟩ rfl K_Model_need0 ?_
      rintro _ _ ⟨rfl, rfl⟩
      refine .inl ⟨some (iv 1), rfl, ?_⟩
      show wp S 212 31 [(0, rf 252), (1, iv x1), (2, iv x2), (3, iv x3)] [iv 1, rf 252] s1 Q
      refine wp_virt (b := 252) (rest := []) (Ls := [(0, rf 252), (1, iv 1)]) r_212_31 (n_212_31 _) rfl ⟨rfl, rfl, by decide, by decide⟩ rfl rfl lf_252 ⟨rfl, Nat.le_of_ble_eq_true rfl, Nat.le_of_ble_eq_true rfl⟩ rfl (K_Model_refused1 ⟨by omega, by omega⟩ (by omega)) ?_
      rintro _ _ ⟨rfl, rfl⟩
      refine .inl ⟨some (iv 1), rfl, ?_⟩
      show wp S 212 34 [(0, rf 252), (1, iv x1), (2, iv x2), (3, iv x3)] [iv 1] (zwI s1 252 3 1) Q
      refine i_if (t := 39) r_212_34 (n_212_34 _) rfl (T_eq ⟨by omega, by omega⟩ ⟨by omega, by omega⟩) (fun z => absurd z (by omega)) (fun _ => ?_)
      refine i_iconst r_212_37 (n_212_37 _) ?_
      exact i_ireturn r_212_38 (n_212_38 _) rfl h
    · replace h := h.2 c6
      refine i_aload_n (a := 252) r_212_14 (n_212_14 _) rfl ?_
      refine i_iload_n (x := x1) r_212_15 (n_212_15 _) rfl ?_
      refine i_iload_n (x := x2) r_212_16 (n_212_16 _) rfl ?_
      obtain ⟨g9, h⟩ := h
      obtain ⟨g10, h⟩ := h
      obtain ⟨g11, h⟩ := h
      refine wp_virt (b := 252) (rest := [rf 252, rf 252]) (Ls := [(0, rf 252), (1, iv x1), (2, iv x2)]) r_212_17 (n_212_17 _) rfl ⟨rfl, rfl, by decide, by decide⟩ rfl rfl lf_252 ⟨rfl, Nat.le_of_ble_eq_true rfl, Nat.le_of_ble_eq_true rfl⟩ rfl (K_Model_isLeaf g9 g10 g11) ?_
      rintro _ _ ⟨rfl, rfl⟩
      refine .inl ⟨some (iv (bi (0 ≤ x2 ∧ x2 ≤ ((zI s1 256 x1) - 1)))), rfl, ?_⟩
      show wp S 212 20 [(0, rf 252), (1, iv x1), (2, iv x2), (3, iv x3)] [iv (bi (0 ≤ x2 ∧ x2 ≤ ((zI s1 256 x1) - 1))), rf 252, rf 252] s1 Q
      refine i_if (t := 27) r_212_20 (n_212_20 _) rfl (TB_eq) (fun c13 => ?_) (fun c13 => ?_)
      · replace h := h.1 c13
        refine i_iconst r_212_27 (n_212_27 _) ?_
        refine wp_virt (b := 252) (rest := [rf 252]) (Ls := [(0, rf 252), (1, iv 0)]) r_212_28 (n_212_28 _) rfl ⟨rfl, rfl, by decide, by decide⟩ rfl rfl lf_252 ⟨rfl, Nat.le_of_ble_eq_true rfl, Nat.le_of_ble_eq_true rfl⟩ rfl K_Model_need0 ?_
        rintro _ _ ⟨rfl, rfl⟩
        refine .inl ⟨some (iv 1), rfl, ?_⟩
        show wp S 212 31 [(0, rf 252), (1, iv x1), (2, iv x2), (3, iv x3)] [iv 1, rf 252] s1 Q
        refine wp_virt (b := 252) (rest := []) (Ls := [(0, rf 252), (1, iv 1)]) r_212_31 (n_212_31 _) rfl ⟨rfl, rfl, by decide, by decide⟩ rfl rfl lf_252 ⟨rfl, Nat.le_of_ble_eq_true rfl, Nat.le_of_ble_eq_true rfl⟩ rfl (K_Model_refused1 ⟨by omega, by omega⟩ (by omega)) ?_
        rintro _ _ ⟨rfl, rfl⟩
        refine .inl ⟨some (iv 1), rfl, ?_⟩
        show wp S 212 34 [(0, rf 252), (1, iv x1), (2, iv x2), (3, iv x3)] [iv 1] (zwI s1 252 3 1) Q
        refine i_if (t := 39) r_212_34 (n_212_34 _) rfl (T_eq ⟨by omega, by omega⟩ ⟨by omega, by omega⟩) (fun z => absurd z (by omega)) (fun _ => ?_)
        refine i_iconst r_212_37 (n_212_37 _) ?_
        exact i_ireturn r_212_38 (n_212_38 _) rfl h
      · replace h := h.2 c13
        refine i_iconst r_212_23 (n_212_23 _) ?_
        refine i_goto (t := 28) r_212_24 (n_212_24 _) rfl ?_
        refine wp_virt (b := 252) (rest := [rf 252]) (Ls := [(0, rf 252), (1, iv 1)]) r_212_28 (n_212_28 _) rfl ⟨rfl, rfl, by decide, by decide⟩ rfl rfl lf_252 ⟨rfl, Nat.le_of_ble_eq_true rfl, Nat.le_of_ble_eq_true rfl⟩ rfl (K_Model_need1 ⟨by omega, by omega⟩ (by omega)) ?_
        rintro _ _ ⟨rfl, rfl⟩
        refine .inl ⟨some (iv 0), rfl, ?_⟩
        show wp S 212 31 [(0, rf 252), (1, iv x1), (2, iv x2), (3, iv x3)] [iv 0, rf 252] s1 Q
        refine wp_virt (b := 252) (rest := []) (Ls := [(0, rf 252), (1, iv 0)]) r_212_31 (n_212_31 _) rfl ⟨rfl, rfl, by decide, by decide⟩ rfl rfl lf_252 ⟨rfl, Nat.le_of_ble_eq_true rfl, Nat.le_of_ble_eq_true rfl⟩ rfl K_Model_refused0 ?_
        rintro _ _ ⟨rfl, rfl⟩
        refine .inl ⟨some (iv 0), rfl, ?_⟩
        show wp S 212 34 [(0, rf 252), (1, iv x1), (2, iv x2), (3, iv x3)] [iv 0] (zwI s1 252 3 0) Q
        refine i_if (t := 39) r_212_34 (n_212_34 _) rfl (T_eq ⟨by omega, by omega⟩ ⟨by omega, by omega⟩) (fun _ => ?_) (fun z => absurd z (by omega))
        refine i_bipush r_212_39 (n_212_39 _) rfl ?_
        refine i_iload_n (x := x1) r_212_41 (n_212_41 _) rfl ?_
        refine i_imul r_212_42 (n_212_42 _) ?_
        refine i_iload_n (x := x2) r_212_43 (n_212_43 _) rfl ?_
        refine i_iadd r_212_44 (n_212_44 _) ?_
        refine i_istore (l' := [(0, rf 252), (1, iv x1), (2, iv x2), (3, iv x3), (4, iv ((40 * x1) + x2))]) r_212_45 (n_212_45 _) (by decide) rfl ?_
        refine i_iload_n (x := x3) r_212_47 (n_212_47 _) rfl ?_
        refine i_iconst r_212_48 (n_212_48 _) ?_
        refine i_aload_n (a := 252) r_212_49 (n_212_49 _) rfl ?_
        refine i_getR (a := 252) (b := 264) r_212_50 (n_212_50 _) rfl rfl rfl (by omega) lf_252 (by omega) ?_
        refine i_iload (x := (40 * x1) + x2) r_212_53 (n_212_53 _) rfl ?_
        obtain ⟨g18, h⟩ := h
        have e20 : zI (zwI s1 252 3 0) 264 ((40 * x1) + x2) = zI s1 264 ((40 * x1) + x2) := zI_ne (by omega)
        refine i_ialoade (a := 264) (j := (40 * x1) + x2) (x := zI s1 264 ((40 * x1) + x2)) r_212_55 (n_212_55 _) lf_264 ⟨by omega, by omega⟩ (by omega) (by omega) e20 (fun q19 => ?_)
        refine i_iconst r_212_56 (n_212_56 _) ?_
        refine i_isub r_212_57 (n_212_57 _) ?_
        obtain ⟨g21, h⟩ := h
        obtain ⟨g22, h⟩ := h
        refine wp_stat (rest := []) (Ls := [(0, iv x3), (1, iv 0), (2, iv ((zI s1 264 ((40 * x1) + x2)) - 1))]) r_212_58 (n_212_58 _) rfl ⟨rfl, by decide, by decide, by decide⟩ rfl rfl ⟨rfl, Nat.le_of_ble_eq_true rfl, Nat.le_of_ble_eq_true rfl⟩ rfl (K_Model_within g21 ⟨by omega, by omega⟩ g22) ?_
        rintro _ _ ⟨rfl, rfl⟩
        refine .inl ⟨some (iv (bi (0 ≤ x3 ∧ x3 ≤ ((zI s1 264 ((40 * x1) + x2)) - 1)))), rfl, ?_⟩
        show wp S 212 61 [(0, rf 252), (1, iv x1), (2, iv x2), (3, iv x3), (4, iv ((40 * x1) + x2))] [iv (bi (0 ≤ x3 ∧ x3 ≤ ((zI s1 264 ((40 * x1) + x2)) - 1)))] (zwI s1 252 3 0) Q
        refine i_if (t := 79) r_212_61 (n_212_61 _) rfl (TB_eq) (fun c24 => ?_) (fun c24 => ?_)
        · replace h := h.1 c24
          refine i_iconst r_212_79 (n_212_79 _) ?_
          exact i_ireturn r_212_80 (n_212_80 _) rfl h
        · replace h := h.2 c24
          refine i_aload_n (a := 252) r_212_64 (n_212_64 _) rfl ?_
          refine i_getR (a := 252) (b := 263) r_212_65 (n_212_65 _) rfl rfl rfl (by omega) lf_252 (by omega) ?_
          refine i_bipush r_212_68 (n_212_68 _) rfl ?_
          refine i_iload (x := (40 * x1) + x2) r_212_70 (n_212_70 _) rfl ?_
          refine i_imul r_212_72 (n_212_72 _) ?_
          refine i_iload_n (x := x3) r_212_73 (n_212_73 _) rfl ?_
          refine i_iadd r_212_74 (n_212_74 _) ?_
          obtain ⟨g25, h⟩ := h
          have e27 : zI (zwI s1 252 3 0) 263 ((32 * ((40 * x1) + x2)) + x3) = zI s1 263 ((32 * ((40 * x1) + x2)) + x3) := zI_ne (by omega)
          refine i_ialoade (a := 263) (j := (32 * ((40 * x1) + x2)) + x3) (x := zI s1 263 ((32 * ((40 * x1) + x2)) + x3)) r_212_75 (n_212_75 _) lf_263 ⟨by omega, by omega⟩ (by omega) (by omega) e27 (fun q26 => ?_)
          refine i_goto (t := 80) r_212_76 (n_212_76 _) rfl ?_
          exact i_ireturn r_212_80 (n_212_80 _) rfl h
  · skip
    exact h.elim
theorem r_214_0 : xfetch 214 0 = some (.aload_n 0, 1) := by decide +kernel
theorem n_214_0 : ∀ l, xpr 214 0 l = l := xpr_no (by decide +kernel)
theorem r_214_1 : xfetch 214 1 = some (.aload_n 0, 1) := by decide +kernel
theorem n_214_1 : ∀ l, xpr 214 1 l = l := xpr_no (by decide +kernel)
theorem r_214_2 : xfetch 214 2 = some (.aload_n 0, 1) := by decide +kernel
theorem n_214_2 : ∀ l, xpr 214 2 l = l := xpr_no (by decide +kernel)
theorem r_214_3 : xfetch 214 3 = some (.iload_n 1, 1) := by decide +kernel
theorem n_214_3 : ∀ l, xpr 214 3 l = l := xpr_no (by decide +kernel)
theorem r_214_4 : xfetch 214 4 = some (.invokevirtual 142, 3) := by decide +kernel
theorem n_214_4 : ∀ l, xpr 214 4 l = l := xpr_no (by decide +kernel)
theorem r_214_7 : xfetch 214 7 = some (.invokevirtual 175, 3) := by decide +kernel
theorem n_214_7 : ∀ l, xpr 214 7 l = l := xpr_no (by decide +kernel)
theorem r_214_10 : xfetch 214 10 = some (.invokevirtual 84, 3) := by decide +kernel
theorem n_214_10 : ∀ l, xpr 214 10 l = l := xpr_no (by decide +kernel)
theorem r_214_13 : xfetch 214 13 = some (.ifCond .eq 5, 3) := by decide +kernel
theorem n_214_13 : ∀ l, xpr 214 13 l = l := xpr_no (by decide +kernel)
theorem r_214_16 : xfetch 214 16 = some (.iconst 0, 1) := by decide +kernel
theorem n_214_16 : ∀ l, xpr 214 16 l = l := xpr_no (by decide +kernel)
theorem r_214_17 : xfetch 214 17 = some (.ireturn, 1) := by decide +kernel
theorem n_214_17 : ∀ l, xpr 214 17 l = l := xpr_no (by decide +kernel)
theorem r_214_18 : xfetch 214 18 = some (.aload_n 0, 1) := by decide +kernel
theorem n_214_18 : ∀ l, xpr 214 18 l = l := xpr_no (by decide +kernel)
theorem r_214_19 : xfetch 214 19 = some (.invokevirtual 152, 3) := by decide +kernel
theorem n_214_19 : ∀ l, xpr 214 19 l = l := xpr_no (by decide +kernel)
theorem r_214_22 : xfetch 214 22 = some (.iconst 0, 1) := by decide +kernel
theorem n_214_22 : ∀ l, xpr 214 22 l = l := xpr_no (by decide +kernel)
theorem r_214_23 : xfetch 214 23 = some (.istore_n 2, 1) := by decide +kernel
theorem n_214_23 : ∀ l, xpr 214 23 l = l := xpr_no (by decide +kernel)
theorem r_214_24 : xfetch 214 24 = some (.iload_n 2, 1) := by decide +kernel
theorem r_214_25 : xfetch 214 25 = some (.aload_n 0, 1) := by decide +kernel
theorem n_214_25 : ∀ l, xpr 214 25 l = l := xpr_no (by decide +kernel)
theorem r_214_26 : xfetch 214 26 = some (.getfield 19, 3) := by decide +kernel
theorem n_214_26 : ∀ l, xpr 214 26 l = l := xpr_no (by decide +kernel)
theorem r_214_29 : xfetch 214 29 = some (.iload_n 1, 1) := by decide +kernel
theorem n_214_29 : ∀ l, xpr 214 29 l = l := xpr_no (by decide +kernel)
theorem r_214_30 : xfetch 214 30 = some (.iaload, 1) := by decide +kernel
theorem n_214_30 : ∀ l, xpr 214 30 l = l := xpr_no (by decide +kernel)
theorem r_214_31 : xfetch 214 31 = some (.if_icmp .ge 95, 3) := by decide +kernel
theorem n_214_31 : ∀ l, xpr 214 31 l = l := xpr_no (by decide +kernel)
theorem r_214_34 : xfetch 214 34 = some (.bipush 40, 2) := by decide +kernel
theorem n_214_34 : ∀ l, xpr 214 34 l = l := xpr_no (by decide +kernel)
theorem r_214_36 : xfetch 214 36 = some (.iload_n 1, 1) := by decide +kernel
theorem n_214_36 : ∀ l, xpr 214 36 l = l := xpr_no (by decide +kernel)
theorem r_214_37 : xfetch 214 37 = some (.imul, 1) := by decide +kernel
theorem n_214_37 : ∀ l, xpr 214 37 l = l := xpr_no (by decide +kernel)
theorem r_214_38 : xfetch 214 38 = some (.iload_n 2, 1) := by decide +kernel
theorem n_214_38 : ∀ l, xpr 214 38 l = l := xpr_no (by decide +kernel)
theorem r_214_39 : xfetch 214 39 = some (.iadd, 1) := by decide +kernel
theorem n_214_39 : ∀ l, xpr 214 39 l = l := xpr_no (by decide +kernel)
theorem r_214_40 : xfetch 214 40 = some (.istore_n 3, 1) := by decide +kernel
theorem n_214_40 : ∀ l, xpr 214 40 l = l := xpr_no (by decide +kernel)
theorem r_214_41 : xfetch 214 41 = some (.aload_n 0, 1) := by decide +kernel
theorem n_214_41 : ∀ l, xpr 214 41 l = l := xpr_no (by decide +kernel)
theorem r_214_42 : xfetch 214 42 = some (.getfield 43, 3) := by decide +kernel
theorem n_214_42 : ∀ l, xpr 214 42 l = l := xpr_no (by decide +kernel)
theorem r_214_45 : xfetch 214 45 = some (.iload_n 3, 1) := by decide +kernel
theorem n_214_45 : ∀ l, xpr 214 45 l = l := xpr_no (by decide +kernel)
theorem r_214_46 : xfetch 214 46 = some (.iaload, 1) := by decide +kernel
theorem n_214_46 : ∀ l, xpr 214 46 l = l := xpr_no (by decide +kernel)
theorem r_214_47 : xfetch 214 47 = some (.aload_n 0, 1) := by decide +kernel
theorem n_214_47 : ∀ l, xpr 214 47 l = l := xpr_no (by decide +kernel)
theorem r_214_48 : xfetch 214 48 = some (.getfield 179, 3) := by decide +kernel
theorem n_214_48 : ∀ l, xpr 214 48 l = l := xpr_no (by decide +kernel)
theorem r_214_51 : xfetch 214 51 = some (.if_icmp .ne 7, 3) := by decide +kernel
theorem n_214_51 : ∀ l, xpr 214 51 l = l := xpr_no (by decide +kernel)
theorem r_214_54 : xfetch 214 54 = some (.iconst 1, 1) := by decide +kernel
theorem n_214_54 : ∀ l, xpr 214 54 l = l := xpr_no (by decide +kernel)
theorem r_214_55 : xfetch 214 55 = some (.goto 4, 3) := by decide +kernel
theorem n_214_55 : ∀ l, xpr 214 55 l = l := xpr_no (by decide +kernel)
theorem r_214_58 : xfetch 214 58 = some (.iconst 0, 1) := by decide +kernel
theorem n_214_58 : ∀ l, xpr 214 58 l = l := xpr_no (by decide +kernel)
theorem r_214_59 : xfetch 214 59 = some (.istore 4, 2) := by decide +kernel
theorem n_214_59 : ∀ l, xpr 214 59 l = l := xpr_no (by decide +kernel)
theorem r_214_61 : xfetch 214 61 = some (.iconst 0, 1) := by decide +kernel
theorem n_214_61 : ∀ l, xpr 214 61 l = l := xpr_no (by decide +kernel)
theorem r_214_62 : xfetch 214 62 = some (.istore 5, 2) := by decide +kernel
theorem n_214_62 : ∀ l, xpr 214 62 l = l := xpr_no (by decide +kernel)
theorem r_214_64 : xfetch 214 64 = some (.iload 4, 2) := by decide +kernel
theorem r_214_66 : xfetch 214 66 = some (.ifCond .eq 47, 3) := by decide +kernel
theorem n_214_66 : ∀ l, xpr 214 66 l = l := xpr_no (by decide +kernel)
theorem r_214_69 : xfetch 214 69 = some (.iload 5, 2) := by decide +kernel
theorem n_214_69 : ∀ l, xpr 214 69 l = l := xpr_no (by decide +kernel)
theorem r_214_71 : xfetch 214 71 = some (.aload_n 0, 1) := by decide +kernel
theorem n_214_71 : ∀ l, xpr 214 71 l = l := xpr_no (by decide +kernel)
theorem r_214_72 : xfetch 214 72 = some (.getfield 179, 3) := by decide +kernel
theorem n_214_72 : ∀ l, xpr 214 72 l = l := xpr_no (by decide +kernel)
theorem r_214_75 : xfetch 214 75 = some (.if_icmp .ge 38, 3) := by decide +kernel
theorem n_214_75 : ∀ l, xpr 214 75 l = l := xpr_no (by decide +kernel)
theorem r_214_78 : xfetch 214 78 = some (.aload_n 0, 1) := by decide +kernel
theorem n_214_78 : ∀ l, xpr 214 78 l = l := xpr_no (by decide +kernel)
theorem r_214_79 : xfetch 214 79 = some (.getfield 40, 3) := by decide +kernel
theorem n_214_79 : ∀ l, xpr 214 79 l = l := xpr_no (by decide +kernel)
theorem r_214_82 : xfetch 214 82 = some (.bipush 32, 2) := by decide +kernel
theorem n_214_82 : ∀ l, xpr 214 82 l = l := xpr_no (by decide +kernel)
theorem r_214_84 : xfetch 214 84 = some (.iload_n 3, 1) := by decide +kernel
theorem n_214_84 : ∀ l, xpr 214 84 l = l := xpr_no (by decide +kernel)
theorem r_214_85 : xfetch 214 85 = some (.imul, 1) := by decide +kernel
theorem n_214_85 : ∀ l, xpr 214 85 l = l := xpr_no (by decide +kernel)
theorem r_214_86 : xfetch 214 86 = some (.iload 5, 2) := by decide +kernel
theorem n_214_86 : ∀ l, xpr 214 86 l = l := xpr_no (by decide +kernel)
theorem r_214_88 : xfetch 214 88 = some (.iadd, 1) := by decide +kernel
theorem n_214_88 : ∀ l, xpr 214 88 l = l := xpr_no (by decide +kernel)
theorem r_214_89 : xfetch 214 89 = some (.iaload, 1) := by decide +kernel
theorem n_214_89 : ∀ l, xpr 214 89 l = l := xpr_no (by decide +kernel)
theorem r_214_90 : xfetch 214 90 = some (.aload_n 0, 1) := by decide +kernel
theorem n_214_90 : ∀ l, xpr 214 90 l = l := xpr_no (by decide +kernel)
theorem r_214_91 : xfetch 214 91 = some (.getfield 16, 3) := by decide +kernel
theorem n_214_91 : ∀ l, xpr 214 91 l = l := xpr_no (by decide +kernel)
theorem r_214_94 : xfetch 214 94 = some (.iload 5, 2) := by decide +kernel
theorem n_214_94 : ∀ l, xpr 214 94 l = l := xpr_no (by decide +kernel)
theorem r_214_96 : xfetch 214 96 = some (.iaload, 1) := by decide +kernel
theorem n_214_96 : ∀ l, xpr 214 96 l = l := xpr_no (by decide +kernel)
theorem r_214_97 : xfetch 214 97 = some (.if_icmp .ne 7, 3) := by decide +kernel
theorem n_214_97 : ∀ l, xpr 214 97 l = l := xpr_no (by decide +kernel)
theorem r_214_100 : xfetch 214 100 = some (.iconst 1, 1) := by decide +kernel
theorem n_214_100 : ∀ l, xpr 214 100 l = l := xpr_no (by decide +kernel)
theorem r_214_101 : xfetch 214 101 = some (.goto 4, 3) := by decide +kernel
theorem n_214_101 : ∀ l, xpr 214 101 l = l := xpr_no (by decide +kernel)
theorem r_214_104 : xfetch 214 104 = some (.iconst 0, 1) := by decide +kernel
theorem n_214_104 : ∀ l, xpr 214 104 l = l := xpr_no (by decide +kernel)
theorem r_214_105 : xfetch 214 105 = some (.istore 4, 2) := by decide +kernel
theorem n_214_105 : ∀ l, xpr 214 105 l = l := xpr_no (by decide +kernel)
theorem r_214_107 : xfetch 214 107 = some (.iinc 5 1, 3) := by decide +kernel
theorem n_214_107 : ∀ l, xpr 214 107 l = l := xpr_no (by decide +kernel)
theorem r_214_110 : xfetch 214 110 = some (.goto (-46), 3) := by decide +kernel
theorem n_214_110 : ∀ l, xpr 214 110 l = l := xpr_no (by decide +kernel)
theorem r_214_113 : xfetch 214 113 = some (.iload 4, 2) := by decide +kernel
theorem n_214_113 : ∀ l, xpr 214 113 l = l := xpr_no (by decide +kernel)
theorem r_214_115 : xfetch 214 115 = some (.ifCond .eq 5, 3) := by decide +kernel
theorem n_214_115 : ∀ l, xpr 214 115 l = l := xpr_no (by decide +kernel)
theorem r_214_118 : xfetch 214 118 = some (.iload_n 2, 1) := by decide +kernel
theorem n_214_118 : ∀ l, xpr 214 118 l = l := xpr_no (by decide +kernel)
theorem r_214_119 : xfetch 214 119 = some (.ireturn, 1) := by decide +kernel
theorem n_214_119 : ∀ l, xpr 214 119 l = l := xpr_no (by decide +kernel)
theorem r_214_120 : xfetch 214 120 = some (.iinc 2 1, 3) := by decide +kernel
theorem n_214_120 : ∀ l, xpr 214 120 l = l := xpr_no (by decide +kernel)
theorem r_214_123 : xfetch 214 123 = some (.goto (-99), 3) := by decide +kernel
theorem n_214_123 : ∀ l, xpr 214 123 l = l := xpr_no (by decide +kernel)
theorem r_214_126 : xfetch 214 126 = some (.iconst (-1), 1) := by decide +kernel
theorem n_214_126 : ∀ l, xpr 214 126 l = l := xpr_no (by decide +kernel)
theorem r_214_127 : xfetch 214 127 = some (.ireturn, 1) := by decide +kernel
theorem n_214_127 : ∀ l, xpr 214 127 l = l := xpr_no (by decide +kernel)
theorem v_Model_findLeaf_0 {S : Option (Nat × (Nat → Int32))} {s : zSt} {Q : Option Value ⊕ Nat → zSt → Prop} {x1 : Int} 
    (h : rng x1 ∧ (rng ((zI s 253 0) - 1) ∧ (((0 ≤ x1 ∧ x1 ≤ ((zI s 253 0) - 1)) → wp S 193 0 [(0, rf 252)] [] (zwI s 252 3 (bi (¬ (0 ≤ x1 ∧ x1 ≤ ((zI s 253 0) - 1))))) (fun o7 s7 => zkU (wp S 214 24 [(0, rf 252), (1, iv x1), (2, iv 0)] [] s7 Q) (fun e7 => False) o7)) ∧ (¬ (0 ≤ x1 ∧ x1 ≤ ((zI s 253 0) - 1)) → Q (rI 0) (zwI s 252 3 (bi (¬ (0 ≤ x1 ∧ x1 ≤ ((zI s 253 0) - 1))))))))) :
    wp S 214 0 [(0, rf 252), (1, iv x1)] [] s Q := by
  refine i_aload_n (a := 252) r_214_0 (n_214_0 _) rfl ?_
  refine i_aload_n (a := 252) r_214_1 (n_214_1 _) rfl ?_
  refine i_aload_n (a := 252) r_214_2 (n_214_2 _) rfl ?_
  refine i_iload_n (x := x1) r_214_3 (n_214_3 _) rfl ?_
  obtain ⟨g1, h⟩ := h
  obtain ⟨g2, h⟩ := h
  refine wp_virt (b := 252) (rest := [rf 252, rf 252]) (Ls := [(0, rf 252), (1, iv x1)]) r_214_4 (n_214_4 _) rfl ⟨rfl, rfl, by decide, by decide⟩ rfl rfl lf_252 ⟨rfl, Nat.le_of_ble_eq_true rfl, Nat.le_of_ble_eq_true rfl⟩ rfl (K_Model_isRecord g1 g2) ?_
  rintro _ _ ⟨rfl, rfl⟩
  refine .inl ⟨some (iv (bi (0 ≤ x1 ∧ x1 ≤ ((zI s 253 0) - 1)))), rfl, ?_⟩
  show wp S 214 7 [(0, rf 252), (1, iv x1)] [iv (bi (0 ≤ x1 ∧ x1 ≤ ((zI s 253 0) - 1))), rf 252, rf 252] s Q
  refine wp_virt (b := 252) (rest := [rf 252]) (Ls := [(0, rf 252), (1, iv (bi (0 ≤ x1 ∧ x1 ≤ ((zI s 253 0) - 1))))]) r_214_7 (n_214_7 _) rfl ⟨rfl, rfl, by decide, by decide⟩ rfl rfl lf_252 ⟨rfl, Nat.le_of_ble_eq_true rfl, Nat.le_of_ble_eq_true rfl⟩ rfl K_Model_needB ?_
  rintro _ _ ⟨rfl, rfl⟩
  refine .inl ⟨some (iv (bi (¬ (0 ≤ x1 ∧ x1 ≤ ((zI s 253 0) - 1))))), rfl, ?_⟩
  show wp S 214 10 [(0, rf 252), (1, iv x1)] [iv (bi (¬ (0 ≤ x1 ∧ x1 ≤ ((zI s 253 0) - 1)))), rf 252] s Q
  refine wp_virt (b := 252) (rest := []) (Ls := [(0, rf 252), (1, iv (bi (¬ (0 ≤ x1 ∧ x1 ≤ ((zI s 253 0) - 1)))))]) r_214_10 (n_214_10 _) rfl ⟨rfl, rfl, by decide, by decide⟩ rfl rfl lf_252 ⟨rfl, Nat.le_of_ble_eq_true rfl, Nat.le_of_ble_eq_true rfl⟩ rfl K_Model_refusedB ?_
  rintro _ _ ⟨rfl, rfl⟩
  refine .inl ⟨some (iv (bi (¬ (0 ≤ x1 ∧ x1 ≤ ((zI s 253 0) - 1))))), rfl, ?_⟩
  show wp S 214 13 [(0, rf 252), (1, iv x1)] [iv (bi (¬ (0 ≤ x1 ∧ x1 ≤ ((zI s 253 0) - 1))))] (zwI s 252 3 (bi (¬ (0 ≤ x1 ∧ x1 ≤ ((zI s 253 0) - 1))))) Q
  refine i_if (t := 18) r_214_13 (n_214_13 _) rfl (TB_eqN) (fun c6 => ?_) (fun c6 => ?_)
  · replace h := h.1 c6
    refine i_aload_n (a := 252) r_214_18 (n_214_18 _) rfl ?_
    refine wp_virt (b := 252) (rest := []) (Ls := [(0, rf 252)]) r_214_19 (n_214_19 _) rfl ⟨rfl, rfl, by decide, by decide⟩ rfl rfl lf_252 ⟨rfl, Nat.le_of_ble_eq_true rfl, Nat.le_of_ble_eq_true rfl⟩ rfl h ?_
    intro o7 s7 h
    rcases h with ⟨rfl, h⟩ | ⟨e7, rfl, h⟩
    · refine .inl ⟨none, rfl, ?_⟩
      refine i_iconst r_214_22 (n_214_22 _) ?_
      refine i_istore_n (l' := [(0, rf 252), (1, iv x1), (2, iv 0)]) r_214_23 (n_214_23 _) (by decide) rfl ?_
      exact wp_pr (l' := [(0, rf 252), (1, iv x1), (2, iv 0)]) rfl h
    · skip
      exact h.elim
  · replace h := h.2 c6
    refine i_iconst r_214_16 (n_214_16 _) ?_
    exact i_ireturn r_214_17 (n_214_17 _) rfl h
theorem v_Model_findLeaf_24 {S : Option (Nat × (Nat → Int32))} {s : zSt} {Q : Option Value ⊕ Nat → zSt → Prop} {x1 : Int} {x2 : Int} 
    (h : (0 ≤ x1 ∧ x1 < 6) ∧ (rng x2 ∧ (((zI s 256 x1) ≤ x2 → Q (rI (-1)) s) ∧ (x2 < (zI s 256 x1) → (0 ≤ ((40 * x1) + x2) ∧ ((40 * x1) + x2) < 240) ∧ (((zI s 264 ((40 * x1) + x2)) ≠ (zI s 252 5) → wp S 214 64 [(0, rf 252), (1, iv x1), (2, iv x2), (3, iv ((40 * x1) + x2)), (4, iv 0), (5, iv 0)] [] s Q) ∧ ((zI s 264 ((40 * x1) + x2)) = (zI s 252 5) → wp S 214 64 [(0, rf 252), (1, iv x1), (2, iv x2), (3, iv ((40 * x1) + x2)), (4, iv 1), (5, iv 0)] [] s Q)))))) :
    wp S 214 24 [(0, rf 252), (1, iv x1), (2, iv x2)] [] s Q := by
  refine i_iload_n (x := x2) r_214_24 rfl rfl ?_
  refine i_aload_n (a := 252) r_214_25 (n_214_25 _) rfl ?_
  refine i_getR (a := 252) (b := 256) r_214_26 (n_214_26 _) rfl rfl rfl (by omega) lf_252 (by omega) ?_
  refine i_iload_n (x := x1) r_214_29 (n_214_29 _) rfl ?_
  obtain ⟨g1, h⟩ := h
  refine i_iaload (a := 256) (j := x1) r_214_30 (n_214_30 _) lf_256 ⟨by omega, by omega⟩ (by omega) (by omega) (fun q2 => ?_)
  obtain ⟨g3, h⟩ := h
  refine i_icmp (t := 126) r_214_31 (n_214_31 _) rfl (T_ge g3 q2) (fun c4 => ?_) (fun c4 => ?_)
  · replace h := h.1 c4
    refine i_iconst r_214_126 (n_214_126 _) ?_
    exact i_ireturn r_214_127 (n_214_127 _) rfl h
  · replace h := h.2 c4
    refine i_bipush r_214_34 (n_214_34 _) rfl ?_
    refine i_iload_n (x := x1) r_214_36 (n_214_36 _) rfl ?_
    refine i_imul r_214_37 (n_214_37 _) ?_
    refine i_iload_n (x := x2) r_214_38 (n_214_38 _) rfl ?_
    refine i_iadd r_214_39 (n_214_39 _) ?_
    refine i_istore_n (l' := [(0, rf 252), (1, iv x1), (2, iv x2), (3, iv ((40 * x1) + x2))]) r_214_40 (n_214_40 _) (by decide) rfl ?_
    refine i_aload_n (a := 252) r_214_41 (n_214_41 _) rfl ?_
    refine i_getR (a := 252) (b := 264) r_214_42 (n_214_42 _) rfl rfl rfl (by omega) lf_252 (by omega) ?_
    refine i_iload_n (x := (40 * x1) + x2) r_214_45 (n_214_45 _) rfl ?_
    obtain ⟨g5, h⟩ := h
    refine i_iaload (a := 264) (j := (40 * x1) + x2) r_214_46 (n_214_46 _) lf_264 ⟨by omega, by omega⟩ (by omega) (by omega) (fun q6 => ?_)
    refine i_aload_n (a := 252) r_214_47 (n_214_47 _) rfl ?_
    refine i_getI (a := 252) r_214_48 (n_214_48 _) rfl (by decide) lf_252 (fun q7 => ?_)
    refine i_icmp (t := 58) r_214_51 (n_214_51 _) rfl (T_ne q6 q7) (fun c8 => ?_) (fun c8 => ?_)
    · replace h := h.1 c8
      refine i_iconst r_214_58 (n_214_58 _) ?_
      refine i_istore (l' := [(0, rf 252), (1, iv x1), (2, iv x2), (3, iv ((40 * x1) + x2)), (4, iv 0)]) r_214_59 (n_214_59 _) (by decide) rfl ?_
      refine i_iconst r_214_61 (n_214_61 _) ?_
      refine i_istore (l' := [(0, rf 252), (1, iv x1), (2, iv x2), (3, iv ((40 * x1) + x2)), (4, iv 0), (5, iv 0)]) r_214_62 (n_214_62 _) (by decide) rfl ?_
      exact wp_pr (l' := [(0, rf 252), (1, iv x1), (2, iv x2), (3, iv ((40 * x1) + x2)), (4, iv 0), (5, iv 0)]) rfl h
    · replace h := h.2 c8
      refine i_iconst r_214_54 (n_214_54 _) ?_
      refine i_goto (t := 59) r_214_55 (n_214_55 _) rfl ?_
      refine i_istore (l' := [(0, rf 252), (1, iv x1), (2, iv x2), (3, iv ((40 * x1) + x2)), (4, iv 1)]) r_214_59 (n_214_59 _) (by decide) rfl ?_
      refine i_iconst r_214_61 (n_214_61 _) ?_
      refine i_istore (l' := [(0, rf 252), (1, iv x1), (2, iv x2), (3, iv ((40 * x1) + x2)), (4, iv 1), (5, iv 0)]) r_214_62 (n_214_62 _) (by decide) rfl ?_
      exact wp_pr (l' := [(0, rf 252), (1, iv x1), (2, iv x2), (3, iv ((40 * x1) + x2)), (4, iv 1), (5, iv 0)]) rfl h
theorem v_Model_findLeaf_64 {S : Option (Nat × (Nat → Int32))} {s : zSt} {Q : Option Value ⊕ Nat → zSt → Prop} {x1 : Int} {x2 : Int} {x3 : Int} {x4 : Int} {x5 : Int} 
    (h : rng x4 ∧ ((x4 = 0 → (x4 = 0 → wp S 214 24 [(0, rf 252), (1, iv x1), (2, iv (x2 + 1))] [] s Q) ∧ (x4 ≠ 0 → Q (rI x2) s)) ∧ (x4 ≠ 0 → rng x5 ∧ (((zI s 252 5) ≤ x5 → (x4 = 0 → wp S 214 24 [(0, rf 252), (1, iv x1), (2, iv (x2 + 1))] [] s Q) ∧ (x4 ≠ 0 → Q (rI x2) s)) ∧ (x5 < (zI s 252 5) → (0 ≤ ((32 * x3) + x5) ∧ ((32 * x3) + x5) < 7680) ∧ ((0 ≤ x5 ∧ x5 < 80) ∧ (((zI s 263 ((32 * x3) + x5)) ≠ (zI s 255 x5) → wp S 214 64 [(0, rf 252), (1, iv x1), (2, iv x2), (3, iv x3), (4, iv 0), (5, iv (x5 + 1))] [] s Q) ∧ ((zI s 263 ((32 * x3) + x5)) = (zI s 255 x5) → wp S 214 64 [(0, rf 252), (1, iv x1), (2, iv x2), (3, iv x3), (4, iv 1), (5, iv (x5 + 1))] [] s Q)))))))) :
    wp S 214 64 [(0, rf 252), (1, iv x1), (2, iv x2), (3, iv x3), (4, iv x4), (5, iv x5)] [] s Q := by
  refine i_iload (x := x4) r_214_64 rfl rfl ?_
  obtain ⟨g1, h⟩ := h
  refine i_if (t := 113) r_214_66 (n_214_66 _) rfl (T_eq g1 ⟨by omega, by omega⟩) (fun c2 => ?_) (fun c2 => ?_)
  · replace h := h.1 c2
    refine i_iload (x := x4) r_214_113 (n_214_113 _) rfl ?_
    refine i_if (t := 120) r_214_115 (n_214_115 _) rfl (T_eq g1 ⟨by omega, by omega⟩) (fun c3 => ?_) (fun c3 => ?_)
    · replace h := h.1 c3
      refine i_iinc (x := x2) (l' := [(0, rf 252), (1, iv x1), (2, iv (x2 + 1)), (3, iv x3), (4, iv x4), (5, iv x5)]) r_214_120 (n_214_120 _) (by decide) rfl rfl ?_
      refine i_goto (t := 24) r_214_123 (n_214_123 _) rfl ?_
      exact wp_pr (l' := [(0, rf 252), (1, iv x1), (2, iv (x2 + 1))]) rfl h
    · replace h := h.2 c3
      refine i_iload_n (x := x2) r_214_118 (n_214_118 _) rfl ?_
      exact i_ireturn r_214_119 (n_214_119 _) rfl h
  · replace h := h.2 c2
    refine i_iload (x := x5) r_214_69 (n_214_69 _) rfl ?_
    refine i_aload_n (a := 252) r_214_71 (n_214_71 _) rfl ?_
    refine i_getI (a := 252) r_214_72 (n_214_72 _) rfl (by decide) lf_252 (fun q4 => ?_)
    obtain ⟨g5, h⟩ := h
    refine i_icmp (t := 113) r_214_75 (n_214_75 _) rfl (T_ge g5 q4) (fun c6 => ?_) (fun c6 => ?_)
    · replace h := h.1 c6
      refine i_iload (x := x4) r_214_113 (n_214_113 _) rfl ?_
      refine i_if (t := 120) r_214_115 (n_214_115 _) rfl (T_eq g1 ⟨by omega, by omega⟩) (fun c7 => ?_) (fun c7 => ?_)
      · replace h := h.1 c7
        refine i_iinc (x := x2) (l' := [(0, rf 252), (1, iv x1), (2, iv (x2 + 1)), (3, iv x3), (4, iv x4), (5, iv x5)]) r_214_120 (n_214_120 _) (by decide) rfl rfl ?_
        refine i_goto (t := 24) r_214_123 (n_214_123 _) rfl ?_
        exact wp_pr (l' := [(0, rf 252), (1, iv x1), (2, iv (x2 + 1))]) rfl h
      · replace h := h.2 c7
        refine i_iload_n (x := x2) r_214_118 (n_214_118 _) rfl ?_
        exact i_ireturn r_214_119 (n_214_119 _) rfl h
    · replace h := h.2 c6
      refine i_aload_n (a := 252) r_214_78 (n_214_78 _) rfl ?_
      refine i_getR (a := 252) (b := 263) r_214_79 (n_214_79 _) rfl rfl rfl (by omega) lf_252 (by omega) ?_
      refine i_bipush r_214_82 (n_214_82 _) rfl ?_
      refine i_iload_n (x := x3) r_214_84 (n_214_84 _) rfl ?_
      refine i_imul r_214_85 (n_214_85 _) ?_
      refine i_iload (x := x5) r_214_86 (n_214_86 _) rfl ?_
      refine i_iadd r_214_88 (n_214_88 _) ?_
      obtain ⟨g8, h⟩ := h
      refine i_iaload (a := 263) (j := (32 * x3) + x5) r_214_89 (n_214_89 _) lf_263 ⟨by omega, by omega⟩ (by omega) (by omega) (fun q9 => ?_)
      refine i_aload_n (a := 252) r_214_90 (n_214_90 _) rfl ?_
      refine i_getR (a := 252) (b := 255) r_214_91 (n_214_91 _) rfl rfl rfl (by omega) lf_252 (by omega) ?_
      refine i_iload (x := x5) r_214_94 (n_214_94 _) rfl ?_
      obtain ⟨g10, h⟩ := h
      refine i_iaload (a := 255) (j := x5) r_214_96 (n_214_96 _) lf_255 ⟨by omega, by omega⟩ (by omega) (by omega) (fun q11 => ?_)
      refine i_icmp (t := 104) r_214_97 (n_214_97 _) rfl (T_ne q9 q11) (fun c12 => ?_) (fun c12 => ?_)
      · replace h := h.1 c12
        refine i_iconst r_214_104 (n_214_104 _) ?_
        refine i_istore (l' := [(0, rf 252), (1, iv x1), (2, iv x2), (3, iv x3), (4, iv 0), (5, iv x5)]) r_214_105 (n_214_105 _) (by decide) rfl ?_
        refine i_iinc (x := x5) (l' := [(0, rf 252), (1, iv x1), (2, iv x2), (3, iv x3), (4, iv 0), (5, iv (x5 + 1))]) r_214_107 (n_214_107 _) (by decide) rfl rfl ?_
        refine i_goto (t := 64) r_214_110 (n_214_110 _) rfl ?_
        exact wp_pr (l' := [(0, rf 252), (1, iv x1), (2, iv x2), (3, iv x3), (4, iv 0), (5, iv (x5 + 1))]) rfl h
      · replace h := h.2 c12
        refine i_iconst r_214_100 (n_214_100 _) ?_
        refine i_goto (t := 105) r_214_101 (n_214_101 _) rfl ?_
        refine i_istore (l' := [(0, rf 252), (1, iv x1), (2, iv x2), (3, iv x3), (4, iv 1), (5, iv x5)]) r_214_105 (n_214_105 _) (by decide) rfl ?_
        refine i_iinc (x := x5) (l' := [(0, rf 252), (1, iv x1), (2, iv x2), (3, iv x3), (4, iv 1), (5, iv (x5 + 1))]) r_214_107 (n_214_107 _) (by decide) rfl rfl ?_
        refine i_goto (t := 64) r_214_110 (n_214_110 _) rfl ?_
        exact wp_pr (l' := [(0, rf 252), (1, iv x1), (2, iv x2), (3, iv x3), (4, iv 1), (5, iv (x5 + 1))]) rfl h
theorem r_215_0 : xfetch 215 0 = some (.aload_n 0, 1) := by decide +kernel
theorem n_215_0 : ∀ l, xpr 215 0 l = l := xpr_no (by decide +kernel)
theorem r_215_1 : xfetch 215 1 = some (.aload_n 0, 1) := by decide +kernel
theorem n_215_1 : ∀ l, xpr 215 1 l = l := xpr_no (by decide +kernel)
theorem r_215_2 : xfetch 215 2 = some (.aload_n 0, 1) := by decide +kernel
theorem n_215_2 : ∀ l, xpr 215 2 l = l := xpr_no (by decide +kernel)
theorem r_215_3 : xfetch 215 3 = some (.iload_n 1, 1) := by decide +kernel
theorem n_215_3 : ∀ l, xpr 215 3 l = l := xpr_no (by decide +kernel)
theorem r_215_4 : xfetch 215 4 = some (.invokevirtual 142, 3) := by decide +kernel
theorem n_215_4 : ∀ l, xpr 215 4 l = l := xpr_no (by decide +kernel)
theorem r_215_7 : xfetch 215 7 = some (.invokevirtual 175, 3) := by decide +kernel
theorem n_215_7 : ∀ l, xpr 215 7 l = l := xpr_no (by decide +kernel)
theorem r_215_10 : xfetch 215 10 = some (.invokevirtual 84, 3) := by decide +kernel
theorem n_215_10 : ∀ l, xpr 215 10 l = l := xpr_no (by decide +kernel)
theorem r_215_13 : xfetch 215 13 = some (.ifCond .eq 7, 3) := by decide +kernel
theorem n_215_13 : ∀ l, xpr 215 13 l = l := xpr_no (by decide +kernel)
theorem r_215_16 : xfetch 215 16 = some (.iconst 0, 1) := by decide +kernel
theorem n_215_16 : ∀ l, xpr 215 16 l = l := xpr_no (by decide +kernel)
theorem r_215_17 : xfetch 215 17 = some (.goto 8, 3) := by decide +kernel
theorem n_215_17 : ∀ l, xpr 215 17 l = l := xpr_no (by decide +kernel)
theorem r_215_20 : xfetch 215 20 = some (.aload_n 0, 1) := by decide +kernel
theorem n_215_20 : ∀ l, xpr 215 20 l = l := xpr_no (by decide +kernel)
theorem r_215_21 : xfetch 215 21 = some (.iload_n 1, 1) := by decide +kernel
theorem n_215_21 : ∀ l, xpr 215 21 l = l := xpr_no (by decide +kernel)
theorem r_215_22 : xfetch 215 22 = some (.invokevirtual 188, 3) := by decide +kernel
theorem n_215_22 : ∀ l, xpr 215 22 l = l := xpr_no (by decide +kernel)
theorem r_215_25 : xfetch 215 25 = some (.ireturn, 1) := by decide +kernel
theorem n_215_25 : ∀ l, xpr 215 25 l = l := xpr_no (by decide +kernel)
theorem v_Model_bestSize_0 {S : Option (Nat × (Nat → Int32))} {s : zSt} {Q : Option Value ⊕ Nat → zSt → Prop} {x1 : Int} 
    (h : rng x1 ∧ (rng ((zI s 253 0) - 1) ∧ (((0 ≤ x1 ∧ x1 ≤ ((zI s 253 0) - 1)) → wp S 216 0 [(0, rf 252), (1, iv x1)] [] (zwI s 252 3 (bi (¬ (0 ≤ x1 ∧ x1 ≤ ((zI s 253 0) - 1))))) (fun o7 s7 => zkI (fun y7 => Q (rI y7) s7) (fun e7 => False) o7)) ∧ (¬ (0 ≤ x1 ∧ x1 ≤ ((zI s 253 0) - 1)) → Q (rI 0) (zwI s 252 3 (bi (¬ (0 ≤ x1 ∧ x1 ≤ ((zI s 253 0) - 1))))))))) :
    wp S 215 0 [(0, rf 252), (1, iv x1)] [] s Q := by
  refine i_aload_n (a := 252) r_215_0 (n_215_0 _) rfl ?_
  refine i_aload_n (a := 252) r_215_1 (n_215_1 _) rfl ?_
  refine i_aload_n (a := 252) r_215_2 (n_215_2 _) rfl ?_
  refine i_iload_n (x := x1) r_215_3 (n_215_3 _) rfl ?_
  obtain ⟨g1, h⟩ := h
  obtain ⟨g2, h⟩ := h
  refine wp_virt (b := 252) (rest := [rf 252, rf 252]) (Ls := [(0, rf 252), (1, iv x1)]) r_215_4 (n_215_4 _) rfl ⟨rfl, rfl, by decide, by decide⟩ rfl rfl lf_252 ⟨rfl, Nat.le_of_ble_eq_true rfl, Nat.le_of_ble_eq_true rfl⟩ rfl (K_Model_isRecord g1 g2) ?_
  rintro _ _ ⟨rfl, rfl⟩
  refine .inl ⟨some (iv (bi (0 ≤ x1 ∧ x1 ≤ ((zI s 253 0) - 1)))), rfl, ?_⟩
  show wp S 215 7 [(0, rf 252), (1, iv x1)] [iv (bi (0 ≤ x1 ∧ x1 ≤ ((zI s 253 0) - 1))), rf 252, rf 252] s Q
  refine wp_virt (b := 252) (rest := [rf 252]) (Ls := [(0, rf 252), (1, iv (bi (0 ≤ x1 ∧ x1 ≤ ((zI s 253 0) - 1))))]) r_215_7 (n_215_7 _) rfl ⟨rfl, rfl, by decide, by decide⟩ rfl rfl lf_252 ⟨rfl, Nat.le_of_ble_eq_true rfl, Nat.le_of_ble_eq_true rfl⟩ rfl K_Model_needB ?_
  rintro _ _ ⟨rfl, rfl⟩
  refine .inl ⟨some (iv (bi (¬ (0 ≤ x1 ∧ x1 ≤ ((zI s 253 0) - 1))))), rfl, ?_⟩
  show wp S 215 10 [(0, rf 252), (1, iv x1)] [iv (bi (¬ (0 ≤ x1 ∧ x1 ≤ ((zI s 253 0) - 1)))), rf 252] s Q
  refine wp_virt (b := 252) (rest := []) (Ls := [(0, rf 252), (1, iv (bi (¬ (0 ≤ x1 ∧ x1 ≤ ((zI s 253 0) - 1)))))]) r_215_10 (n_215_10 _) rfl ⟨rfl, rfl, by decide, by decide⟩ rfl rfl lf_252 ⟨rfl, Nat.le_of_ble_eq_true rfl, Nat.le_of_ble_eq_true rfl⟩ rfl K_Model_refusedB ?_
  rintro _ _ ⟨rfl, rfl⟩
  refine .inl ⟨some (iv (bi (¬ (0 ≤ x1 ∧ x1 ≤ ((zI s 253 0) - 1))))), rfl, ?_⟩
  show wp S 215 13 [(0, rf 252), (1, iv x1)] [iv (bi (¬ (0 ≤ x1 ∧ x1 ≤ ((zI s 253 0) - 1))))] (zwI s 252 3 (bi (¬ (0 ≤ x1 ∧ x1 ≤ ((zI s 253 0) - 1))))) Q
  refine i_if (t := 20) r_215_13 (n_215_13 _) rfl (TB_eqN) (fun c6 => ?_) (fun c6 => ?_)
  · replace h := h.1 c6
    refine i_aload_n (a := 252) r_215_20 (n_215_20 _) rfl ?_
    refine i_iload_n (x := x1) r_215_21 (n_215_21 _) rfl ?_
    refine wp_virt (b := 252) (rest := []) (Ls := [(0, rf 252), (1, iv x1)]) r_215_22 (n_215_22 _) rfl ⟨rfl, rfl, by decide, by decide⟩ rfl rfl lf_252 ⟨rfl, Nat.le_of_ble_eq_true rfl, Nat.le_of_ble_eq_true rfl⟩ rfl h ?_
    intro o7 s7 h
    rcases h with ⟨y7, q8, rfl, h⟩ | ⟨e7, rfl, h⟩
    · refine .inl ⟨some (iv y7), rfl, ?_⟩
      show wp S 215 25 [(0, rf 252), (1, iv x1)] [iv y7] s7 Q
      exact i_ireturn r_215_25 (n_215_25 _) rfl h
    · skip
      exact h.elim
  · replace h := h.2 c6
    refine i_iconst r_215_16 (n_215_16 _) ?_
    refine i_goto (t := 25) r_215_17 (n_215_17 _) rfl ?_
    exact i_ireturn r_215_25 (n_215_25 _) rfl h
theorem r_216_0 : xfetch 216 0 = some (.aload_n 0, 1) := by decide +kernel
theorem n_216_0 : ∀ l, xpr 216 0 l = l := xpr_no (by decide +kernel)
theorem r_216_1 : xfetch 216 1 = some (.invokevirtual 152, 3) := by decide +kernel
theorem n_216_1 : ∀ l, xpr 216 1 l = l := xpr_no (by decide +kernel)
theorem r_216_4 : xfetch 216 4 = some (.aload_n 0, 1) := by decide +kernel
theorem n_216_4 : ∀ l, xpr 216 4 l = l := xpr_no (by decide +kernel)
theorem r_216_5 : xfetch 216 5 = some (.invokevirtual 122, 3) := by decide +kernel
theorem n_216_5 : ∀ l, xpr 216 5 l = l := xpr_no (by decide +kernel)
theorem r_216_8 : xfetch 216 8 = some (.iconst (-1), 1) := by decide +kernel
theorem n_216_8 : ∀ l, xpr 216 8 l = l := xpr_no (by decide +kernel)
theorem r_216_9 : xfetch 216 9 = some (.istore_n 2, 1) := by decide +kernel
theorem n_216_9 : ∀ l, xpr 216 9 l = l := xpr_no (by decide +kernel)
theorem r_216_10 : xfetch 216 10 = some (.iconst 1, 1) := by decide +kernel
theorem n_216_10 : ∀ l, xpr 216 10 l = l := xpr_no (by decide +kernel)
theorem r_216_11 : xfetch 216 11 = some (.istore_n 3, 1) := by decide +kernel
theorem n_216_11 : ∀ l, xpr 216 11 l = l := xpr_no (by decide +kernel)
theorem r_216_12 : xfetch 216 12 = some (.iload_n 3, 1) := by decide +kernel
theorem r_216_13 : xfetch 216 13 = some (.ifCond .eq 67, 3) := by decide +kernel
theorem n_216_13 : ∀ l, xpr 216 13 l = l := xpr_no (by decide +kernel)
theorem r_216_16 : xfetch 216 16 = some (.aload_n 0, 1) := by decide +kernel
theorem n_216_16 : ∀ l, xpr 216 16 l = l := xpr_no (by decide +kernel)
theorem r_216_17 : xfetch 216 17 = some (.iload_n 1, 1) := by decide +kernel
theorem n_216_17 : ∀ l, xpr 216 17 l = l := xpr_no (by decide +kernel)
theorem r_216_18 : xfetch 216 18 = some (.invokevirtual 125, 3) := by decide +kernel
theorem n_216_18 : ∀ l, xpr 216 18 l = l := xpr_no (by decide +kernel)
theorem r_216_21 : xfetch 216 21 = some (.istore 4, 2) := by decide +kernel
theorem n_216_21 : ∀ l, xpr 216 21 l = l := xpr_no (by decide +kernel)
theorem r_216_23 : xfetch 216 23 = some (.iload_n 2, 1) := by decide +kernel
theorem n_216_23 : ∀ l, xpr 216 23 l = l := xpr_no (by decide +kernel)
theorem r_216_24 : xfetch 216 24 = some (.iconst (-1), 1) := by decide +kernel
theorem n_216_24 : ∀ l, xpr 216 24 l = l := xpr_no (by decide +kernel)
theorem r_216_25 : xfetch 216 25 = some (.if_icmp .eq 9, 3) := by decide +kernel
theorem n_216_25 : ∀ l, xpr 216 25 l = l := xpr_no (by decide +kernel)
theorem r_216_28 : xfetch 216 28 = some (.iload 4, 2) := by decide +kernel
theorem n_216_28 : ∀ l, xpr 216 28 l = l := xpr_no (by decide +kernel)
theorem r_216_30 : xfetch 216 30 = some (.iload_n 2, 1) := by decide +kernel
theorem n_216_30 : ∀ l, xpr 216 30 l = l := xpr_no (by decide +kernel)
theorem r_216_31 : xfetch 216 31 = some (.if_icmp .ge 36, 3) := by decide +kernel
theorem n_216_31 : ∀ l, xpr 216 31 l = l := xpr_no (by decide +kernel)
theorem r_216_34 : xfetch 216 34 = some (.iload 4, 2) := by decide +kernel
theorem n_216_34 : ∀ l, xpr 216 34 l = l := xpr_no (by decide +kernel)
theorem r_216_36 : xfetch 216 36 = some (.istore_n 2, 1) := by decide +kernel
theorem n_216_36 : ∀ l, xpr 216 36 l = l := xpr_no (by decide +kernel)
theorem r_216_37 : xfetch 216 37 = some (.iconst 0, 1) := by decide +kernel
theorem n_216_37 : ∀ l, xpr 216 37 l = l := xpr_no (by decide +kernel)
theorem r_216_38 : xfetch 216 38 = some (.istore 5, 2) := by decide +kernel
theorem n_216_38 : ∀ l, xpr 216 38 l = l := xpr_no (by decide +kernel)
theorem r_216_40 : xfetch 216 40 = some (.iload 5, 2) := by decide +kernel
theorem r_216_42 : xfetch 216 42 = some (.bipush 8, 2) := by decide +kernel
theorem n_216_42 : ∀ l, xpr 216 42 l = l := xpr_no (by decide +kernel)
theorem r_216_44 : xfetch 216 44 = some (.if_icmp .ge 23, 3) := by decide +kernel
theorem n_216_44 : ∀ l, xpr 216 44 l = l := xpr_no (by decide +kernel)
theorem r_216_47 : xfetch 216 47 = some (.aload_n 0, 1) := by decide +kernel
theorem n_216_47 : ∀ l, xpr 216 47 l = l := xpr_no (by decide +kernel)
theorem r_216_48 : xfetch 216 48 = some (.getfield 55, 3) := by decide +kernel
theorem n_216_48 : ∀ l, xpr 216 48 l = l := xpr_no (by decide +kernel)
theorem r_216_51 : xfetch 216 51 = some (.iload 5, 2) := by decide +kernel
theorem n_216_51 : ∀ l, xpr 216 51 l = l := xpr_no (by decide +kernel)
theorem r_216_53 : xfetch 216 53 = some (.aload_n 0, 1) := by decide +kernel
theorem n_216_53 : ∀ l, xpr 216 53 l = l := xpr_no (by decide +kernel)
theorem r_216_54 : xfetch 216 54 = some (.getfield 46, 3) := by decide +kernel
theorem n_216_54 : ∀ l, xpr 216 54 l = l := xpr_no (by decide +kernel)
theorem r_216_57 : xfetch 216 57 = some (.iload 5, 2) := by decide +kernel
theorem n_216_57 : ∀ l, xpr 216 57 l = l := xpr_no (by decide +kernel)
theorem r_216_59 : xfetch 216 59 = some (.iaload, 1) := by decide +kernel
theorem n_216_59 : ∀ l, xpr 216 59 l = l := xpr_no (by decide +kernel)
theorem r_216_60 : xfetch 216 60 = some (.iastore, 1) := by decide +kernel
theorem n_216_60 : ∀ l, xpr 216 60 l = l := xpr_no (by decide +kernel)
theorem r_216_61 : xfetch 216 61 = some (.iinc 5 1, 3) := by decide +kernel
theorem n_216_61 : ∀ l, xpr 216 61 l = l := xpr_no (by decide +kernel)
theorem r_216_64 : xfetch 216 64 = some (.goto (-24), 3) := by decide +kernel
theorem n_216_64 : ∀ l, xpr 216 64 l = l := xpr_no (by decide +kernel)
theorem r_216_67 : xfetch 216 67 = some (.aload_n 0, 1) := by decide +kernel
theorem n_216_67 : ∀ l, xpr 216 67 l = l := xpr_no (by decide +kernel)
theorem r_216_68 : xfetch 216 68 = some (.aload_n 0, 1) := by decide +kernel
theorem n_216_68 : ∀ l, xpr 216 68 l = l := xpr_no (by decide +kernel)
theorem r_216_69 : xfetch 216 69 = some (.iload_n 1, 1) := by decide +kernel
theorem n_216_69 : ∀ l, xpr 216 69 l = l := xpr_no (by decide +kernel)
theorem r_216_70 : xfetch 216 70 = some (.invokevirtual 99, 3) := by decide +kernel
theorem n_216_70 : ∀ l, xpr 216 70 l = l := xpr_no (by decide +kernel)
theorem r_216_73 : xfetch 216 73 = some (.invokevirtual 185, 3) := by decide +kernel
theorem n_216_73 : ∀ l, xpr 216 73 l = l := xpr_no (by decide +kernel)
theorem r_216_76 : xfetch 216 76 = some (.istore_n 3, 1) := by decide +kernel
theorem n_216_76 : ∀ l, xpr 216 76 l = l := xpr_no (by decide +kernel)
theorem r_216_77 : xfetch 216 77 = some (.goto (-65), 3) := by decide +kernel
theorem n_216_77 : ∀ l, xpr 216 77 l = l := xpr_no (by decide +kernel)
theorem r_216_80 : xfetch 216 80 = some (.iload_n 2, 1) := by decide +kernel
theorem n_216_80 : ∀ l, xpr 216 80 l = l := xpr_no (by decide +kernel)
theorem r_216_81 : xfetch 216 81 = some (.ireturn, 1) := by decide +kernel
theorem n_216_81 : ∀ l, xpr 216 81 l = l := xpr_no (by decide +kernel)
theorem v_Model_laysBest_0 {S : Option (Nat × (Nat → Int32))} {s : zSt} {Q : Option Value ⊕ Nat → zSt → Prop} {x1 : Int} 
    (h : wp S 193 0 [(0, rf 252)] [] s (fun o1 s1 => zkU (wp S 194 0 [(0, rf 252)] [] s1 (fun o3 s3 => zkU (wp S 216 12 [(0, rf 252), (1, iv x1), (2, iv (-1)), (3, iv 1)] [] s3 Q) (fun e3 => False) o3)) (fun e1 => False) o1)) :
    wp S 216 0 [(0, rf 252), (1, iv x1)] [] s Q := by
  refine i_aload_n (a := 252) r_216_0 (n_216_0 _) rfl ?_
  refine wp_virt (b := 252) (rest := []) (Ls := [(0, rf 252)]) r_216_1 (n_216_1 _) rfl ⟨rfl, rfl, by decide, by decide⟩ rfl rfl lf_252 ⟨rfl, Nat.le_of_ble_eq_true rfl, Nat.le_of_ble_eq_true rfl⟩ rfl h ?_
  intro o1 s1 h
  rcases h with ⟨rfl, h⟩ | ⟨e1, rfl, h⟩
  · refine .inl ⟨none, rfl, ?_⟩
    refine i_aload_n (a := 252) r_216_4 (n_216_4 _) rfl ?_
    refine wp_virt (b := 252) (rest := []) (Ls := [(0, rf 252)]) r_216_5 (n_216_5 _) rfl ⟨rfl, rfl, by decide, by decide⟩ rfl rfl lf_252 ⟨rfl, Nat.le_of_ble_eq_true rfl, Nat.le_of_ble_eq_true rfl⟩ rfl h ?_
    intro o3 s3 h
    rcases h with ⟨rfl, h⟩ | ⟨e3, rfl, h⟩
    · refine .inl ⟨none, rfl, ?_⟩
      refine i_iconst r_216_8 (n_216_8 _) ?_
      refine i_istore_n (l' := [(0, rf 252), (1, iv x1), (2, iv (-1))]) r_216_9 (n_216_9 _) (by decide) rfl ?_
      refine i_iconst r_216_10 (n_216_10 _) ?_
      refine i_istore_n (l' := [(0, rf 252), (1, iv x1), (2, iv (-1)), (3, iv 1)]) r_216_11 (n_216_11 _) (by decide) rfl ?_
      exact wp_pr (l' := [(0, rf 252), (1, iv x1), (2, iv (-1)), (3, iv 1)]) rfl h
    · skip
      exact h.elim
  · skip
    exact h.elim
theorem v_Model_laysBest_12 {S : Option (Nat × (Nat → Int32))} {s : zSt} {Q : Option Value ⊕ Nat → zSt → Prop} {x1 : Int} {x2 : Int} {x3 : Int} 
    (h : rng x3 ∧ ((x3 = 0 → Q (rI x2) s) ∧ (x3 ≠ 0 → wp S 195 0 [(0, rf 252), (1, iv x1)] [] s (fun o3 s3 => zkI (fun y3 => rng x2 ∧ ((x2 = (-1) → wp S 216 40 [(0, rf 252), (1, iv x1), (2, iv y3), (5, iv 0)] [] s3 Q) ∧ (x2 ≠ (-1) → (x2 ≤ y3 → (0 ≤ ((1 + (26 * x1)) + 1) ∧ ((1 + (26 * x1)) + 1) < 1199) ∧ (wp S 217 0 [(0, rf 252), (1, iv (zI s3 253 ((1 + (26 * x1)) + 1)))] [] s3 (fun o11 s11 => zkI (fun y11 => wp S 216 12 [(0, rf 252), (1, iv x1), (2, iv x2), (3, iv y11)] [] s11 Q) (fun e11 => False) o11))) ∧ (y3 < x2 → wp S 216 40 [(0, rf 252), (1, iv x1), (2, iv y3), (5, iv 0)] [] s3 Q)))) (fun e3 => False) o3)))) :
    wp S 216 12 [(0, rf 252), (1, iv x1), (2, iv x2), (3, iv x3)] [] s Q := by
  refine i_iload_n (x := x3) r_216_12 rfl rfl ?_
  obtain ⟨g1, h⟩ := h
  refine i_if (t := 80) r_216_13 (n_216_13 _) rfl (T_eq g1 ⟨by omega, by omega⟩) (fun c2 => ?_) (fun c2 => ?_)
  · replace h := h.1 c2
    refine i_iload_n (x := x2) r_216_80 (n_216_80 _) rfl ?_
    exact i_ireturn r_216_81 (n_216_81 _) rfl h
  · replace h := h.2 c2
    refine i_aload_n (a := 252) r_216_16 (n_216_16 _) rfl ?_
    refine i_iload_n (x := x1) r_216_17 (n_216_17 _) rfl ?_
    refine wp_virt (b := 252) (rest := []) (Ls := [(0, rf 252), (1, iv x1)]) r_216_18 (n_216_18 _) rfl ⟨rfl, rfl, by decide, by decide⟩ rfl rfl lf_252 ⟨rfl, Nat.le_of_ble_eq_true rfl, Nat.le_of_ble_eq_true rfl⟩ rfl h ?_
    intro o3 s3 h
    rcases h with ⟨y3, q4, rfl, h⟩ | ⟨e3, rfl, h⟩
    · refine .inl ⟨some (iv y3), rfl, ?_⟩
      show wp S 216 21 [(0, rf 252), (1, iv x1), (2, iv x2), (3, iv x3)] [iv y3] s3 Q
      refine i_istore (l' := [(0, rf 252), (1, iv x1), (2, iv x2), (3, iv x3), (4, iv y3)]) r_216_21 (n_216_21 _) (by decide) rfl ?_
      refine i_iload_n (x := x2) r_216_23 (n_216_23 _) rfl ?_
      refine i_iconst r_216_24 (n_216_24 _) ?_
      obtain ⟨g5, h⟩ := h
      refine i_icmp (t := 34) r_216_25 (n_216_25 _) rfl (T_eq g5 ⟨by omega, by omega⟩) (fun c6 => ?_) (fun c6 => ?_)
      · replace h := h.1 c6
        refine i_iload (x := y3) r_216_34 (n_216_34 _) rfl ?_
        refine i_istore_n (l' := [(0, rf 252), (1, iv x1), (2, iv y3), (3, iv x3), (4, iv y3)]) r_216_36 (n_216_36 _) (by decide) rfl ?_
        refine i_iconst r_216_37 (n_216_37 _) ?_
        refine i_istore (l' := [(0, rf 252), (1, iv x1), (2, iv y3), (3, iv x3), (4, iv y3), (5, iv 0)]) r_216_38 (n_216_38 _) (by decide) rfl ?_
        exact wp_pr (l' := [(0, rf 252), (1, iv x1), (2, iv y3), (5, iv 0)]) rfl h
      · replace h := h.2 c6
        refine i_iload (x := y3) r_216_28 (n_216_28 _) rfl ?_
        refine i_iload_n (x := x2) r_216_30 (n_216_30 _) rfl ?_
        refine i_icmp (t := 67) r_216_31 (n_216_31 _) rfl (T_ge q4 g5) (fun c7 => ?_) (fun c7 => ?_)
        · replace h := h.1 c7
          refine i_aload_n (a := 252) r_216_67 (n_216_67 _) rfl ?_
          refine i_aload_n (a := 252) r_216_68 (n_216_68 _) rfl ?_
          refine i_iload_n (x := x1) r_216_69 (n_216_69 _) rfl ?_
          obtain ⟨g8, h⟩ := h
          refine wp_virt (b := 252) (rest := [rf 252]) (Ls := [(0, rf 252), (1, iv x1)]) r_216_70 (n_216_70 _) rfl ⟨rfl, rfl, by decide, by decide⟩ rfl rfl lf_252 ⟨rfl, Nat.le_of_ble_eq_true rfl, Nat.le_of_ble_eq_true rfl⟩ rfl (K_Model_fieldsOf g8) ?_
          rintro _ _ ⟨rfl, rfl⟩
          refine .inl ⟨some (iv (zI s3 253 ((1 + (26 * x1)) + 1))), rfl, ?_⟩
          show wp S 216 73 [(0, rf 252), (1, iv x1), (2, iv x2), (3, iv x3), (4, iv y3)] [iv (zI s3 253 ((1 + (26 * x1)) + 1)), rf 252] s3 Q
          refine wp_rd (a := 253) (j := ((1 + (26 * x1)) + 1)) (fun q10 => ?_)
          refine wp_virt (b := 252) (rest := []) (Ls := [(0, rf 252), (1, iv (zI s3 253 ((1 + (26 * x1)) + 1)))]) r_216_73 (n_216_73 _) rfl ⟨rfl, rfl, by decide, by decide⟩ rfl rfl lf_252 ⟨rfl, Nat.le_of_ble_eq_true rfl, Nat.le_of_ble_eq_true rfl⟩ rfl h ?_
          intro o11 s11 h
          rcases h with ⟨y11, q12, rfl, h⟩ | ⟨e11, rfl, h⟩
          · refine .inl ⟨some (iv y11), rfl, ?_⟩
            show wp S 216 76 [(0, rf 252), (1, iv x1), (2, iv x2), (3, iv x3), (4, iv y3)] [iv y11] s11 Q
            refine i_istore_n (l' := [(0, rf 252), (1, iv x1), (2, iv x2), (3, iv y11), (4, iv y3)]) r_216_76 (n_216_76 _) (by decide) rfl ?_
            refine i_goto (t := 12) r_216_77 (n_216_77 _) rfl ?_
            exact wp_pr (l' := [(0, rf 252), (1, iv x1), (2, iv x2), (3, iv y11)]) rfl h
          · skip
            exact h.elim
        · replace h := h.2 c7
          refine i_iload (x := y3) r_216_34 (n_216_34 _) rfl ?_
          refine i_istore_n (l' := [(0, rf 252), (1, iv x1), (2, iv y3), (3, iv x3), (4, iv y3)]) r_216_36 (n_216_36 _) (by decide) rfl ?_
          refine i_iconst r_216_37 (n_216_37 _) ?_
          refine i_istore (l' := [(0, rf 252), (1, iv x1), (2, iv y3), (3, iv x3), (4, iv y3), (5, iv 0)]) r_216_38 (n_216_38 _) (by decide) rfl ?_
          exact wp_pr (l' := [(0, rf 252), (1, iv x1), (2, iv y3), (5, iv 0)]) rfl h
    · skip
      exact h.elim
theorem v_Model_laysBest_40 {S : Option (Nat × (Nat → Int32))} {s : zSt} {Q : Option Value ⊕ Nat → zSt → Prop} {x1 : Int} {x2 : Int} {x5 : Int} 
    (h : rng x5 ∧ ((8 ≤ x5 → (0 ≤ ((1 + (26 * x1)) + 1) ∧ ((1 + (26 * x1)) + 1) < 1199) ∧ (wp S 217 0 [(0, rf 252), (1, iv (zI s 253 ((1 + (26 * x1)) + 1)))] [] s (fun o6 s6 => zkI (fun y6 => wp S 216 12 [(0, rf 252), (1, iv x1), (2, iv x2), (3, iv y6)] [] s6 Q) (fun e6 => False) o6))) ∧ (x5 < 8 → (0 ≤ x5 ∧ x5 < 8) ∧ (wp S 216 40 [(0, rf 252), (1, iv x1), (2, iv x2), (5, iv (x5 + 1))] [] (zwI s 268 x5 (zI s 265 x5)) Q)))) :
    wp S 216 40 [(0, rf 252), (1, iv x1), (2, iv x2), (5, iv x5)] [] s Q := by
  refine i_iload (x := x5) r_216_40 rfl rfl ?_
  refine i_bipush r_216_42 (n_216_42 _) rfl ?_
  obtain ⟨g1, h⟩ := h
  refine i_icmp (t := 67) r_216_44 (n_216_44 _) rfl (T_ge g1 ⟨by omega, by omega⟩) (fun c2 => ?_) (fun c2 => ?_)
  · replace h := h.1 c2
    refine i_aload_n (a := 252) r_216_67 (n_216_67 _) rfl ?_
    refine i_aload_n (a := 252) r_216_68 (n_216_68 _) rfl ?_
    refine i_iload_n (x := x1) r_216_69 (n_216_69 _) rfl ?_
    obtain ⟨g3, h⟩ := h
    refine wp_virt (b := 252) (rest := [rf 252]) (Ls := [(0, rf 252), (1, iv x1)]) r_216_70 (n_216_70 _) rfl ⟨rfl, rfl, by decide, by decide⟩ rfl rfl lf_252 ⟨rfl, Nat.le_of_ble_eq_true rfl, Nat.le_of_ble_eq_true rfl⟩ rfl (K_Model_fieldsOf g3) ?_
    rintro _ _ ⟨rfl, rfl⟩
    refine .inl ⟨some (iv (zI s 253 ((1 + (26 * x1)) + 1))), rfl, ?_⟩
    show wp S 216 73 [(0, rf 252), (1, iv x1), (2, iv x2), (5, iv x5)] [iv (zI s 253 ((1 + (26 * x1)) + 1)), rf 252] s Q
    refine wp_rd (a := 253) (j := ((1 + (26 * x1)) + 1)) (fun q5 => ?_)
    refine wp_virt (b := 252) (rest := []) (Ls := [(0, rf 252), (1, iv (zI s 253 ((1 + (26 * x1)) + 1)))]) r_216_73 (n_216_73 _) rfl ⟨rfl, rfl, by decide, by decide⟩ rfl rfl lf_252 ⟨rfl, Nat.le_of_ble_eq_true rfl, Nat.le_of_ble_eq_true rfl⟩ rfl h ?_
    intro o6 s6 h
    rcases h with ⟨y6, q7, rfl, h⟩ | ⟨e6, rfl, h⟩
    · refine .inl ⟨some (iv y6), rfl, ?_⟩
      show wp S 216 76 [(0, rf 252), (1, iv x1), (2, iv x2), (5, iv x5)] [iv y6] s6 Q
      refine i_istore_n (l' := [(0, rf 252), (1, iv x1), (2, iv x2), (3, iv y6), (5, iv x5)]) r_216_76 (n_216_76 _) (by decide) rfl ?_
      refine i_goto (t := 12) r_216_77 (n_216_77 _) rfl ?_
      exact wp_pr (l' := [(0, rf 252), (1, iv x1), (2, iv x2), (3, iv y6)]) rfl h
    · skip
      exact h.elim
  · replace h := h.2 c2
    refine i_aload_n (a := 252) r_216_47 (n_216_47 _) rfl ?_
    refine i_getR (a := 252) (b := 268) r_216_48 (n_216_48 _) rfl rfl rfl (by omega) lf_252 (by omega) ?_
    refine i_iload (x := x5) r_216_51 (n_216_51 _) rfl ?_
    refine i_aload_n (a := 252) r_216_53 (n_216_53 _) rfl ?_
    refine i_getR (a := 252) (b := 265) r_216_54 (n_216_54 _) rfl rfl rfl (by omega) lf_252 (by omega) ?_
    refine i_iload (x := x5) r_216_57 (n_216_57 _) rfl ?_
    obtain ⟨g8, h⟩ := h
    refine i_iaload (a := 265) (j := x5) r_216_59 (n_216_59 _) lf_265 ⟨by omega, by omega⟩ (by omega) (by omega) (fun q9 => ?_)
    refine i_iastore (a := 268) (j := x5) (x := zI s 265 x5) r_216_60 (n_216_60 _) lf_268 ⟨by omega, by omega⟩ (by omega) (by omega) q9 ?_
    refine i_iinc (x := x5) (l' := [(0, rf 252), (1, iv x1), (2, iv x2), (5, iv (x5 + 1))]) r_216_61 (n_216_61 _) (by decide) rfl rfl ?_
    refine i_goto (t := 40) r_216_64 (n_216_64 _) rfl ?_
    exact wp_pr (l' := [(0, rf 252), (1, iv x1), (2, iv x2), (5, iv (x5 + 1))]) rfl h
theorem r_217_0 : xfetch 217 0 = some (.iload_n 1, 1) := by decide +kernel
theorem n_217_0 : ∀ l, xpr 217 0 l = l := xpr_no (by decide +kernel)
theorem r_217_1 : xfetch 217 1 = some (.iconst 2, 1) := by decide +kernel
theorem n_217_1 : ∀ l, xpr 217 1 l = l := xpr_no (by decide +kernel)
theorem r_217_2 : xfetch 217 2 = some (.isub, 1) := by decide +kernel
theorem n_217_2 : ∀ l, xpr 217 2 l = l := xpr_no (by decide +kernel)
theorem r_217_3 : xfetch 217 3 = some (.istore_n 2, 1) := by decide +kernel
theorem n_217_3 : ∀ l, xpr 217 3 l = l := xpr_no (by decide +kernel)
theorem r_217_4 : xfetch 217 4 = some (.iload_n 2, 1) := by decide +kernel
theorem r_217_5 : xfetch 217 5 = some (.ifCond .lt 26, 3) := by decide +kernel
theorem n_217_5 : ∀ l, xpr 217 5 l = l := xpr_no (by decide +kernel)
theorem r_217_8 : xfetch 217 8 = some (.aload_n 0, 1) := by decide +kernel
theorem n_217_8 : ∀ l, xpr 217 8 l = l := xpr_no (by decide +kernel)
theorem r_217_9 : xfetch 217 9 = some (.getfield 46, 3) := by decide +kernel
theorem n_217_9 : ∀ l, xpr 217 9 l = l := xpr_no (by decide +kernel)
theorem r_217_12 : xfetch 217 12 = some (.iload_n 2, 1) := by decide +kernel
theorem n_217_12 : ∀ l, xpr 217 12 l = l := xpr_no (by decide +kernel)
theorem r_217_13 : xfetch 217 13 = some (.iaload, 1) := by decide +kernel
theorem n_217_13 : ∀ l, xpr 217 13 l = l := xpr_no (by decide +kernel)
theorem r_217_14 : xfetch 217 14 = some (.aload_n 0, 1) := by decide +kernel
theorem n_217_14 : ∀ l, xpr 217 14 l = l := xpr_no (by decide +kernel)
theorem r_217_15 : xfetch 217 15 = some (.getfield 46, 3) := by decide +kernel
theorem n_217_15 : ∀ l, xpr 217 15 l = l := xpr_no (by decide +kernel)
theorem r_217_18 : xfetch 217 18 = some (.iload_n 2, 1) := by decide +kernel
theorem n_217_18 : ∀ l, xpr 217 18 l = l := xpr_no (by decide +kernel)
theorem r_217_19 : xfetch 217 19 = some (.iconst 1, 1) := by decide +kernel
theorem n_217_19 : ∀ l, xpr 217 19 l = l := xpr_no (by decide +kernel)
theorem r_217_20 : xfetch 217 20 = some (.iadd, 1) := by decide +kernel
theorem n_217_20 : ∀ l, xpr 217 20 l = l := xpr_no (by decide +kernel)
theorem r_217_21 : xfetch 217 21 = some (.iaload, 1) := by decide +kernel
theorem n_217_21 : ∀ l, xpr 217 21 l = l := xpr_no (by decide +kernel)
theorem r_217_22 : xfetch 217 22 = some (.if_icmp .le 9, 3) := by decide +kernel
theorem n_217_22 : ∀ l, xpr 217 22 l = l := xpr_no (by decide +kernel)
theorem r_217_25 : xfetch 217 25 = some (.iinc 2 (-1), 3) := by decide +kernel
theorem n_217_25 : ∀ l, xpr 217 25 l = l := xpr_no (by decide +kernel)
theorem r_217_28 : xfetch 217 28 = some (.goto (-24), 3) := by decide +kernel
theorem n_217_28 : ∀ l, xpr 217 28 l = l := xpr_no (by decide +kernel)
theorem r_217_31 : xfetch 217 31 = some (.iload_n 2, 1) := by decide +kernel
theorem n_217_31 : ∀ l, xpr 217 31 l = l := xpr_no (by decide +kernel)
theorem r_217_32 : xfetch 217 32 = some (.ifCond .ge 5, 3) := by decide +kernel
theorem n_217_32 : ∀ l, xpr 217 32 l = l := xpr_no (by decide +kernel)
theorem r_217_35 : xfetch 217 35 = some (.iconst 0, 1) := by decide +kernel
theorem n_217_35 : ∀ l, xpr 217 35 l = l := xpr_no (by decide +kernel)
theorem r_217_36 : xfetch 217 36 = some (.ireturn, 1) := by decide +kernel
theorem n_217_36 : ∀ l, xpr 217 36 l = l := xpr_no (by decide +kernel)
theorem r_217_37 : xfetch 217 37 = some (.iload_n 1, 1) := by decide +kernel
theorem n_217_37 : ∀ l, xpr 217 37 l = l := xpr_no (by decide +kernel)
theorem r_217_38 : xfetch 217 38 = some (.iconst 1, 1) := by decide +kernel
theorem n_217_38 : ∀ l, xpr 217 38 l = l := xpr_no (by decide +kernel)
theorem r_217_39 : xfetch 217 39 = some (.isub, 1) := by decide +kernel
theorem n_217_39 : ∀ l, xpr 217 39 l = l := xpr_no (by decide +kernel)
theorem r_217_40 : xfetch 217 40 = some (.istore_n 3, 1) := by decide +kernel
theorem n_217_40 : ∀ l, xpr 217 40 l = l := xpr_no (by decide +kernel)
theorem r_217_41 : xfetch 217 41 = some (.aload_n 0, 1) := by decide +kernel
theorem r_217_42 : xfetch 217 42 = some (.getfield 46, 3) := by decide +kernel
theorem n_217_42 : ∀ l, xpr 217 42 l = l := xpr_no (by decide +kernel)
theorem r_217_45 : xfetch 217 45 = some (.iload_n 3, 1) := by decide +kernel
theorem n_217_45 : ∀ l, xpr 217 45 l = l := xpr_no (by decide +kernel)
theorem r_217_46 : xfetch 217 46 = some (.iaload, 1) := by decide +kernel
theorem n_217_46 : ∀ l, xpr 217 46 l = l := xpr_no (by decide +kernel)
theorem r_217_47 : xfetch 217 47 = some (.aload_n 0, 1) := by decide +kernel
theorem n_217_47 : ∀ l, xpr 217 47 l = l := xpr_no (by decide +kernel)
theorem r_217_48 : xfetch 217 48 = some (.getfield 46, 3) := by decide +kernel
theorem n_217_48 : ∀ l, xpr 217 48 l = l := xpr_no (by decide +kernel)
theorem r_217_51 : xfetch 217 51 = some (.iload_n 2, 1) := by decide +kernel
theorem n_217_51 : ∀ l, xpr 217 51 l = l := xpr_no (by decide +kernel)
theorem r_217_52 : xfetch 217 52 = some (.iaload, 1) := by decide +kernel
theorem n_217_52 : ∀ l, xpr 217 52 l = l := xpr_no (by decide +kernel)
theorem r_217_53 : xfetch 217 53 = some (.if_icmp .ge 9, 3) := by decide +kernel
theorem n_217_53 : ∀ l, xpr 217 53 l = l := xpr_no (by decide +kernel)
theorem r_217_56 : xfetch 217 56 = some (.iinc 3 (-1), 3) := by decide +kernel
theorem n_217_56 : ∀ l, xpr 217 56 l = l := xpr_no (by decide +kernel)
theorem r_217_59 : xfetch 217 59 = some (.goto (-18), 3) := by decide +kernel
theorem n_217_59 : ∀ l, xpr 217 59 l = l := xpr_no (by decide +kernel)
theorem r_217_62 : xfetch 217 62 = some (.aload_n 0, 1) := by decide +kernel
theorem n_217_62 : ∀ l, xpr 217 62 l = l := xpr_no (by decide +kernel)
theorem r_217_63 : xfetch 217 63 = some (.iload_n 2, 1) := by decide +kernel
theorem n_217_63 : ∀ l, xpr 217 63 l = l := xpr_no (by decide +kernel)
theorem r_217_64 : xfetch 217 64 = some (.iload_n 3, 1) := by decide +kernel
theorem n_217_64 : ∀ l, xpr 217 64 l = l := xpr_no (by decide +kernel)
theorem r_217_65 : xfetch 217 65 = some (.invokevirtual 182, 3) := by decide +kernel
theorem n_217_65 : ∀ l, xpr 217 65 l = l := xpr_no (by decide +kernel)
theorem r_217_68 : xfetch 217 68 = some (.iload_n 2, 1) := by decide +kernel
theorem n_217_68 : ∀ l, xpr 217 68 l = l := xpr_no (by decide +kernel)
theorem r_217_69 : xfetch 217 69 = some (.iconst 1, 1) := by decide +kernel
theorem n_217_69 : ∀ l, xpr 217 69 l = l := xpr_no (by decide +kernel)
theorem r_217_70 : xfetch 217 70 = some (.iadd, 1) := by decide +kernel
theorem n_217_70 : ∀ l, xpr 217 70 l = l := xpr_no (by decide +kernel)
theorem r_217_71 : xfetch 217 71 = some (.istore 4, 2) := by decide +kernel
theorem n_217_71 : ∀ l, xpr 217 71 l = l := xpr_no (by decide +kernel)
theorem r_217_73 : xfetch 217 73 = some (.iload_n 1, 1) := by decide +kernel
theorem n_217_73 : ∀ l, xpr 217 73 l = l := xpr_no (by decide +kernel)
theorem r_217_74 : xfetch 217 74 = some (.iconst 1, 1) := by decide +kernel
theorem n_217_74 : ∀ l, xpr 217 74 l = l := xpr_no (by decide +kernel)
theorem r_217_75 : xfetch 217 75 = some (.isub, 1) := by decide +kernel
theorem n_217_75 : ∀ l, xpr 217 75 l = l := xpr_no (by decide +kernel)
theorem r_217_76 : xfetch 217 76 = some (.istore 5, 2) := by decide +kernel
theorem n_217_76 : ∀ l, xpr 217 76 l = l := xpr_no (by decide +kernel)
theorem r_217_78 : xfetch 217 78 = some (.iload 4, 2) := by decide +kernel
theorem r_217_80 : xfetch 217 80 = some (.iload 5, 2) := by decide +kernel
theorem n_217_80 : ∀ l, xpr 217 80 l = l := xpr_no (by decide +kernel)
theorem r_217_82 : xfetch 217 82 = some (.if_icmp .ge 20, 3) := by decide +kernel
theorem n_217_82 : ∀ l, xpr 217 82 l = l := xpr_no (by decide +kernel)
theorem r_217_85 : xfetch 217 85 = some (.aload_n 0, 1) := by decide +kernel
theorem n_217_85 : ∀ l, xpr 217 85 l = l := xpr_no (by decide +kernel)
theorem r_217_86 : xfetch 217 86 = some (.iload 4, 2) := by decide +kernel
theorem n_217_86 : ∀ l, xpr 217 86 l = l := xpr_no (by decide +kernel)
theorem r_217_88 : xfetch 217 88 = some (.iload 5, 2) := by decide +kernel
theorem n_217_88 : ∀ l, xpr 217 88 l = l := xpr_no (by decide +kernel)
theorem r_217_90 : xfetch 217 90 = some (.invokevirtual 182, 3) := by decide +kernel
theorem n_217_90 : ∀ l, xpr 217 90 l = l := xpr_no (by decide +kernel)
theorem r_217_93 : xfetch 217 93 = some (.iinc 4 1, 3) := by decide +kernel
theorem n_217_93 : ∀ l, xpr 217 93 l = l := xpr_no (by decide +kernel)
theorem r_217_96 : xfetch 217 96 = some (.iinc 5 (-1), 3) := by decide +kernel
theorem n_217_96 : ∀ l, xpr 217 96 l = l := xpr_no (by decide +kernel)
theorem r_217_99 : xfetch 217 99 = some (.goto (-21), 3) := by decide +kernel
theorem n_217_99 : ∀ l, xpr 217 99 l = l := xpr_no (by decide +kernel)
theorem r_217_102 : xfetch 217 102 = some (.iconst 1, 1) := by decide +kernel
theorem n_217_102 : ∀ l, xpr 217 102 l = l := xpr_no (by decide +kernel)
theorem r_217_103 : xfetch 217 103 = some (.ireturn, 1) := by decide +kernel
theorem n_217_103 : ∀ l, xpr 217 103 l = l := xpr_no (by decide +kernel)
theorem v_Model_turns_0 {S : Option (Nat × (Nat → Int32))} {s : zSt} {Q : Option Value ⊕ Nat → zSt → Prop} {x1 : Int} 
    (h : wp S 217 4 [(0, rf 252), (1, iv x1), (2, iv (x1 - 2))] [] s Q) :
    wp S 217 0 [(0, rf 252), (1, iv x1)] [] s Q := by
  refine i_iload_n (x := x1) r_217_0 (n_217_0 _) rfl ?_
  refine i_iconst r_217_1 (n_217_1 _) ?_
  refine i_isub r_217_2 (n_217_2 _) ?_
  refine i_istore_n (l' := [(0, rf 252), (1, iv x1), (2, iv (x1 - 2))]) r_217_3 (n_217_3 _) (by decide) rfl ?_
  exact wp_pr (l' := [(0, rf 252), (1, iv x1), (2, iv (x1 - 2))]) rfl h
theorem v_Model_turns_4 {S : Option (Nat × (Nat → Int32))} {s : zSt} {Q : Option Value ⊕ Nat → zSt → Prop} {x1 : Int} {x2 : Int} 
    (h : rng x2 ∧ ((x2 < 0 → (0 ≤ x2 → wp S 217 41 [(0, rf 252), (1, iv x1), (2, iv x2), (3, iv (x1 - 1))] [] s Q) ∧ (x2 < 0 → Q (rI 0) s)) ∧ (0 ≤ x2 → (0 ≤ x2 ∧ x2 < 8) ∧ ((0 ≤ (x2 + 1) ∧ (x2 + 1) < 8) ∧ (((zI s 265 x2) ≤ (zI s 265 (x2 + 1)) → (0 ≤ x2 → wp S 217 41 [(0, rf 252), (1, iv x1), (2, iv x2), (3, iv (x1 - 1))] [] s Q) ∧ (x2 < 0 → Q (rI 0) s)) ∧ ((zI s 265 (x2 + 1)) < (zI s 265 x2) → wp S 217 4 [(0, rf 252), (1, iv x1), (2, iv (x2 + (-1)))] [] s Q)))))) :
    wp S 217 4 [(0, rf 252), (1, iv x1), (2, iv x2)] [] s Q := by
  refine i_iload_n (x := x2) r_217_4 rfl rfl ?_
  obtain ⟨g1, h⟩ := h
  refine i_if (t := 31) r_217_5 (n_217_5 _) rfl (T_lt g1 ⟨by omega, by omega⟩) (fun c2 => ?_) (fun c2 => ?_)
  · replace h := h.1 c2
    refine i_iload_n (x := x2) r_217_31 (n_217_31 _) rfl ?_
    refine i_if (t := 37) r_217_32 (n_217_32 _) rfl (T_ge g1 ⟨by omega, by omega⟩) (fun c3 => ?_) (fun c3 => ?_)
    · replace h := h.1 c3
      refine i_iload_n (x := x1) r_217_37 (n_217_37 _) rfl ?_
      refine i_iconst r_217_38 (n_217_38 _) ?_
      refine i_isub r_217_39 (n_217_39 _) ?_
      refine i_istore_n (l' := [(0, rf 252), (1, iv x1), (2, iv x2), (3, iv (x1 - 1))]) r_217_40 (n_217_40 _) (by decide) rfl ?_
      exact wp_pr (l' := [(0, rf 252), (1, iv x1), (2, iv x2), (3, iv (x1 - 1))]) rfl h
    · replace h := h.2 c3
      refine i_iconst r_217_35 (n_217_35 _) ?_
      exact i_zreturn r_217_36 (n_217_36 _) rfl (by decide) h
  · replace h := h.2 c2
    refine i_aload_n (a := 252) r_217_8 (n_217_8 _) rfl ?_
    refine i_getR (a := 252) (b := 265) r_217_9 (n_217_9 _) rfl rfl rfl (by omega) lf_252 (by omega) ?_
    refine i_iload_n (x := x2) r_217_12 (n_217_12 _) rfl ?_
    obtain ⟨g4, h⟩ := h
    refine i_iaload (a := 265) (j := x2) r_217_13 (n_217_13 _) lf_265 ⟨by omega, by omega⟩ (by omega) (by omega) (fun q5 => ?_)
    refine i_aload_n (a := 252) r_217_14 (n_217_14 _) rfl ?_
    refine i_getR (a := 252) (b := 265) r_217_15 (n_217_15 _) rfl rfl rfl (by omega) lf_252 (by omega) ?_
    refine i_iload_n (x := x2) r_217_18 (n_217_18 _) rfl ?_
    refine i_iconst r_217_19 (n_217_19 _) ?_
    refine i_iadd r_217_20 (n_217_20 _) ?_
    obtain ⟨g6, h⟩ := h
    refine i_iaload (a := 265) (j := x2 + 1) r_217_21 (n_217_21 _) lf_265 ⟨by omega, by omega⟩ (by omega) (by omega) (fun q7 => ?_)
    refine i_icmp (t := 31) r_217_22 (n_217_22 _) rfl (T_le q5 q7) (fun c8 => ?_) (fun c8 => ?_)
    · replace h := h.1 c8
      refine i_iload_n (x := x2) r_217_31 (n_217_31 _) rfl ?_
      refine i_if (t := 37) r_217_32 (n_217_32 _) rfl (T_ge g1 ⟨by omega, by omega⟩) (fun c9 => ?_) (fun c9 => ?_)
      · replace h := h.1 c9
        refine i_iload_n (x := x1) r_217_37 (n_217_37 _) rfl ?_
        refine i_iconst r_217_38 (n_217_38 _) ?_
        refine i_isub r_217_39 (n_217_39 _) ?_
        refine i_istore_n (l' := [(0, rf 252), (1, iv x1), (2, iv x2), (3, iv (x1 - 1))]) r_217_40 (n_217_40 _) (by decide) rfl ?_
        exact wp_pr (l' := [(0, rf 252), (1, iv x1), (2, iv x2), (3, iv (x1 - 1))]) rfl h
      · replace h := h.2 c9
        refine i_iconst r_217_35 (n_217_35 _) ?_
        exact i_zreturn r_217_36 (n_217_36 _) rfl (by decide) h
    · replace h := h.2 c8
      refine i_iinc (x := x2) (l' := [(0, rf 252), (1, iv x1), (2, iv (x2 + (-1)))]) r_217_25 (n_217_25 _) (by decide) rfl rfl ?_
      refine i_goto (t := 4) r_217_28 (n_217_28 _) rfl ?_
      exact wp_pr (l' := [(0, rf 252), (1, iv x1), (2, iv (x2 + (-1)))]) rfl h
theorem v_Model_turns_41 {S : Option (Nat × (Nat → Int32))} {s : zSt} {Q : Option Value ⊕ Nat → zSt → Prop} {x1 : Int} {x2 : Int} {x3 : Int} 
    (h : (0 ≤ x3 ∧ x3 < 8) ∧ ((0 ≤ x2 ∧ x2 < 8) ∧ (((zI s 265 x2) ≤ (zI s 265 x3) → wp S 217 78 [(0, rf 252), (4, iv (x2 + 1)), (5, iv (x1 - 1))] [] (zwI (zwI s 265 x2 (zI s 265 x3)) 265 x3 (zI s 265 x2)) Q) ∧ ((zI s 265 x3) < (zI s 265 x2) → wp S 217 41 [(0, rf 252), (1, iv x1), (2, iv x2), (3, iv (x3 + (-1)))] [] s Q)))) :
    wp S 217 41 [(0, rf 252), (1, iv x1), (2, iv x2), (3, iv x3)] [] s Q := by
  refine i_aload_n (a := 252) r_217_41 rfl rfl ?_
  refine i_getR (a := 252) (b := 265) r_217_42 (n_217_42 _) rfl rfl rfl (by omega) lf_252 (by omega) ?_
  refine i_iload_n (x := x3) r_217_45 (n_217_45 _) rfl ?_
  obtain ⟨g1, h⟩ := h
  refine i_iaload (a := 265) (j := x3) r_217_46 (n_217_46 _) lf_265 ⟨by omega, by omega⟩ (by omega) (by omega) (fun q2 => ?_)
  refine i_aload_n (a := 252) r_217_47 (n_217_47 _) rfl ?_
  refine i_getR (a := 252) (b := 265) r_217_48 (n_217_48 _) rfl rfl rfl (by omega) lf_252 (by omega) ?_
  refine i_iload_n (x := x2) r_217_51 (n_217_51 _) rfl ?_
  obtain ⟨g3, h⟩ := h
  refine i_iaload (a := 265) (j := x2) r_217_52 (n_217_52 _) lf_265 ⟨by omega, by omega⟩ (by omega) (by omega) (fun q4 => ?_)
  refine i_icmp (t := 62) r_217_53 (n_217_53 _) rfl (T_ge q2 q4) (fun c5 => ?_) (fun c5 => ?_)
  · replace h := h.1 c5
    refine i_aload_n (a := 252) r_217_62 (n_217_62 _) rfl ?_
    refine i_iload_n (x := x2) r_217_63 (n_217_63 _) rfl ?_
    refine i_iload_n (x := x3) r_217_64 (n_217_64 _) rfl ?_
    refine wp_virt (b := 252) (rest := []) (Ls := [(0, rf 252), (1, iv x2), (2, iv x3)]) r_217_65 (n_217_65 _) rfl ⟨rfl, rfl, by decide, by decide⟩ rfl rfl lf_252 ⟨rfl, Nat.le_of_ble_eq_true rfl, Nat.le_of_ble_eq_true rfl⟩ rfl (K_Model_swaps g3 g1) ?_
    rintro _ _ ⟨rfl, rfl⟩
    refine .inl ⟨none, rfl, ?_⟩
    show wp S 217 68 [(0, rf 252), (1, iv x1), (2, iv x2), (3, iv x3)] [] (zwI (zwI s 265 x2 (zI s 265 x3)) 265 x3 (zI s 265 x2)) Q
    refine i_iload_n (x := x2) r_217_68 (n_217_68 _) rfl ?_
    refine i_iconst r_217_69 (n_217_69 _) ?_
    refine i_iadd r_217_70 (n_217_70 _) ?_
    refine i_istore (l' := [(0, rf 252), (1, iv x1), (2, iv x2), (3, iv x3), (4, iv (x2 + 1))]) r_217_71 (n_217_71 _) (by decide) rfl ?_
    refine i_iload_n (x := x1) r_217_73 (n_217_73 _) rfl ?_
    refine i_iconst r_217_74 (n_217_74 _) ?_
    refine i_isub r_217_75 (n_217_75 _) ?_
    refine i_istore (l' := [(0, rf 252), (1, iv x1), (2, iv x2), (3, iv x3), (4, iv (x2 + 1)), (5, iv (x1 - 1))]) r_217_76 (n_217_76 _) (by decide) rfl ?_
    exact wp_pr (l' := [(0, rf 252), (4, iv (x2 + 1)), (5, iv (x1 - 1))]) rfl h
  · replace h := h.2 c5
    refine i_iinc (x := x3) (l' := [(0, rf 252), (1, iv x1), (2, iv x2), (3, iv (x3 + (-1)))]) r_217_56 (n_217_56 _) (by decide) rfl rfl ?_
    refine i_goto (t := 41) r_217_59 (n_217_59 _) rfl ?_
    exact wp_pr (l' := [(0, rf 252), (1, iv x1), (2, iv x2), (3, iv (x3 + (-1)))]) rfl h
theorem v_Model_turns_78 {S : Option (Nat × (Nat → Int32))} {s : zSt} {Q : Option Value ⊕ Nat → zSt → Prop} {x4 : Int} {x5 : Int} 
    (h : rng x4 ∧ (rng x5 ∧ ((x5 ≤ x4 → Q (rI 1) s) ∧ (x4 < x5 → (0 ≤ x4 ∧ x4 < 8) ∧ ((0 ≤ x5 ∧ x5 < 8) ∧ (wp S 217 78 [(0, rf 252), (4, iv (x4 + 1)), (5, iv (x5 + (-1)))] [] (zwI (zwI s 265 x4 (zI s 265 x5)) 265 x5 (zI s 265 x4)) Q)))))) :
    wp S 217 78 [(0, rf 252), (4, iv x4), (5, iv x5)] [] s Q := by
  refine i_iload (x := x4) r_217_78 rfl rfl ?_
  refine i_iload (x := x5) r_217_80 (n_217_80 _) rfl ?_
  obtain ⟨g1, h⟩ := h
  obtain ⟨g2, h⟩ := h
  refine i_icmp (t := 102) r_217_82 (n_217_82 _) rfl (T_ge g1 g2) (fun c3 => ?_) (fun c3 => ?_)
  · replace h := h.1 c3
    refine i_iconst r_217_102 (n_217_102 _) ?_
    exact i_zreturn r_217_103 (n_217_103 _) rfl (by decide) h
  · replace h := h.2 c3
    refine i_aload_n (a := 252) r_217_85 (n_217_85 _) rfl ?_
    refine i_iload (x := x4) r_217_86 (n_217_86 _) rfl ?_
    refine i_iload (x := x5) r_217_88 (n_217_88 _) rfl ?_
    obtain ⟨g4, h⟩ := h
    obtain ⟨g5, h⟩ := h
    refine wp_virt (b := 252) (rest := []) (Ls := [(0, rf 252), (1, iv x4), (2, iv x5)]) r_217_90 (n_217_90 _) rfl ⟨rfl, rfl, by decide, by decide⟩ rfl rfl lf_252 ⟨rfl, Nat.le_of_ble_eq_true rfl, Nat.le_of_ble_eq_true rfl⟩ rfl (K_Model_swaps g4 g5) ?_
    rintro _ _ ⟨rfl, rfl⟩
    refine .inl ⟨none, rfl, ?_⟩
    show wp S 217 93 [(0, rf 252), (4, iv x4), (5, iv x5)] [] (zwI (zwI s 265 x4 (zI s 265 x5)) 265 x5 (zI s 265 x4)) Q
    refine i_iinc (x := x4) (l' := [(0, rf 252), (4, iv (x4 + 1)), (5, iv x5)]) r_217_93 (n_217_93 _) (by decide) rfl rfl ?_
    refine i_iinc (x := x5) (l' := [(0, rf 252), (4, iv (x4 + 1)), (5, iv (x5 + (-1)))]) r_217_96 (n_217_96 _) (by decide) rfl rfl ?_
    refine i_goto (t := 78) r_217_99 (n_217_99 _) rfl ?_
    exact wp_pr (l' := [(0, rf 252), (4, iv (x4 + 1)), (5, iv (x5 + (-1)))]) rfl h
theorem r_219_0 : xfetch 219 0 = some (.aload_n 0, 1) := by decide +kernel
theorem n_219_0 : ∀ l, xpr 219 0 l = l := xpr_no (by decide +kernel)
theorem r_219_1 : xfetch 219 1 = some (.aload_n 0, 1) := by decide +kernel
theorem n_219_1 : ∀ l, xpr 219 1 l = l := xpr_no (by decide +kernel)
theorem r_219_2 : xfetch 219 2 = some (.aload_n 0, 1) := by decide +kernel
theorem n_219_2 : ∀ l, xpr 219 2 l = l := xpr_no (by decide +kernel)
theorem r_219_3 : xfetch 219 3 = some (.iload_n 1, 1) := by decide +kernel
theorem n_219_3 : ∀ l, xpr 219 3 l = l := xpr_no (by decide +kernel)
theorem r_219_4 : xfetch 219 4 = some (.invokevirtual 142, 3) := by decide +kernel
theorem n_219_4 : ∀ l, xpr 219 4 l = l := xpr_no (by decide +kernel)
theorem r_219_7 : xfetch 219 7 = some (.ifCond .eq 22, 3) := by decide +kernel
theorem n_219_7 : ∀ l, xpr 219 7 l = l := xpr_no (by decide +kernel)
theorem r_219_10 : xfetch 219 10 = some (.iload_n 2, 1) := by decide +kernel
theorem n_219_10 : ∀ l, xpr 219 10 l = l := xpr_no (by decide +kernel)
theorem r_219_11 : xfetch 219 11 = some (.iconst 0, 1) := by decide +kernel
theorem n_219_11 : ∀ l, xpr 219 11 l = l := xpr_no (by decide +kernel)
theorem r_219_12 : xfetch 219 12 = some (.aload_n 0, 1) := by decide +kernel
theorem n_219_12 : ∀ l, xpr 219 12 l = l := xpr_no (by decide +kernel)
theorem r_219_13 : xfetch 219 13 = some (.iload_n 1, 1) := by decide +kernel
theorem n_219_13 : ∀ l, xpr 219 13 l = l := xpr_no (by decide +kernel)
theorem r_219_14 : xfetch 219 14 = some (.invokevirtual 99, 3) := by decide +kernel
theorem n_219_14 : ∀ l, xpr 219 14 l = l := xpr_no (by decide +kernel)
theorem r_219_17 : xfetch 219 17 = some (.iconst 1, 1) := by decide +kernel
theorem n_219_17 : ∀ l, xpr 219 17 l = l := xpr_no (by decide +kernel)
theorem r_219_18 : xfetch 219 18 = some (.isub, 1) := by decide +kernel
theorem n_219_18 : ∀ l, xpr 219 18 l = l := xpr_no (by decide +kernel)
theorem r_219_19 : xfetch 219 19 = some (.invokestatic 88, 3) := by decide +kernel
theorem n_219_19 : ∀ l, xpr 219 19 l = l := xpr_no (by decide +kernel)
theorem r_219_22 : xfetch 219 22 = some (.ifCond .eq 7, 3) := by decide +kernel
theorem n_219_22 : ∀ l, xpr 219 22 l = l := xpr_no (by decide +kernel)
theorem r_219_25 : xfetch 219 25 = some (.iconst 1, 1) := by decide +kernel
theorem n_219_25 : ∀ l, xpr 219 25 l = l := xpr_no (by decide +kernel)
theorem r_219_26 : xfetch 219 26 = some (.goto 4, 3) := by decide +kernel
theorem n_219_26 : ∀ l, xpr 219 26 l = l := xpr_no (by decide +kernel)
theorem r_219_29 : xfetch 219 29 = some (.iconst 0, 1) := by decide +kernel
theorem n_219_29 : ∀ l, xpr 219 29 l = l := xpr_no (by decide +kernel)
theorem r_219_30 : xfetch 219 30 = some (.invokevirtual 175, 3) := by decide +kernel
theorem n_219_30 : ∀ l, xpr 219 30 l = l := xpr_no (by decide +kernel)
theorem r_219_33 : xfetch 219 33 = some (.invokevirtual 84, 3) := by decide +kernel
theorem n_219_33 : ∀ l, xpr 219 33 l = l := xpr_no (by decide +kernel)
theorem r_219_36 : xfetch 219 36 = some (.ifCond .eq 5, 3) := by decide +kernel
theorem n_219_36 : ∀ l, xpr 219 36 l = l := xpr_no (by decide +kernel)
theorem r_219_39 : xfetch 219 39 = some (.iconst 0, 1) := by decide +kernel
theorem n_219_39 : ∀ l, xpr 219 39 l = l := xpr_no (by decide +kernel)
theorem r_219_40 : xfetch 219 40 = some (.ireturn, 1) := by decide +kernel
theorem n_219_40 : ∀ l, xpr 219 40 l = l := xpr_no (by decide +kernel)
theorem r_219_41 : xfetch 219 41 = some (.aload_n 0, 1) := by decide +kernel
theorem n_219_41 : ∀ l, xpr 219 41 l = l := xpr_no (by decide +kernel)
theorem r_219_42 : xfetch 219 42 = some (.iload_n 1, 1) := by decide +kernel
theorem n_219_42 : ∀ l, xpr 219 42 l = l := xpr_no (by decide +kernel)
theorem r_219_43 : xfetch 219 43 = some (.invokevirtual 188, 3) := by decide +kernel
theorem n_219_43 : ∀ l, xpr 219 43 l = l := xpr_no (by decide +kernel)
theorem r_219_46 : xfetch 219 46 = some (.pop, 1) := by decide +kernel
theorem n_219_46 : ∀ l, xpr 219 46 l = l := xpr_no (by decide +kernel)
theorem r_219_47 : xfetch 219 47 = some (.aload_n 0, 1) := by decide +kernel
theorem n_219_47 : ∀ l, xpr 219 47 l = l := xpr_no (by decide +kernel)
theorem r_219_48 : xfetch 219 48 = some (.getfield 55, 3) := by decide +kernel
theorem n_219_48 : ∀ l, xpr 219 48 l = l := xpr_no (by decide +kernel)
theorem r_219_51 : xfetch 219 51 = some (.iload_n 2, 1) := by decide +kernel
theorem n_219_51 : ∀ l, xpr 219 51 l = l := xpr_no (by decide +kernel)
theorem r_219_52 : xfetch 219 52 = some (.iaload, 1) := by decide +kernel
theorem n_219_52 : ∀ l, xpr 219 52 l = l := xpr_no (by decide +kernel)
theorem r_219_53 : xfetch 219 53 = some (.ireturn, 1) := by decide +kernel
theorem n_219_53 : ∀ l, xpr 219 53 l = l := xpr_no (by decide +kernel)
theorem v_Model_bestOrder_0 {S : Option (Nat × (Nat → Int32))} {s : zSt} {Q : Option Value ⊕ Nat → zSt → Prop} {x1 : Int} {x2 : Int} 
    (h : rng x1 ∧ (rng ((zI s 253 0) - 1) ∧ ((¬ (0 ≤ x1 ∧ x1 ≤ ((zI s 253 0) - 1)) → Q (rI 0) (zwI s 252 3 1)) ∧ (0 ≤ x1 ∧ x1 ≤ ((zI s 253 0) - 1) → (0 ≤ ((1 + (26 * x1)) + 1) ∧ ((1 + (26 * x1)) + 1) < 1199) ∧ (rng x2 ∧ (rng ((zI s 253 ((1 + (26 * x1)) + 1)) - 1) ∧ ((¬ (0 ≤ x2 ∧ x2 ≤ ((zI s 253 ((1 + (26 * x1)) + 1)) - 1)) → Q (rI 0) (zwI s 252 3 1)) ∧ (0 ≤ x2 ∧ x2 ≤ ((zI s 253 ((1 + (26 * x1)) + 1)) - 1) → wp S 216 0 [(0, rf 252), (1, iv x1)] [] (zwI s 252 3 0) (fun o18 s18 => zkI (fun y18 => (0 ≤ x2 ∧ x2 < 8) ∧ (Q (rI (zI s18 268 x2)) s18)) (fun e18 => False) o18))))))))) :
    wp S 219 0 [(0, rf 252), (1, iv x1), (2, iv x2)] [] s Q := by
  refine i_aload_n (a := 252) r_219_0 (n_219_0 _) rfl ?_
  refine i_aload_n (a := 252) r_219_1 (n_219_1 _) rfl ?_
  refine i_aload_n (a := 252) r_219_2 (n_219_2 _) rfl ?_
  refine i_iload_n (x := x1) r_219_3 (n_219_3 _) rfl ?_
  obtain ⟨g1, h⟩ := h
  obtain ⟨g2, h⟩ := h
  refine wp_virt (b := 252) (rest := [rf 252, rf 252]) (Ls := [(0, rf 252), (1, iv x1)]) r_219_4 (n_219_4 _) rfl ⟨rfl, rfl, by decide, by decide⟩ rfl rfl lf_252 ⟨rfl, Nat.le_of_ble_eq_true rfl, Nat.le_of_ble_eq_true rfl⟩ rfl (K_Model_isRecord g1 g2) ?_
  rintro _ _ ⟨rfl, rfl⟩
  refine .inl ⟨some (iv (bi (0 ≤ x1 ∧ x1 ≤ ((zI s 253 0) - 1)))), rfl, ?_⟩
  show wp S 219 7 [(0, rf 252), (1, iv x1), (2, iv x2)] [iv (bi (0 ≤ x1 ∧ x1 ≤ ((zI s 253 0) - 1))), rf 252, rf 252] s Q
  refine i_if (t := 29) r_219_7 (n_219_7 _) rfl (TB_eq) (fun c4 => ?_) (fun c4 => ?_)
  · replace h := h.1 c4
    refine i_iconst r_219_29 (n_219_29 _) ?_
    refine wp_virt (b := 252) (rest := [rf 252]) (Ls := [(0, rf 252), (1, iv 0)]) r_219_30 (n_219_30 _) rfl ⟨rfl, rfl, by decide, by decide⟩ rfl rfl lf_252 ⟨rfl, Nat.le_of_ble_eq_true rfl, Nat.le_of_ble_eq_true rfl⟩ rfl K_Model_need0 ?_
    rintro _ _ ⟨rfl, rfl⟩
    refine .inl ⟨some (iv 1), rfl, ?_⟩
    show wp S 219 33 [(0, rf 252), (1, iv x1), (2, iv x2)] [iv 1, rf 252] s Q
    refine wp_virt (b := 252) (rest := []) (Ls := [(0, rf 252), (1, iv 1)]) r_219_33 (n_219_33 _) rfl ⟨rfl, rfl, by decide, by decide⟩ rfl rfl lf_252 ⟨rfl, Nat.le_of_ble_eq_true rfl, Nat.le_of_ble_eq_true rfl⟩ rfl (K_Model_refused1 ⟨by omega, by omega⟩ (by omega)) ?_
    rintro _ _ ⟨rfl, rfl⟩
    refine .inl ⟨some (iv 1), rfl, ?_⟩
    show wp S 219 36 [(0, rf 252), (1, iv x1), (2, iv x2)] [iv 1] (zwI s 252 3 1) Q
    refine i_if (t := 41) r_219_36 (n_219_36 _) rfl (T_eq ⟨by omega, by omega⟩ ⟨by omega, by omega⟩) (fun z => absurd z (by omega)) (fun _ => ?_)
    refine i_iconst r_219_39 (n_219_39 _) ?_
    exact i_ireturn r_219_40 (n_219_40 _) rfl h
  · replace h := h.2 c4
    refine i_iload_n (x := x2) r_219_10 (n_219_10 _) rfl ?_
    refine i_iconst r_219_11 (n_219_11 _) ?_
    refine i_aload_n (a := 252) r_219_12 (n_219_12 _) rfl ?_
    refine i_iload_n (x := x1) r_219_13 (n_219_13 _) rfl ?_
    obtain ⟨g7, h⟩ := h
    refine wp_virt (b := 252) (rest := [iv 0, iv x2, rf 252, rf 252]) (Ls := [(0, rf 252), (1, iv x1)]) r_219_14 (n_219_14 _) rfl ⟨rfl, rfl, by decide, by decide⟩ rfl rfl lf_252 ⟨rfl, Nat.le_of_ble_eq_true rfl, Nat.le_of_ble_eq_true rfl⟩ rfl (K_Model_fieldsOf g7) ?_
    rintro _ _ ⟨rfl, rfl⟩
    refine .inl ⟨some (iv (zI s 253 ((1 + (26 * x1)) + 1))), rfl, ?_⟩
    show wp S 219 17 [(0, rf 252), (1, iv x1), (2, iv x2)] [iv (zI s 253 ((1 + (26 * x1)) + 1)), iv 0, iv x2, rf 252, rf 252] s Q
    refine wp_rd (a := 253) (j := ((1 + (26 * x1)) + 1)) (fun q9 => ?_)
    refine i_iconst r_219_17 (n_219_17 _) ?_
    refine i_isub r_219_18 (n_219_18 _) ?_
    obtain ⟨g10, h⟩ := h
    obtain ⟨g11, h⟩ := h
    refine wp_stat (rest := [rf 252, rf 252]) (Ls := [(0, iv x2), (1, iv 0), (2, iv ((zI s 253 ((1 + (26 * x1)) + 1)) - 1))]) r_219_19 (n_219_19 _) rfl ⟨rfl, by decide, by decide, by decide⟩ rfl rfl ⟨rfl, Nat.le_of_ble_eq_true rfl, Nat.le_of_ble_eq_true rfl⟩ rfl (K_Model_within g10 ⟨by omega, by omega⟩ g11) ?_
    rintro _ _ ⟨rfl, rfl⟩
    refine .inl ⟨some (iv (bi (0 ≤ x2 ∧ x2 ≤ ((zI s 253 ((1 + (26 * x1)) + 1)) - 1)))), rfl, ?_⟩
    show wp S 219 22 [(0, rf 252), (1, iv x1), (2, iv x2)] [iv (bi (0 ≤ x2 ∧ x2 ≤ ((zI s 253 ((1 + (26 * x1)) + 1)) - 1))), rf 252, rf 252] s Q
    refine i_if (t := 29) r_219_22 (n_219_22 _) rfl (TB_eq) (fun c13 => ?_) (fun c13 => ?_)
    · replace h := h.1 c13
      refine i_iconst r_219_29 (n_219_29 _) ?_
      refine wp_virt (b := 252) (rest := [rf 252]) (Ls := [(0, rf 252), (1, iv 0)]) r_219_30 (n_219_30 _) rfl ⟨rfl, rfl, by decide, by decide⟩ rfl rfl lf_252 ⟨rfl, Nat.le_of_ble_eq_true rfl, Nat.le_of_ble_eq_true rfl⟩ rfl K_Model_need0 ?_
      rintro _ _ ⟨rfl, rfl⟩
      refine .inl ⟨some (iv 1), rfl, ?_⟩
      show wp S 219 33 [(0, rf 252), (1, iv x1), (2, iv x2)] [iv 1, rf 252] s Q
      refine wp_virt (b := 252) (rest := []) (Ls := [(0, rf 252), (1, iv 1)]) r_219_33 (n_219_33 _) rfl ⟨rfl, rfl, by decide, by decide⟩ rfl rfl lf_252 ⟨rfl, Nat.le_of_ble_eq_true rfl, Nat.le_of_ble_eq_true rfl⟩ rfl (K_Model_refused1 ⟨by omega, by omega⟩ (by omega)) ?_
      rintro _ _ ⟨rfl, rfl⟩
      refine .inl ⟨some (iv 1), rfl, ?_⟩
      show wp S 219 36 [(0, rf 252), (1, iv x1), (2, iv x2)] [iv 1] (zwI s 252 3 1) Q
      refine i_if (t := 41) r_219_36 (n_219_36 _) rfl (T_eq ⟨by omega, by omega⟩ ⟨by omega, by omega⟩) (fun z => absurd z (by omega)) (fun _ => ?_)
      refine i_iconst r_219_39 (n_219_39 _) ?_
      exact i_ireturn r_219_40 (n_219_40 _) rfl h
    · replace h := h.2 c13
      refine i_iconst r_219_25 (n_219_25 _) ?_
      refine i_goto (t := 30) r_219_26 (n_219_26 _) rfl ?_
      refine wp_virt (b := 252) (rest := [rf 252]) (Ls := [(0, rf 252), (1, iv 1)]) r_219_30 (n_219_30 _) rfl ⟨rfl, rfl, by decide, by decide⟩ rfl rfl lf_252 ⟨rfl, Nat.le_of_ble_eq_true rfl, Nat.le_of_ble_eq_true rfl⟩ rfl (K_Model_need1 ⟨by omega, by omega⟩ (by omega)) ?_
      rintro _ _ ⟨rfl, rfl⟩
      refine .inl ⟨some (iv 0), rfl, ?_⟩
      show wp S 219 33 [(0, rf 252), (1, iv x1), (2, iv x2)] [iv 0, rf 252] s Q
      refine wp_virt (b := 252) (rest := []) (Ls := [(0, rf 252), (1, iv 0)]) r_219_33 (n_219_33 _) rfl ⟨rfl, rfl, by decide, by decide⟩ rfl rfl lf_252 ⟨rfl, Nat.le_of_ble_eq_true rfl, Nat.le_of_ble_eq_true rfl⟩ rfl K_Model_refused0 ?_
      rintro _ _ ⟨rfl, rfl⟩
      refine .inl ⟨some (iv 0), rfl, ?_⟩
      show wp S 219 36 [(0, rf 252), (1, iv x1), (2, iv x2)] [iv 0] (zwI s 252 3 0) Q
      refine i_if (t := 41) r_219_36 (n_219_36 _) rfl (T_eq ⟨by omega, by omega⟩ ⟨by omega, by omega⟩) (fun _ => ?_) (fun z => absurd z (by omega))
      refine i_aload_n (a := 252) r_219_41 (n_219_41 _) rfl ?_
      refine i_iload_n (x := x1) r_219_42 (n_219_42 _) rfl ?_
      refine wp_virt (b := 252) (rest := []) (Ls := [(0, rf 252), (1, iv x1)]) r_219_43 (n_219_43 _) rfl ⟨rfl, rfl, by decide, by decide⟩ rfl rfl lf_252 ⟨rfl, Nat.le_of_ble_eq_true rfl, Nat.le_of_ble_eq_true rfl⟩ rfl h ?_
      intro o18 s18 h
      rcases h with ⟨y18, q19, rfl, h⟩ | ⟨e18, rfl, h⟩
      · refine .inl ⟨some (iv y18), rfl, ?_⟩
        show wp S 219 46 [(0, rf 252), (1, iv x1), (2, iv x2)] [iv y18] s18 Q
        refine i_pop r_219_46 (n_219_46 _) rfl ?_
        refine i_aload_n (a := 252) r_219_47 (n_219_47 _) rfl ?_
        refine i_getR (a := 252) (b := 268) r_219_48 (n_219_48 _) rfl rfl rfl (by omega) lf_252 (by omega) ?_
        refine i_iload_n (x := x2) r_219_51 (n_219_51 _) rfl ?_
        obtain ⟨g20, h⟩ := h
        refine i_iaload (a := 268) (j := x2) r_219_52 (n_219_52 _) lf_268 ⟨by omega, by omega⟩ (by omega) (by omega) (fun q21 => ?_)
        exact i_ireturn r_219_53 (n_219_53 _) rfl h
      · skip
        exact h.elim
theorem r_220_0 : xfetch 220 0 = some (.aload_n 0, 1) := by decide +kernel
theorem n_220_0 : ∀ l, xpr 220 0 l = l := xpr_no (by decide +kernel)
theorem r_220_1 : xfetch 220 1 = some (.iload_n 1, 1) := by decide +kernel
theorem n_220_1 : ∀ l, xpr 220 1 l = l := xpr_no (by decide +kernel)
theorem r_220_2 : xfetch 220 2 = some (.iconst 0, 1) := by decide +kernel
theorem n_220_2 : ∀ l, xpr 220 2 l = l := xpr_no (by decide +kernel)
theorem r_220_3 : xfetch 220 3 = some (.bipush 127, 2) := by decide +kernel
theorem n_220_3 : ∀ l, xpr 220 3 l = l := xpr_no (by decide +kernel)
theorem r_220_5 : xfetch 220 5 = some (.invokestatic 88, 3) := by decide +kernel
theorem n_220_5 : ∀ l, xpr 220 5 l = l := xpr_no (by decide +kernel)
theorem r_220_8 : xfetch 220 8 = some (.ifCond .ne 7, 3) := by decide +kernel
theorem n_220_8 : ∀ l, xpr 220 8 l = l := xpr_no (by decide +kernel)
theorem r_220_11 : xfetch 220 11 = some (.iconst 1, 1) := by decide +kernel
theorem n_220_11 : ∀ l, xpr 220 11 l = l := xpr_no (by decide +kernel)
theorem r_220_12 : xfetch 220 12 = some (.goto 17, 3) := by decide +kernel
theorem n_220_12 : ∀ l, xpr 220 12 l = l := xpr_no (by decide +kernel)
theorem r_220_15 : xfetch 220 15 = some (.aload_n 0, 1) := by decide +kernel
theorem n_220_15 : ∀ l, xpr 220 15 l = l := xpr_no (by decide +kernel)
theorem r_220_16 : xfetch 220 16 = some (.getfield 179, 3) := by decide +kernel
theorem n_220_16 : ∀ l, xpr 220 16 l = l := xpr_no (by decide +kernel)
theorem r_220_19 : xfetch 220 19 = some (.bipush 80, 2) := by decide +kernel
theorem n_220_19 : ∀ l, xpr 220 19 l = l := xpr_no (by decide +kernel)
theorem r_220_21 : xfetch 220 21 = some (.if_icmp .ne 7, 3) := by decide +kernel
theorem n_220_21 : ∀ l, xpr 220 21 l = l := xpr_no (by decide +kernel)
theorem r_220_24 : xfetch 220 24 = some (.iconst 2, 1) := by decide +kernel
theorem n_220_24 : ∀ l, xpr 220 24 l = l := xpr_no (by decide +kernel)
theorem r_220_25 : xfetch 220 25 = some (.goto 4, 3) := by decide +kernel
theorem n_220_25 : ∀ l, xpr 220 25 l = l := xpr_no (by decide +kernel)
theorem r_220_28 : xfetch 220 28 = some (.iconst 0, 1) := by decide +kernel
theorem n_220_28 : ∀ l, xpr 220 28 l = l := xpr_no (by decide +kernel)
theorem r_220_29 : xfetch 220 29 = some (.invokevirtual 84, 3) := by decide +kernel
theorem n_220_29 : ∀ l, xpr 220 29 l = l := xpr_no (by decide +kernel)
theorem r_220_32 : xfetch 220 32 = some (.ifCond .eq 5, 3) := by decide +kernel
theorem n_220_32 : ∀ l, xpr 220 32 l = l := xpr_no (by decide +kernel)
theorem r_220_35 : xfetch 220 35 = some (.iconst 0, 1) := by decide +kernel
theorem n_220_35 : ∀ l, xpr 220 35 l = l := xpr_no (by decide +kernel)
theorem r_220_36 : xfetch 220 36 = some (.ireturn, 1) := by decide +kernel
theorem n_220_36 : ∀ l, xpr 220 36 l = l := xpr_no (by decide +kernel)
theorem r_220_37 : xfetch 220 37 = some (.aload_n 0, 1) := by decide +kernel
theorem n_220_37 : ∀ l, xpr 220 37 l = l := xpr_no (by decide +kernel)
theorem r_220_38 : xfetch 220 38 = some (.getfield 16, 3) := by decide +kernel
theorem n_220_38 : ∀ l, xpr 220 38 l = l := xpr_no (by decide +kernel)
theorem r_220_41 : xfetch 220 41 = some (.aload_n 0, 1) := by decide +kernel
theorem n_220_41 : ∀ l, xpr 220 41 l = l := xpr_no (by decide +kernel)
theorem r_220_42 : xfetch 220 42 = some (.getfield 179, 3) := by decide +kernel
theorem n_220_42 : ∀ l, xpr 220 42 l = l := xpr_no (by decide +kernel)
theorem r_220_45 : xfetch 220 45 = some (.iload_n 1, 1) := by decide +kernel
theorem n_220_45 : ∀ l, xpr 220 45 l = l := xpr_no (by decide +kernel)
theorem r_220_46 : xfetch 220 46 = some (.iastore, 1) := by decide +kernel
theorem n_220_46 : ∀ l, xpr 220 46 l = l := xpr_no (by decide +kernel)
theorem r_220_47 : xfetch 220 47 = some (.aload_n 0, 1) := by decide +kernel
theorem n_220_47 : ∀ l, xpr 220 47 l = l := xpr_no (by decide +kernel)
theorem r_220_48 : xfetch 220 48 = some (.dup, 1) := by decide +kernel
theorem n_220_48 : ∀ l, xpr 220 48 l = l := xpr_no (by decide +kernel)
theorem r_220_49 : xfetch 220 49 = some (.getfield 179, 3) := by decide +kernel
theorem n_220_49 : ∀ l, xpr 220 49 l = l := xpr_no (by decide +kernel)
theorem r_220_52 : xfetch 220 52 = some (.iconst 1, 1) := by decide +kernel
theorem n_220_52 : ∀ l, xpr 220 52 l = l := xpr_no (by decide +kernel)
theorem r_220_53 : xfetch 220 53 = some (.iadd, 1) := by decide +kernel
theorem n_220_53 : ∀ l, xpr 220 53 l = l := xpr_no (by decide +kernel)
theorem r_220_54 : xfetch 220 54 = some (.putfield 179, 3) := by decide +kernel
theorem n_220_54 : ∀ l, xpr 220 54 l = l := xpr_no (by decide +kernel)
theorem r_220_57 : xfetch 220 57 = some (.aload_n 0, 1) := by decide +kernel
theorem n_220_57 : ∀ l, xpr 220 57 l = l := xpr_no (by decide +kernel)
theorem r_220_58 : xfetch 220 58 = some (.getfield 179, 3) := by decide +kernel
theorem n_220_58 : ∀ l, xpr 220 58 l = l := xpr_no (by decide +kernel)
theorem r_220_61 : xfetch 220 61 = some (.ireturn, 1) := by decide +kernel
theorem n_220_61 : ∀ l, xpr 220 61 l = l := xpr_no (by decide +kernel)
theorem v_Model_append_0 {S : Option (Nat × (Nat → Int32))} {s : zSt} {Q : Option Value ⊕ Nat → zSt → Prop} {x1 : Int} 
    (h : rng x1 ∧ ((0 ≤ x1 ∧ x1 ≤ 127 → ((zI s 252 5) ≠ 80 → (0 ≤ (zI s 252 5) ∧ (zI s 252 5) < 80) ∧ (rng ((zI s 252 5) + 1) ∧ (Q (rI ((zI s 252 5) + 1)) (zwI (zwI (zwI s 252 3 0) 255 (zI s 252 5) x1) 252 5 ((zI s 252 5) + 1))))) ∧ ((zI s 252 5) = 80 → Q (rI 0) (zwI s 252 3 2))) ∧ (¬ (0 ≤ x1 ∧ x1 ≤ 127) → Q (rI 0) (zwI s 252 3 1)))) :
    wp S 220 0 [(0, rf 252), (1, iv x1)] [] s Q := by
  refine i_aload_n (a := 252) r_220_0 (n_220_0 _) rfl ?_
  refine i_iload_n (x := x1) r_220_1 (n_220_1 _) rfl ?_
  refine i_iconst r_220_2 (n_220_2 _) ?_
  refine i_bipush r_220_3 (n_220_3 _) rfl ?_
  obtain ⟨g1, h⟩ := h
  refine wp_stat (rest := [rf 252]) (Ls := [(0, iv x1), (1, iv 0), (2, iv 127)]) r_220_5 (n_220_5 _) rfl ⟨rfl, by decide, by decide, by decide⟩ rfl rfl ⟨rfl, Nat.le_of_ble_eq_true rfl, Nat.le_of_ble_eq_true rfl⟩ rfl (K_Model_within g1 ⟨by omega, by omega⟩ ⟨by omega, by omega⟩) ?_
  rintro _ _ ⟨rfl, rfl⟩
  refine .inl ⟨some (iv (bi (0 ≤ x1 ∧ x1 ≤ 127))), rfl, ?_⟩
  show wp S 220 8 [(0, rf 252), (1, iv x1)] [iv (bi (0 ≤ x1 ∧ x1 ≤ 127)), rf 252] s Q
  refine i_if (t := 15) r_220_8 (n_220_8 _) rfl (TB_ne) (fun c3 => ?_) (fun c3 => ?_)
  · replace h := h.1 c3
    refine i_aload_n (a := 252) r_220_15 (n_220_15 _) rfl ?_
    refine i_getI (a := 252) r_220_16 (n_220_16 _) rfl (by decide) lf_252 (fun q4 => ?_)
    refine i_bipush r_220_19 (n_220_19 _) rfl ?_
    refine i_icmp (t := 28) r_220_21 (n_220_21 _) rfl (T_ne q4 ⟨by omega, by omega⟩) (fun c5 => ?_) (fun c5 => ?_)
    · replace h := h.1 c5
      refine i_iconst r_220_28 (n_220_28 _) ?_
      refine wp_virt (b := 252) (rest := []) (Ls := [(0, rf 252), (1, iv 0)]) r_220_29 (n_220_29 _) rfl ⟨rfl, rfl, by decide, by decide⟩ rfl rfl lf_252 ⟨rfl, Nat.le_of_ble_eq_true rfl, Nat.le_of_ble_eq_true rfl⟩ rfl K_Model_refused0 ?_
      rintro _ _ ⟨rfl, rfl⟩
      refine .inl ⟨some (iv 0), rfl, ?_⟩
      show wp S 220 32 [(0, rf 252), (1, iv x1)] [iv 0] (zwI s 252 3 0) Q
      refine i_if (t := 37) r_220_32 (n_220_32 _) rfl (T_eq ⟨by omega, by omega⟩ ⟨by omega, by omega⟩) (fun _ => ?_) (fun z => absurd z (by omega))
      refine i_aload_n (a := 252) r_220_37 (n_220_37 _) rfl ?_
      refine i_getR (a := 252) (b := 255) r_220_38 (n_220_38 _) rfl rfl rfl (by omega) lf_252 (by omega) ?_
      refine i_aload_n (a := 252) r_220_41 (n_220_41 _) rfl ?_
      have e8 : zI (zwI s 252 3 0) 252 5 = zI s 252 5 := zI_nj (by omega)
      refine i_getIe (a := 252) (x := zI s 252 5) r_220_42 (n_220_42 _) rfl (by decide) lf_252 e8 (fun q7 => ?_)
      refine i_iload_n (x := x1) r_220_45 (n_220_45 _) rfl ?_
      obtain ⟨g9, h⟩ := h
      refine i_iastore (a := 255) (j := zI s 252 5) (x := x1) r_220_46 (n_220_46 _) lf_255 ⟨by omega, by omega⟩ (by omega) (by omega) g1 ?_
      refine i_aload_n (a := 252) r_220_47 (n_220_47 _) rfl ?_
      refine i_dup r_220_48 (n_220_48 _) rfl ?_
      have e11 : zI (zwI (zwI s 252 3 0) 255 (zI s 252 5) x1) 252 5 = zI s 252 5 := (zI_ne (by omega)).trans (zI_nj (by omega))
      refine i_getIe (a := 252) (x := zI s 252 5) r_220_49 (n_220_49 _) rfl (by decide) lf_252 e11 (fun q10 => ?_)
      refine i_iconst r_220_52 (n_220_52 _) ?_
      refine i_iadd r_220_53 (n_220_53 _) ?_
      obtain ⟨g12, h⟩ := h
      refine i_putI (a := 252) (x := (zI s 252 5) + 1) r_220_54 (n_220_54 _) rfl (.inl rfl) rfl lf_252 g12 ?_
      refine i_aload_n (a := 252) r_220_57 (n_220_57 _) rfl ?_
      have e14 : zI (zwI (zwI (zwI s 252 3 0) 255 (zI s 252 5) x1) 252 5 ((zI s 252 5) + 1)) 252 5 = (zI s 252 5) + 1 := zI_eq
      refine i_getIe (a := 252) (x := (zI s 252 5) + 1) r_220_58 (n_220_58 _) rfl (by decide) lf_252 e14 (fun q13 => ?_)
      exact i_ireturn r_220_61 (n_220_61 _) rfl h
    · replace h := h.2 c5
      refine i_iconst r_220_24 (n_220_24 _) ?_
      refine i_goto (t := 29) r_220_25 (n_220_25 _) rfl ?_
      refine wp_virt (b := 252) (rest := []) (Ls := [(0, rf 252), (1, iv 2)]) r_220_29 (n_220_29 _) rfl ⟨rfl, rfl, by decide, by decide⟩ rfl rfl lf_252 ⟨rfl, Nat.le_of_ble_eq_true rfl, Nat.le_of_ble_eq_true rfl⟩ rfl (K_Model_refused1 ⟨by omega, by omega⟩ (by omega)) ?_
      rintro _ _ ⟨rfl, rfl⟩
      refine .inl ⟨some (iv 1), rfl, ?_⟩
      show wp S 220 32 [(0, rf 252), (1, iv x1)] [iv 1] (zwI s 252 3 2) Q
      refine i_if (t := 37) r_220_32 (n_220_32 _) rfl (T_eq ⟨by omega, by omega⟩ ⟨by omega, by omega⟩) (fun z => absurd z (by omega)) (fun _ => ?_)
      refine i_iconst r_220_35 (n_220_35 _) ?_
      exact i_ireturn r_220_36 (n_220_36 _) rfl h
  · replace h := h.2 c3
    refine i_iconst r_220_11 (n_220_11 _) ?_
    refine i_goto (t := 29) r_220_12 (n_220_12 _) rfl ?_
    refine wp_virt (b := 252) (rest := []) (Ls := [(0, rf 252), (1, iv 1)]) r_220_29 (n_220_29 _) rfl ⟨rfl, rfl, by decide, by decide⟩ rfl rfl lf_252 ⟨rfl, Nat.le_of_ble_eq_true rfl, Nat.le_of_ble_eq_true rfl⟩ rfl (K_Model_refused1 ⟨by omega, by omega⟩ (by omega)) ?_
    rintro _ _ ⟨rfl, rfl⟩
    refine .inl ⟨some (iv 1), rfl, ?_⟩
    show wp S 220 32 [(0, rf 252), (1, iv x1)] [iv 1] (zwI s 252 3 1) Q
    refine i_if (t := 37) r_220_32 (n_220_32 _) rfl (T_eq ⟨by omega, by omega⟩ ⟨by omega, by omega⟩) (fun z => absurd z (by omega)) (fun _ => ?_)
    refine i_iconst r_220_35 (n_220_35 _) ?_
    exact i_ireturn r_220_36 (n_220_36 _) rfl h
theorem r_221_0 : xfetch 221 0 = some (.aload_n 0, 1) := by decide +kernel
theorem n_221_0 : ∀ l, xpr 221 0 l = l := xpr_no (by decide +kernel)
theorem r_221_1 : xfetch 221 1 = some (.iconst 0, 1) := by decide +kernel
theorem n_221_1 : ∀ l, xpr 221 1 l = l := xpr_no (by decide +kernel)
theorem r_221_2 : xfetch 221 2 = some (.putfield 77, 3) := by decide +kernel
theorem n_221_2 : ∀ l, xpr 221 2 l = l := xpr_no (by decide +kernel)
theorem r_221_5 : xfetch 221 5 = some (.aload_n 0, 1) := by decide +kernel
theorem n_221_5 : ∀ l, xpr 221 5 l = l := xpr_no (by decide +kernel)
theorem r_221_6 : xfetch 221 6 = some (.getfield 179, 3) := by decide +kernel
theorem n_221_6 : ∀ l, xpr 221 6 l = l := xpr_no (by decide +kernel)
theorem r_221_9 : xfetch 221 9 = some (.istore_n 1, 1) := by decide +kernel
theorem n_221_9 : ∀ l, xpr 221 9 l = l := xpr_no (by decide +kernel)
theorem r_221_10 : xfetch 221 10 = some (.aload_n 0, 1) := by decide +kernel
theorem n_221_10 : ∀ l, xpr 221 10 l = l := xpr_no (by decide +kernel)
theorem r_221_11 : xfetch 221 11 = some (.iconst 0, 1) := by decide +kernel
theorem n_221_11 : ∀ l, xpr 221 11 l = l := xpr_no (by decide +kernel)
theorem r_221_12 : xfetch 221 12 = some (.putfield 179, 3) := by decide +kernel
theorem n_221_12 : ∀ l, xpr 221 12 l = l := xpr_no (by decide +kernel)
theorem r_221_15 : xfetch 221 15 = some (.iload_n 1, 1) := by decide +kernel
theorem n_221_15 : ∀ l, xpr 221 15 l = l := xpr_no (by decide +kernel)
theorem r_221_16 : xfetch 221 16 = some (.ireturn, 1) := by decide +kernel
theorem n_221_16 : ∀ l, xpr 221 16 l = l := xpr_no (by decide +kernel)
theorem v_Model_clearText_0 {S : Option (Nat × (Nat → Int32))} {s : zSt} {Q : Option Value ⊕ Nat → zSt → Prop}  
    (h : Q (rI (zI s 252 5)) (zwI (zwI s 252 3 0) 252 5 0)) :
    wp S 221 0 [(0, rf 252)] [] s Q := by
  refine i_aload_n (a := 252) r_221_0 (n_221_0 _) rfl ?_
  refine i_iconst r_221_1 (n_221_1 _) ?_
  refine i_putI (a := 252) (x := 0) r_221_2 (n_221_2 _) rfl (.inl rfl) rfl lf_252 ⟨by omega, by omega⟩ ?_
  refine i_aload_n (a := 252) r_221_5 (n_221_5 _) rfl ?_
  have e2 : zI (zwI s 252 3 0) 252 5 = zI s 252 5 := zI_nj (by omega)
  refine i_getIe (a := 252) (x := zI s 252 5) r_221_6 (n_221_6 _) rfl (by decide) lf_252 e2 (fun q1 => ?_)
  refine i_istore_n (l' := [(0, rf 252), (1, iv (zI s 252 5))]) r_221_9 (n_221_9 _) (by decide) rfl ?_
  refine i_aload_n (a := 252) r_221_10 (n_221_10 _) rfl ?_
  refine i_iconst r_221_11 (n_221_11 _) ?_
  refine i_putI (a := 252) (x := 0) r_221_12 (n_221_12 _) rfl (.inl rfl) rfl lf_252 ⟨by omega, by omega⟩ ?_
  refine i_iload_n (x := zI s 252 5) r_221_15 (n_221_15 _) rfl ?_
  exact i_ireturn r_221_16 (n_221_16 _) rfl h
theorem r_222_0 : xfetch 222 0 = some (.aload_n 0, 1) := by decide +kernel
theorem n_222_0 : ∀ l, xpr 222 0 l = l := xpr_no (by decide +kernel)
theorem r_222_1 : xfetch 222 1 = some (.iload_n 1, 1) := by decide +kernel
theorem n_222_1 : ∀ l, xpr 222 1 l = l := xpr_no (by decide +kernel)
theorem r_222_2 : xfetch 222 2 = some (.invokestatic 132, 3) := by decide +kernel
theorem n_222_2 : ∀ l, xpr 222 2 l = l := xpr_no (by decide +kernel)
theorem r_222_5 : xfetch 222 5 = some (.ifCond .ne 7, 3) := by decide +kernel
theorem n_222_5 : ∀ l, xpr 222 5 l = l := xpr_no (by decide +kernel)
theorem r_222_8 : xfetch 222 8 = some (.iconst 1, 1) := by decide +kernel
theorem n_222_8 : ∀ l, xpr 222 8 l = l := xpr_no (by decide +kernel)
theorem r_222_9 : xfetch 222 9 = some (.goto 19, 3) := by decide +kernel
theorem n_222_9 : ∀ l, xpr 222 9 l = l := xpr_no (by decide +kernel)
theorem r_222_12 : xfetch 222 12 = some (.aload_n 0, 1) := by decide +kernel
theorem n_222_12 : ∀ l, xpr 222 12 l = l := xpr_no (by decide +kernel)
theorem r_222_13 : xfetch 222 13 = some (.getfield 7, 3) := by decide +kernel
theorem n_222_13 : ∀ l, xpr 222 13 l = l := xpr_no (by decide +kernel)
theorem r_222_16 : xfetch 222 16 = some (.iconst 0, 1) := by decide +kernel
theorem n_222_16 : ∀ l, xpr 222 16 l = l := xpr_no (by decide +kernel)
theorem r_222_17 : xfetch 222 17 = some (.iaload, 1) := by decide +kernel
theorem n_222_17 : ∀ l, xpr 222 17 l = l := xpr_no (by decide +kernel)
theorem r_222_18 : xfetch 222 18 = some (.bipush 6, 2) := by decide +kernel
theorem n_222_18 : ∀ l, xpr 222 18 l = l := xpr_no (by decide +kernel)
theorem r_222_20 : xfetch 222 20 = some (.if_icmp .ne 7, 3) := by decide +kernel
theorem n_222_20 : ∀ l, xpr 222 20 l = l := xpr_no (by decide +kernel)
theorem r_222_23 : xfetch 222 23 = some (.iconst 2, 1) := by decide +kernel
theorem n_222_23 : ∀ l, xpr 222 23 l = l := xpr_no (by decide +kernel)
theorem r_222_24 : xfetch 222 24 = some (.goto 4, 3) := by decide +kernel
theorem n_222_24 : ∀ l, xpr 222 24 l = l := xpr_no (by decide +kernel)
theorem r_222_27 : xfetch 222 27 = some (.iconst 0, 1) := by decide +kernel
theorem n_222_27 : ∀ l, xpr 222 27 l = l := xpr_no (by decide +kernel)
theorem r_222_28 : xfetch 222 28 = some (.invokevirtual 84, 3) := by decide +kernel
theorem n_222_28 : ∀ l, xpr 222 28 l = l := xpr_no (by decide +kernel)
theorem r_222_31 : xfetch 222 31 = some (.ifCond .eq 5, 3) := by decide +kernel
theorem n_222_31 : ∀ l, xpr 222 31 l = l := xpr_no (by decide +kernel)
theorem r_222_34 : xfetch 222 34 = some (.iconst 0, 1) := by decide +kernel
theorem n_222_34 : ∀ l, xpr 222 34 l = l := xpr_no (by decide +kernel)
theorem r_222_35 : xfetch 222 35 = some (.ireturn, 1) := by decide +kernel
theorem n_222_35 : ∀ l, xpr 222 35 l = l := xpr_no (by decide +kernel)
theorem r_222_36 : xfetch 222 36 = some (.aload_n 0, 1) := by decide +kernel
theorem n_222_36 : ∀ l, xpr 222 36 l = l := xpr_no (by decide +kernel)
theorem r_222_37 : xfetch 222 37 = some (.invokevirtual 215, 3) := by decide +kernel
theorem n_222_37 : ∀ l, xpr 222 37 l = l := xpr_no (by decide +kernel)
theorem r_222_40 : xfetch 222 40 = some (.istore_n 2, 1) := by decide +kernel
theorem n_222_40 : ∀ l, xpr 222 40 l = l := xpr_no (by decide +kernel)
theorem r_222_41 : xfetch 222 41 = some (.iload_n 2, 1) := by decide +kernel
theorem n_222_41 : ∀ l, xpr 222 41 l = l := xpr_no (by decide +kernel)
theorem r_222_42 : xfetch 222 42 = some (.iconst (-1), 1) := by decide +kernel
theorem n_222_42 : ∀ l, xpr 222 42 l = l := xpr_no (by decide +kernel)
theorem r_222_43 : xfetch 222 43 = some (.if_icmp .eq 8, 3) := by decide +kernel
theorem n_222_43 : ∀ l, xpr 222 43 l = l := xpr_no (by decide +kernel)
theorem r_222_46 : xfetch 222 46 = some (.bipush (-10), 2) := by decide +kernel
theorem n_222_46 : ∀ l, xpr 222 46 l = l := xpr_no (by decide +kernel)
theorem r_222_48 : xfetch 222 48 = some (.iload_n 2, 1) := by decide +kernel
theorem n_222_48 : ∀ l, xpr 222 48 l = l := xpr_no (by decide +kernel)
theorem r_222_49 : xfetch 222 49 = some (.isub, 1) := by decide +kernel
theorem n_222_49 : ∀ l, xpr 222 49 l = l := xpr_no (by decide +kernel)
theorem r_222_50 : xfetch 222 50 = some (.ireturn, 1) := by decide +kernel
theorem n_222_50 : ∀ l, xpr 222 50 l = l := xpr_no (by decide +kernel)
theorem r_222_51 : xfetch 222 51 = some (.aload_n 0, 1) := by decide +kernel
theorem n_222_51 : ∀ l, xpr 222 51 l = l := xpr_no (by decide +kernel)
theorem r_222_52 : xfetch 222 52 = some (.invokevirtual 135, 3) := by decide +kernel
theorem n_222_52 : ∀ l, xpr 222 52 l = l := xpr_no (by decide +kernel)
theorem r_222_55 : xfetch 222 55 = some (.aload_n 0, 1) := by decide +kernel
theorem n_222_55 : ∀ l, xpr 222 55 l = l := xpr_no (by decide +kernel)
theorem r_222_56 : xfetch 222 56 = some (.iload_n 1, 1) := by decide +kernel
theorem n_222_56 : ∀ l, xpr 222 56 l = l := xpr_no (by decide +kernel)
theorem r_222_57 : xfetch 222 57 = some (.invokevirtual 138, 3) := by decide +kernel
theorem n_222_57 : ∀ l, xpr 222 57 l = l := xpr_no (by decide +kernel)
theorem r_222_60 : xfetch 222 60 = some (.iconst 0, 1) := by decide +kernel
theorem n_222_60 : ∀ l, xpr 222 60 l = l := xpr_no (by decide +kernel)
theorem r_222_61 : xfetch 222 61 = some (.istore_n 3, 1) := by decide +kernel
theorem n_222_61 : ∀ l, xpr 222 61 l = l := xpr_no (by decide +kernel)
theorem r_222_62 : xfetch 222 62 = some (.iload_n 3, 1) := by decide +kernel
theorem r_222_63 : xfetch 222 63 = some (.aload_n 0, 1) := by decide +kernel
theorem n_222_63 : ∀ l, xpr 222 63 l = l := xpr_no (by decide +kernel)
theorem r_222_64 : xfetch 222 64 = some (.getfield 203, 3) := by decide +kernel
theorem n_222_64 : ∀ l, xpr 222 64 l = l := xpr_no (by decide +kernel)
theorem r_222_67 : xfetch 222 67 = some (.if_icmp .ge 39, 3) := by decide +kernel
theorem n_222_67 : ∀ l, xpr 222 67 l = l := xpr_no (by decide +kernel)
theorem r_222_70 : xfetch 222 70 = some (.aload_n 0, 1) := by decide +kernel
theorem n_222_70 : ∀ l, xpr 222 70 l = l := xpr_no (by decide +kernel)
theorem r_222_71 : xfetch 222 71 = some (.aload_n 0, 1) := by decide +kernel
theorem n_222_71 : ∀ l, xpr 222 71 l = l := xpr_no (by decide +kernel)
theorem r_222_72 : xfetch 222 72 = some (.getfield 7, 3) := by decide +kernel
theorem n_222_72 : ∀ l, xpr 222 72 l = l := xpr_no (by decide +kernel)
theorem r_222_75 : xfetch 222 75 = some (.iconst 0, 1) := by decide +kernel
theorem n_222_75 : ∀ l, xpr 222 75 l = l := xpr_no (by decide +kernel)
theorem r_222_76 : xfetch 222 76 = some (.iaload, 1) := by decide +kernel
theorem n_222_76 : ∀ l, xpr 222 76 l = l := xpr_no (by decide +kernel)
theorem r_222_77 : xfetch 222 77 = some (.iconst 1, 1) := by decide +kernel
theorem n_222_77 : ∀ l, xpr 222 77 l = l := xpr_no (by decide +kernel)
theorem r_222_78 : xfetch 222 78 = some (.isub, 1) := by decide +kernel
theorem n_222_78 : ∀ l, xpr 222 78 l = l := xpr_no (by decide +kernel)
theorem r_222_79 : xfetch 222 79 = some (.aload_n 0, 1) := by decide +kernel
theorem n_222_79 : ∀ l, xpr 222 79 l = l := xpr_no (by decide +kernel)
theorem r_222_80 : xfetch 222 80 = some (.getfield 58, 3) := by decide +kernel
theorem n_222_80 : ∀ l, xpr 222 80 l = l := xpr_no (by decide +kernel)
theorem r_222_83 : xfetch 222 83 = some (.iload_n 3, 1) := by decide +kernel
theorem n_222_83 : ∀ l, xpr 222 83 l = l := xpr_no (by decide +kernel)
theorem r_222_84 : xfetch 222 84 = some (.iaload, 1) := by decide +kernel
theorem n_222_84 : ∀ l, xpr 222 84 l = l := xpr_no (by decide +kernel)
theorem r_222_85 : xfetch 222 85 = some (.aload_n 0, 1) := by decide +kernel
theorem n_222_85 : ∀ l, xpr 222 85 l = l := xpr_no (by decide +kernel)
theorem r_222_86 : xfetch 222 86 = some (.getfield 61, 3) := by decide +kernel
theorem n_222_86 : ∀ l, xpr 222 86 l = l := xpr_no (by decide +kernel)
theorem r_222_89 : xfetch 222 89 = some (.iload_n 3, 1) := by decide +kernel
theorem n_222_89 : ∀ l, xpr 222 89 l = l := xpr_no (by decide +kernel)
theorem r_222_90 : xfetch 222 90 = some (.iaload, 1) := by decide +kernel
theorem n_222_90 : ∀ l, xpr 222 90 l = l := xpr_no (by decide +kernel)
theorem r_222_91 : xfetch 222 91 = some (.aload_n 0, 1) := by decide +kernel
theorem n_222_91 : ∀ l, xpr 222 91 l = l := xpr_no (by decide +kernel)
theorem r_222_92 : xfetch 222 92 = some (.getfield 64, 3) := by decide +kernel
theorem n_222_92 : ∀ l, xpr 222 92 l = l := xpr_no (by decide +kernel)
theorem r_222_95 : xfetch 222 95 = some (.iload_n 3, 1) := by decide +kernel
theorem n_222_95 : ∀ l, xpr 222 95 l = l := xpr_no (by decide +kernel)
theorem r_222_96 : xfetch 222 96 = some (.iaload, 1) := by decide +kernel
theorem n_222_96 : ∀ l, xpr 222 96 l = l := xpr_no (by decide +kernel)
theorem r_222_97 : xfetch 222 97 = some (.invokevirtual 158, 3) := by decide +kernel
theorem n_222_97 : ∀ l, xpr 222 97 l = l := xpr_no (by decide +kernel)
theorem r_222_100 : xfetch 222 100 = some (.iinc 3 1, 3) := by decide +kernel
theorem n_222_100 : ∀ l, xpr 222 100 l = l := xpr_no (by decide +kernel)
theorem r_222_103 : xfetch 222 103 = some (.goto (-41), 3) := by decide +kernel
theorem n_222_103 : ∀ l, xpr 222 103 l = l := xpr_no (by decide +kernel)
theorem r_222_106 : xfetch 222 106 = some (.aload_n 0, 1) := by decide +kernel
theorem n_222_106 : ∀ l, xpr 222 106 l = l := xpr_no (by decide +kernel)
theorem r_222_107 : xfetch 222 107 = some (.getfield 7, 3) := by decide +kernel
theorem n_222_107 : ∀ l, xpr 222 107 l = l := xpr_no (by decide +kernel)
theorem r_222_110 : xfetch 222 110 = some (.iconst 0, 1) := by decide +kernel
theorem n_222_110 : ∀ l, xpr 222 110 l = l := xpr_no (by decide +kernel)
theorem r_222_111 : xfetch 222 111 = some (.iaload, 1) := by decide +kernel
theorem n_222_111 : ∀ l, xpr 222 111 l = l := xpr_no (by decide +kernel)
theorem r_222_112 : xfetch 222 112 = some (.iconst 1, 1) := by decide +kernel
theorem n_222_112 : ∀ l, xpr 222 112 l = l := xpr_no (by decide +kernel)
theorem r_222_113 : xfetch 222 113 = some (.isub, 1) := by decide +kernel
theorem n_222_113 : ∀ l, xpr 222 113 l = l := xpr_no (by decide +kernel)
theorem r_222_114 : xfetch 222 114 = some (.ireturn, 1) := by decide +kernel
theorem n_222_114 : ∀ l, xpr 222 114 l = l := xpr_no (by decide +kernel)
theorem v_Model_define_0 {S : Option (Nat × (Nat → Int32))} {s : zSt} {Q : Option Value ⊕ Nat → zSt → Prop} {x1 : Int} 
    (h : rng x1 ∧ ((x1 = 1 ∨ x1 = 2 ∨ x1 = 4 ∨ x1 = 8 → ((zI s 253 0) ≠ 6 → wp S 223 0 [(0, rf 252)] [] (zwI s 252 3 0) (fun o7 s7 => zkI (fun y7 => (y7 = (-1) → wp S 182 0 [(0, rf 252)] [] s7 (fun o10 s10 => zkU (wp S 183 0 [(0, rf 252), (1, iv x1)] [] s10 (fun o12 s12 => zkU (wp S 222 62 [(0, rf 252), (3, iv 0)] [] s12 Q) (fun e12 => False) o12)) (fun e10 => False) o10)) ∧ (y7 ≠ (-1) → Q (rI ((-10) - y7)) s7)) (fun e7 => False) o7)) ∧ ((zI s 253 0) = 6 → Q (rI 0) (zwI s 252 3 2))) ∧ (¬ (x1 = 1 ∨ x1 = 2 ∨ x1 = 4 ∨ x1 = 8) → Q (rI 0) (zwI s 252 3 1)))) :
    wp S 222 0 [(0, rf 252), (1, iv x1)] [] s Q := by
  refine i_aload_n (a := 252) r_222_0 (n_222_0 _) rfl ?_
  refine i_iload_n (x := x1) r_222_1 (n_222_1 _) rfl ?_
  obtain ⟨g1, h⟩ := h
  refine wp_stat (rest := [rf 252]) (Ls := [(0, iv x1)]) r_222_2 (n_222_2 _) rfl ⟨rfl, by decide, by decide, by decide⟩ rfl rfl ⟨rfl, Nat.le_of_ble_eq_true rfl, Nat.le_of_ble_eq_true rfl⟩ rfl (K_Model_isPack g1) ?_
  rintro _ _ ⟨rfl, rfl⟩
  refine .inl ⟨some (iv (bi (x1 = 1 ∨ x1 = 2 ∨ x1 = 4 ∨ x1 = 8))), rfl, ?_⟩
  show wp S 222 5 [(0, rf 252), (1, iv x1)] [iv (bi (x1 = 1 ∨ x1 = 2 ∨ x1 = 4 ∨ x1 = 8)), rf 252] s Q
  refine i_if (t := 12) r_222_5 (n_222_5 _) rfl (TB_ne) (fun c3 => ?_) (fun c3 => ?_)
  · replace h := h.1 c3
    refine i_aload_n (a := 252) r_222_12 (n_222_12 _) rfl ?_
    refine i_getR (a := 252) (b := 253) r_222_13 (n_222_13 _) rfl rfl rfl (by omega) lf_252 (by omega) ?_
    refine i_iconst r_222_16 (n_222_16 _) ?_
    refine i_iaload (a := 253) (j := 0) r_222_17 (n_222_17 _) lf_253 ⟨by omega, by omega⟩ (by omega) (by omega) (fun q4 => ?_)
    refine i_bipush r_222_18 (n_222_18 _) rfl ?_
    refine i_icmp (t := 27) r_222_20 (n_222_20 _) rfl (T_ne q4 ⟨by omega, by omega⟩) (fun c5 => ?_) (fun c5 => ?_)
    · replace h := h.1 c5
      refine i_iconst r_222_27 (n_222_27 _) ?_
      refine wp_virt (b := 252) (rest := []) (Ls := [(0, rf 252), (1, iv 0)]) r_222_28 (n_222_28 _) rfl ⟨rfl, rfl, by decide, by decide⟩ rfl rfl lf_252 ⟨rfl, Nat.le_of_ble_eq_true rfl, Nat.le_of_ble_eq_true rfl⟩ rfl K_Model_refused0 ?_
      rintro _ _ ⟨rfl, rfl⟩
      refine .inl ⟨some (iv 0), rfl, ?_⟩
      show wp S 222 31 [(0, rf 252), (1, iv x1)] [iv 0] (zwI s 252 3 0) Q
      refine i_if (t := 36) r_222_31 (n_222_31 _) rfl (T_eq ⟨by omega, by omega⟩ ⟨by omega, by omega⟩) (fun _ => ?_) (fun z => absurd z (by omega))
      refine i_aload_n (a := 252) r_222_36 (n_222_36 _) rfl ?_
      refine wp_virt (b := 252) (rest := []) (Ls := [(0, rf 252)]) r_222_37 (n_222_37 _) rfl ⟨rfl, rfl, by decide, by decide⟩ rfl rfl lf_252 ⟨rfl, Nat.le_of_ble_eq_true rfl, Nat.le_of_ble_eq_true rfl⟩ rfl h ?_
      intro o7 s7 h
      rcases h with ⟨y7, q8, rfl, h⟩ | ⟨e7, rfl, h⟩
      · refine .inl ⟨some (iv y7), rfl, ?_⟩
        show wp S 222 40 [(0, rf 252), (1, iv x1)] [iv y7] s7 Q
        refine i_istore_n (l' := [(0, rf 252), (1, iv x1), (2, iv y7)]) r_222_40 (n_222_40 _) (by decide) rfl ?_
        refine i_iload_n (x := y7) r_222_41 (n_222_41 _) rfl ?_
        refine i_iconst r_222_42 (n_222_42 _) ?_
        refine i_icmp (t := 51) r_222_43 (n_222_43 _) rfl (T_eq q8 ⟨by omega, by omega⟩) (fun c9 => ?_) (fun c9 => ?_)
        · replace h := h.1 c9
          refine i_aload_n (a := 252) r_222_51 (n_222_51 _) rfl ?_
          refine wp_virt (b := 252) (rest := []) (Ls := [(0, rf 252)]) r_222_52 (n_222_52 _) rfl ⟨rfl, rfl, by decide, by decide⟩ rfl rfl lf_252 ⟨rfl, Nat.le_of_ble_eq_true rfl, Nat.le_of_ble_eq_true rfl⟩ rfl h ?_
          intro o10 s10 h
          rcases h with ⟨rfl, h⟩ | ⟨e10, rfl, h⟩
          · refine .inl ⟨none, rfl, ?_⟩
            refine i_aload_n (a := 252) r_222_55 (n_222_55 _) rfl ?_
            refine i_iload_n (x := x1) r_222_56 (n_222_56 _) rfl ?_
            refine wp_virt (b := 252) (rest := []) (Ls := [(0, rf 252), (1, iv x1)]) r_222_57 (n_222_57 _) rfl ⟨rfl, rfl, by decide, by decide⟩ rfl rfl lf_252 ⟨rfl, Nat.le_of_ble_eq_true rfl, Nat.le_of_ble_eq_true rfl⟩ rfl h ?_
            intro o12 s12 h
            rcases h with ⟨rfl, h⟩ | ⟨e12, rfl, h⟩
            · refine .inl ⟨none, rfl, ?_⟩
              refine i_iconst r_222_60 (n_222_60 _) ?_
              refine i_istore_n (l' := [(0, rf 252), (1, iv x1), (2, iv y7), (3, iv 0)]) r_222_61 (n_222_61 _) (by decide) rfl ?_
              exact wp_pr (l' := [(0, rf 252), (3, iv 0)]) rfl h
            · skip
              exact h.elim
          · skip
            exact h.elim
        · replace h := h.2 c9
          refine i_bipush r_222_46 (n_222_46 _) rfl ?_
          refine i_iload_n (x := y7) r_222_48 (n_222_48 _) rfl ?_
          refine i_isub r_222_49 (n_222_49 _) ?_
          exact i_ireturn r_222_50 (n_222_50 _) rfl h
      · skip
        exact h.elim
    · replace h := h.2 c5
      refine i_iconst r_222_23 (n_222_23 _) ?_
      refine i_goto (t := 28) r_222_24 (n_222_24 _) rfl ?_
      refine wp_virt (b := 252) (rest := []) (Ls := [(0, rf 252), (1, iv 2)]) r_222_28 (n_222_28 _) rfl ⟨rfl, rfl, by decide, by decide⟩ rfl rfl lf_252 ⟨rfl, Nat.le_of_ble_eq_true rfl, Nat.le_of_ble_eq_true rfl⟩ rfl (K_Model_refused1 ⟨by omega, by omega⟩ (by omega)) ?_
      rintro _ _ ⟨rfl, rfl⟩
      refine .inl ⟨some (iv 1), rfl, ?_⟩
      show wp S 222 31 [(0, rf 252), (1, iv x1)] [iv 1] (zwI s 252 3 2) Q
      refine i_if (t := 36) r_222_31 (n_222_31 _) rfl (T_eq ⟨by omega, by omega⟩ ⟨by omega, by omega⟩) (fun z => absurd z (by omega)) (fun _ => ?_)
      refine i_iconst r_222_34 (n_222_34 _) ?_
      exact i_ireturn r_222_35 (n_222_35 _) rfl h
  · replace h := h.2 c3
    refine i_iconst r_222_8 (n_222_8 _) ?_
    refine i_goto (t := 28) r_222_9 (n_222_9 _) rfl ?_
    refine wp_virt (b := 252) (rest := []) (Ls := [(0, rf 252), (1, iv 1)]) r_222_28 (n_222_28 _) rfl ⟨rfl, rfl, by decide, by decide⟩ rfl rfl lf_252 ⟨rfl, Nat.le_of_ble_eq_true rfl, Nat.le_of_ble_eq_true rfl⟩ rfl (K_Model_refused1 ⟨by omega, by omega⟩ (by omega)) ?_
    rintro _ _ ⟨rfl, rfl⟩
    refine .inl ⟨some (iv 1), rfl, ?_⟩
    show wp S 222 31 [(0, rf 252), (1, iv x1)] [iv 1] (zwI s 252 3 1) Q
    refine i_if (t := 36) r_222_31 (n_222_31 _) rfl (T_eq ⟨by omega, by omega⟩ ⟨by omega, by omega⟩) (fun z => absurd z (by omega)) (fun _ => ?_)
    refine i_iconst r_222_34 (n_222_34 _) ?_
    exact i_ireturn r_222_35 (n_222_35 _) rfl h
theorem v_Model_define_62 {S : Option (Nat × (Nat → Int32))} {s : zSt} {Q : Option Value ⊕ Nat → zSt → Prop} {x3 : Int} 
    (h : rng x3 ∧ (((zI s 252 24) ≤ x3 → Q (rI ((zI s 253 0) - 1)) s) ∧ (x3 < (zI s 252 24) → (0 ≤ x3 ∧ x3 < 8) ∧ (wp S 203 0 [(0, rf 252), (1, iv ((zI s 253 0) - 1)), (2, iv (zI s 269 x3)), (3, iv (zI s 270 x3)), (4, iv (zI s 271 x3))] [] s (fun o10 s10 => zkU (wp S 222 62 [(0, rf 252), (3, iv (x3 + 1))] [] s10 Q) (fun e10 => False) o10))))) :
    wp S 222 62 [(0, rf 252), (3, iv x3)] [] s Q := by
  refine i_iload_n (x := x3) r_222_62 rfl rfl ?_
  refine i_aload_n (a := 252) r_222_63 (n_222_63 _) rfl ?_
  refine i_getI (a := 252) r_222_64 (n_222_64 _) rfl (by decide) lf_252 (fun q1 => ?_)
  obtain ⟨g2, h⟩ := h
  refine i_icmp (t := 106) r_222_67 (n_222_67 _) rfl (T_ge g2 q1) (fun c3 => ?_) (fun c3 => ?_)
  · replace h := h.1 c3
    refine i_aload_n (a := 252) r_222_106 (n_222_106 _) rfl ?_
    refine i_getR (a := 252) (b := 253) r_222_107 (n_222_107 _) rfl rfl rfl (by omega) lf_252 (by omega) ?_
    refine i_iconst r_222_110 (n_222_110 _) ?_
    refine i_iaload (a := 253) (j := 0) r_222_111 (n_222_111 _) lf_253 ⟨by omega, by omega⟩ (by omega) (by omega) (fun q4 => ?_)
    refine i_iconst r_222_112 (n_222_112 _) ?_
    refine i_isub r_222_113 (n_222_113 _) ?_
    exact i_ireturn r_222_114 (n_222_114 _) rfl h
  · replace h := h.2 c3
    refine i_aload_n (a := 252) r_222_70 (n_222_70 _) rfl ?_
    refine i_aload_n (a := 252) r_222_71 (n_222_71 _) rfl ?_
    refine i_getR (a := 252) (b := 253) r_222_72 (n_222_72 _) rfl rfl rfl (by omega) lf_252 (by omega) ?_
    refine i_iconst r_222_75 (n_222_75 _) ?_
    refine i_iaload (a := 253) (j := 0) r_222_76 (n_222_76 _) lf_253 ⟨by omega, by omega⟩ (by omega) (by omega) (fun q5 => ?_)
    refine i_iconst r_222_77 (n_222_77 _) ?_
    refine i_isub r_222_78 (n_222_78 _) ?_
    refine i_aload_n (a := 252) r_222_79 (n_222_79 _) rfl ?_
    refine i_getR (a := 252) (b := 269) r_222_80 (n_222_80 _) rfl rfl rfl (by omega) lf_252 (by omega) ?_
    refine i_iload_n (x := x3) r_222_83 (n_222_83 _) rfl ?_
    obtain ⟨g6, h⟩ := h
    refine i_iaload (a := 269) (j := x3) r_222_84 (n_222_84 _) lf_269 ⟨by omega, by omega⟩ (by omega) (by omega) (fun q7 => ?_)
    refine i_aload_n (a := 252) r_222_85 (n_222_85 _) rfl ?_
    refine i_getR (a := 252) (b := 270) r_222_86 (n_222_86 _) rfl rfl rfl (by omega) lf_252 (by omega) ?_
    refine i_iload_n (x := x3) r_222_89 (n_222_89 _) rfl ?_
    refine i_iaload (a := 270) (j := x3) r_222_90 (n_222_90 _) lf_270 ⟨by omega, by omega⟩ (by omega) (by omega) (fun q8 => ?_)
    refine i_aload_n (a := 252) r_222_91 (n_222_91 _) rfl ?_
    refine i_getR (a := 252) (b := 271) r_222_92 (n_222_92 _) rfl rfl rfl (by omega) lf_252 (by omega) ?_
    refine i_iload_n (x := x3) r_222_95 (n_222_95 _) rfl ?_
    refine i_iaload (a := 271) (j := x3) r_222_96 (n_222_96 _) lf_271 ⟨by omega, by omega⟩ (by omega) (by omega) (fun q9 => ?_)
    refine wp_virt (b := 252) (rest := []) (Ls := [(0, rf 252), (1, iv ((zI s 253 0) - 1)), (2, iv (zI s 269 x3)), (3, iv (zI s 270 x3)), (4, iv (zI s 271 x3))]) r_222_97 (n_222_97 _) rfl ⟨rfl, rfl, by decide, by decide⟩ rfl rfl lf_252 ⟨rfl, Nat.le_of_ble_eq_true rfl, Nat.le_of_ble_eq_true rfl⟩ rfl h ?_
    intro o10 s10 h
    rcases h with ⟨rfl, h⟩ | ⟨e10, rfl, h⟩
    · refine .inl ⟨none, rfl, ?_⟩
      refine i_iinc (x := x3) (l' := [(0, rf 252), (3, iv (x3 + 1))]) r_222_100 (n_222_100 _) (by decide) rfl rfl ?_
      refine i_goto (t := 62) r_222_103 (n_222_103 _) rfl ?_
      exact wp_pr (l' := [(0, rf 252), (3, iv (x3 + 1))]) rfl h
    · skip
      exact h.elim
theorem r_223_0 : xfetch 223 0 = some (.aload_n 0, 1) := by decide +kernel
theorem n_223_0 : ∀ l, xpr 223 0 l = l := xpr_no (by decide +kernel)
theorem r_223_1 : xfetch 223 1 = some (.invokevirtual 152, 3) := by decide +kernel
theorem n_223_1 : ∀ l, xpr 223 1 l = l := xpr_no (by decide +kernel)
theorem r_223_4 : xfetch 223 4 = some (.aload_n 0, 1) := by decide +kernel
theorem n_223_4 : ∀ l, xpr 223 4 l = l := xpr_no (by decide +kernel)
theorem r_223_5 : xfetch 223 5 = some (.iconst 0, 1) := by decide +kernel
theorem n_223_5 : ∀ l, xpr 223 5 l = l := xpr_no (by decide +kernel)
theorem r_223_6 : xfetch 223 6 = some (.putfield 203, 3) := by decide +kernel
theorem n_223_6 : ∀ l, xpr 223 6 l = l := xpr_no (by decide +kernel)
theorem r_223_9 : xfetch 223 9 = some (.aload_n 0, 1) := by decide +kernel
theorem n_223_9 : ∀ l, xpr 223 9 l = l := xpr_no (by decide +kernel)
theorem r_223_10 : xfetch 223 10 = some (.iconst 0, 1) := by decide +kernel
theorem n_223_10 : ∀ l, xpr 223 10 l = l := xpr_no (by decide +kernel)
theorem r_223_11 : xfetch 223 11 = some (.putfield 209, 3) := by decide +kernel
theorem n_223_11 : ∀ l, xpr 223 11 l = l := xpr_no (by decide +kernel)
theorem r_223_14 : xfetch 223 14 = some (.iconst 0, 1) := by decide +kernel
theorem n_223_14 : ∀ l, xpr 223 14 l = l := xpr_no (by decide +kernel)
theorem r_223_15 : xfetch 223 15 = some (.istore_n 1, 1) := by decide +kernel
theorem n_223_15 : ∀ l, xpr 223 15 l = l := xpr_no (by decide +kernel)
theorem r_223_16 : xfetch 223 16 = some (.aload_n 0, 1) := by decide +kernel
theorem r_223_17 : xfetch 223 17 = some (.iload_n 1, 1) := by decide +kernel
theorem n_223_17 : ∀ l, xpr 223 17 l = l := xpr_no (by decide +kernel)
theorem r_223_18 : xfetch 223 18 = some (.invokevirtual 212, 3) := by decide +kernel
theorem n_223_18 : ∀ l, xpr 223 18 l = l := xpr_no (by decide +kernel)
theorem r_223_21 : xfetch 223 21 = some (.istore_n 2, 1) := by decide +kernel
theorem n_223_21 : ∀ l, xpr 223 21 l = l := xpr_no (by decide +kernel)
theorem r_223_22 : xfetch 223 22 = some (.iload_n 2, 1) := by decide +kernel
theorem n_223_22 : ∀ l, xpr 223 22 l = l := xpr_no (by decide +kernel)
theorem r_223_23 : xfetch 223 23 = some (.iconst (-1), 1) := by decide +kernel
theorem n_223_23 : ∀ l, xpr 223 23 l = l := xpr_no (by decide +kernel)
theorem r_223_24 : xfetch 223 24 = some (.if_icmp .eq 5, 3) := by decide +kernel
theorem n_223_24 : ∀ l, xpr 223 24 l = l := xpr_no (by decide +kernel)
theorem r_223_27 : xfetch 223 27 = some (.iload_n 2, 1) := by decide +kernel
theorem n_223_27 : ∀ l, xpr 223 27 l = l := xpr_no (by decide +kernel)
theorem r_223_28 : xfetch 223 28 = some (.ireturn, 1) := by decide +kernel
theorem n_223_28 : ∀ l, xpr 223 28 l = l := xpr_no (by decide +kernel)
theorem r_223_29 : xfetch 223 29 = some (.aload_n 0, 1) := by decide +kernel
theorem n_223_29 : ∀ l, xpr 223 29 l = l := xpr_no (by decide +kernel)
theorem r_223_30 : xfetch 223 30 = some (.getfield 194, 3) := by decide +kernel
theorem n_223_30 : ∀ l, xpr 223 30 l = l := xpr_no (by decide +kernel)
theorem r_223_33 : xfetch 223 33 = some (.istore_n 1, 1) := by decide +kernel
theorem n_223_33 : ∀ l, xpr 223 33 l = l := xpr_no (by decide +kernel)
theorem r_223_34 : xfetch 223 34 = some (.iload_n 1, 1) := by decide +kernel
theorem n_223_34 : ∀ l, xpr 223 34 l = l := xpr_no (by decide +kernel)
theorem r_223_35 : xfetch 223 35 = some (.aload_n 0, 1) := by decide +kernel
theorem n_223_35 : ∀ l, xpr 223 35 l = l := xpr_no (by decide +kernel)
theorem r_223_36 : xfetch 223 36 = some (.getfield 179, 3) := by decide +kernel
theorem n_223_36 : ∀ l, xpr 223 36 l = l := xpr_no (by decide +kernel)
theorem r_223_39 : xfetch 223 39 = some (.if_icmp .lt (-23), 3) := by decide +kernel
theorem n_223_39 : ∀ l, xpr 223 39 l = l := xpr_no (by decide +kernel)
theorem r_223_42 : xfetch 223 42 = some (.iconst (-1), 1) := by decide +kernel
theorem n_223_42 : ∀ l, xpr 223 42 l = l := xpr_no (by decide +kernel)
theorem r_223_43 : xfetch 223 43 = some (.ireturn, 1) := by decide +kernel
theorem n_223_43 : ∀ l, xpr 223 43 l = l := xpr_no (by decide +kernel)
theorem v_Model_reads_0 {S : Option (Nat × (Nat → Int32))} {s : zSt} {Q : Option Value ⊕ Nat → zSt → Prop}  
    (h : wp S 193 0 [(0, rf 252)] [] s (fun o1 s1 => zkU (wp S 223 16 [(0, rf 252), (1, iv 0)] [] (zwI (zwI s1 252 24 0) 252 25 0) Q) (fun e1 => False) o1)) :
    wp S 223 0 [(0, rf 252)] [] s Q := by
  refine i_aload_n (a := 252) r_223_0 (n_223_0 _) rfl ?_
  refine wp_virt (b := 252) (rest := []) (Ls := [(0, rf 252)]) r_223_1 (n_223_1 _) rfl ⟨rfl, rfl, by decide, by decide⟩ rfl rfl lf_252 ⟨rfl, Nat.le_of_ble_eq_true rfl, Nat.le_of_ble_eq_true rfl⟩ rfl h ?_
  intro o1 s1 h
  rcases h with ⟨rfl, h⟩ | ⟨e1, rfl, h⟩
  · refine .inl ⟨none, rfl, ?_⟩
    refine i_aload_n (a := 252) r_223_4 (n_223_4 _) rfl ?_
    refine i_iconst r_223_5 (n_223_5 _) ?_
    refine i_putI (a := 252) (x := 0) r_223_6 (n_223_6 _) rfl (.inl rfl) rfl lf_252 ⟨by omega, by omega⟩ ?_
    refine i_aload_n (a := 252) r_223_9 (n_223_9 _) rfl ?_
    refine i_iconst r_223_10 (n_223_10 _) ?_
    refine i_putI (a := 252) (x := 0) r_223_11 (n_223_11 _) rfl (.inl rfl) rfl lf_252 ⟨by omega, by omega⟩ ?_
    refine i_iconst r_223_14 (n_223_14 _) ?_
    refine i_istore_n (l' := [(0, rf 252), (1, iv 0)]) r_223_15 (n_223_15 _) (by decide) rfl ?_
    exact wp_pr (l' := [(0, rf 252), (1, iv 0)]) rfl h
  · skip
    exact h.elim
theorem v_Model_reads_16 {S : Option (Nat × (Nat → Int32))} {s : zSt} {Q : Option Value ⊕ Nat → zSt → Prop} {x1 : Int} 
    (h : wp S 224 0 [(0, rf 252), (1, iv x1)] [] s (fun o1 s1 => zkI (fun y1 => (y1 = (-1) → ((zI s1 252 20) < (zI s1 252 5) → wp S 223 16 [(0, rf 252), (1, iv (zI s1 252 20))] [] s1 Q) ∧ ((zI s1 252 5) ≤ (zI s1 252 20) → Q (rI (-1)) s1)) ∧ (y1 ≠ (-1) → Q (rI y1) s1)) (fun e1 => False) o1)) :
    wp S 223 16 [(0, rf 252), (1, iv x1)] [] s Q := by
  refine i_aload_n (a := 252) r_223_16 rfl rfl ?_
  refine i_iload_n (x := x1) r_223_17 (n_223_17 _) rfl ?_
  refine wp_virt (b := 252) (rest := []) (Ls := [(0, rf 252), (1, iv x1)]) r_223_18 (n_223_18 _) rfl ⟨rfl, rfl, by decide, by decide⟩ rfl rfl lf_252 ⟨rfl, Nat.le_of_ble_eq_true rfl, Nat.le_of_ble_eq_true rfl⟩ rfl h ?_
  intro o1 s1 h
  rcases h with ⟨y1, q2, rfl, h⟩ | ⟨e1, rfl, h⟩
  · refine .inl ⟨some (iv y1), rfl, ?_⟩
    show wp S 223 21 [(0, rf 252), (1, iv x1)] [iv y1] s1 Q
    refine i_istore_n (l' := [(0, rf 252), (1, iv x1), (2, iv y1)]) r_223_21 (n_223_21 _) (by decide) rfl ?_
    refine i_iload_n (x := y1) r_223_22 (n_223_22 _) rfl ?_
    refine i_iconst r_223_23 (n_223_23 _) ?_
    refine i_icmp (t := 29) r_223_24 (n_223_24 _) rfl (T_eq q2 ⟨by omega, by omega⟩) (fun c3 => ?_) (fun c3 => ?_)
    · replace h := h.1 c3
      refine i_aload_n (a := 252) r_223_29 (n_223_29 _) rfl ?_
      refine i_getI (a := 252) r_223_30 (n_223_30 _) rfl (by decide) lf_252 (fun q4 => ?_)
      refine i_istore_n (l' := [(0, rf 252), (1, iv (zI s1 252 20)), (2, iv y1)]) r_223_33 (n_223_33 _) (by decide) rfl ?_
      refine i_iload_n (x := zI s1 252 20) r_223_34 (n_223_34 _) rfl ?_
      refine i_aload_n (a := 252) r_223_35 (n_223_35 _) rfl ?_
      refine i_getI (a := 252) r_223_36 (n_223_36 _) rfl (by decide) lf_252 (fun q5 => ?_)
      refine i_icmp (t := 16) r_223_39 (n_223_39 _) rfl (T_lt q4 q5) (fun c6 => ?_) (fun c6 => ?_)
      · replace h := h.1 c6
        exact wp_pr (l' := [(0, rf 252), (1, iv (zI s1 252 20))]) rfl h
      · replace h := h.2 c6
        refine i_iconst r_223_42 (n_223_42 _) ?_
        exact i_ireturn r_223_43 (n_223_43 _) rfl h
    · replace h := h.2 c3
      refine i_iload_n (x := y1) r_223_27 (n_223_27 _) rfl ?_
      exact i_ireturn r_223_28 (n_223_28 _) rfl h
  · skip
    exact h.elim
theorem r_224_0 : xfetch 224 0 = some (.aload_n 0, 1) := by decide +kernel
theorem n_224_0 : ∀ l, xpr 224 0 l = l := xpr_no (by decide +kernel)
theorem r_224_1 : xfetch 224 1 = some (.iload_n 1, 1) := by decide +kernel
theorem n_224_1 : ∀ l, xpr 224 1 l = l := xpr_no (by decide +kernel)
theorem r_224_2 : xfetch 224 2 = some (.invokevirtual 197, 3) := by decide +kernel
theorem n_224_2 : ∀ l, xpr 224 2 l = l := xpr_no (by decide +kernel)
theorem r_224_5 : xfetch 224 5 = some (.istore_n 2, 1) := by decide +kernel
theorem n_224_5 : ∀ l, xpr 224 5 l = l := xpr_no (by decide +kernel)
theorem r_224_6 : xfetch 224 6 = some (.iload_n 2, 1) := by decide +kernel
theorem n_224_6 : ∀ l, xpr 224 6 l = l := xpr_no (by decide +kernel)
theorem r_224_7 : xfetch 224 7 = some (.bipush 97, 2) := by decide +kernel
theorem n_224_7 : ∀ l, xpr 224 7 l = l := xpr_no (by decide +kernel)
theorem r_224_9 : xfetch 224 9 = some (.bipush 122, 2) := by decide +kernel
theorem n_224_9 : ∀ l, xpr 224 9 l = l := xpr_no (by decide +kernel)
theorem r_224_11 : xfetch 224 11 = some (.invokestatic 88, 3) := by decide +kernel
theorem n_224_11 : ∀ l, xpr 224 11 l = l := xpr_no (by decide +kernel)
theorem r_224_14 : xfetch 224 14 = some (.ifCond .eq 16, 3) := by decide +kernel
theorem n_224_14 : ∀ l, xpr 224 14 l = l := xpr_no (by decide +kernel)
theorem r_224_17 : xfetch 224 17 = some (.aload_n 0, 1) := by decide +kernel
theorem n_224_17 : ∀ l, xpr 224 17 l = l := xpr_no (by decide +kernel)
theorem r_224_18 : xfetch 224 18 = some (.getfield 203, 3) := by decide +kernel
theorem n_224_18 : ∀ l, xpr 224 18 l = l := xpr_no (by decide +kernel)
theorem r_224_21 : xfetch 224 21 = some (.bipush 8, 2) := by decide +kernel
theorem n_224_21 : ∀ l, xpr 224 21 l = l := xpr_no (by decide +kernel)
theorem r_224_23 : xfetch 224 23 = some (.if_icmp .ge 7, 3) := by decide +kernel
theorem n_224_23 : ∀ l, xpr 224 23 l = l := xpr_no (by decide +kernel)
theorem r_224_26 : xfetch 224 26 = some (.iconst 1, 1) := by decide +kernel
theorem n_224_26 : ∀ l, xpr 224 26 l = l := xpr_no (by decide +kernel)
theorem r_224_27 : xfetch 224 27 = some (.goto 4, 3) := by decide +kernel
theorem n_224_27 : ∀ l, xpr 224 27 l = l := xpr_no (by decide +kernel)
theorem r_224_30 : xfetch 224 30 = some (.iconst 0, 1) := by decide +kernel
theorem n_224_30 : ∀ l, xpr 224 30 l = l := xpr_no (by decide +kernel)
theorem r_224_31 : xfetch 224 31 = some (.istore_n 3, 1) := by decide +kernel
theorem n_224_31 : ∀ l, xpr 224 31 l = l := xpr_no (by decide +kernel)
theorem r_224_32 : xfetch 224 32 = some (.iconst 0, 1) := by decide +kernel
theorem n_224_32 : ∀ l, xpr 224 32 l = l := xpr_no (by decide +kernel)
theorem r_224_33 : xfetch 224 33 = some (.istore 4, 2) := by decide +kernel
theorem n_224_33 : ∀ l, xpr 224 33 l = l := xpr_no (by decide +kernel)
theorem r_224_35 : xfetch 224 35 = some (.iload 4, 2) := by decide +kernel
theorem r_224_37 : xfetch 224 37 = some (.aload_n 0, 1) := by decide +kernel
theorem n_224_37 : ∀ l, xpr 224 37 l = l := xpr_no (by decide +kernel)
theorem r_224_38 : xfetch 224 38 = some (.getfield 203, 3) := by decide +kernel
theorem n_224_38 : ∀ l, xpr 224 38 l = l := xpr_no (by decide +kernel)
theorem r_224_41 : xfetch 224 41 = some (.if_icmp .ge 30, 3) := by decide +kernel
theorem n_224_41 : ∀ l, xpr 224 41 l = l := xpr_no (by decide +kernel)
theorem r_224_44 : xfetch 224 44 = some (.iload_n 3, 1) := by decide +kernel
theorem n_224_44 : ∀ l, xpr 224 44 l = l := xpr_no (by decide +kernel)
theorem r_224_45 : xfetch 224 45 = some (.ifCond .eq 18, 3) := by decide +kernel
theorem n_224_45 : ∀ l, xpr 224 45 l = l := xpr_no (by decide +kernel)
theorem r_224_48 : xfetch 224 48 = some (.aload_n 0, 1) := by decide +kernel
theorem n_224_48 : ∀ l, xpr 224 48 l = l := xpr_no (by decide +kernel)
theorem r_224_49 : xfetch 224 49 = some (.getfield 58, 3) := by decide +kernel
theorem n_224_49 : ∀ l, xpr 224 49 l = l := xpr_no (by decide +kernel)
theorem r_224_52 : xfetch 224 52 = some (.iload 4, 2) := by decide +kernel
theorem n_224_52 : ∀ l, xpr 224 52 l = l := xpr_no (by decide +kernel)
theorem r_224_54 : xfetch 224 54 = some (.iaload, 1) := by decide +kernel
theorem n_224_54 : ∀ l, xpr 224 54 l = l := xpr_no (by decide +kernel)
theorem r_224_55 : xfetch 224 55 = some (.iload_n 2, 1) := by decide +kernel
theorem n_224_55 : ∀ l, xpr 224 55 l = l := xpr_no (by decide +kernel)
theorem r_224_56 : xfetch 224 56 = some (.if_icmp .eq 7, 3) := by decide +kernel
theorem n_224_56 : ∀ l, xpr 224 56 l = l := xpr_no (by decide +kernel)
theorem r_224_59 : xfetch 224 59 = some (.iconst 1, 1) := by decide +kernel
theorem n_224_59 : ∀ l, xpr 224 59 l = l := xpr_no (by decide +kernel)
theorem r_224_60 : xfetch 224 60 = some (.goto 4, 3) := by decide +kernel
theorem n_224_60 : ∀ l, xpr 224 60 l = l := xpr_no (by decide +kernel)
theorem r_224_63 : xfetch 224 63 = some (.iconst 0, 1) := by decide +kernel
theorem n_224_63 : ∀ l, xpr 224 63 l = l := xpr_no (by decide +kernel)
theorem r_224_64 : xfetch 224 64 = some (.istore_n 3, 1) := by decide +kernel
theorem n_224_64 : ∀ l, xpr 224 64 l = l := xpr_no (by decide +kernel)
theorem r_224_65 : xfetch 224 65 = some (.iinc 4 1, 3) := by decide +kernel
theorem n_224_65 : ∀ l, xpr 224 65 l = l := xpr_no (by decide +kernel)
theorem r_224_68 : xfetch 224 68 = some (.goto (-33), 3) := by decide +kernel
theorem n_224_68 : ∀ l, xpr 224 68 l = l := xpr_no (by decide +kernel)
theorem r_224_71 : xfetch 224 71 = some (.iload_n 3, 1) := by decide +kernel
theorem n_224_71 : ∀ l, xpr 224 71 l = l := xpr_no (by decide +kernel)
theorem r_224_72 : xfetch 224 72 = some (.ifCond .ne 5, 3) := by decide +kernel
theorem n_224_72 : ∀ l, xpr 224 72 l = l := xpr_no (by decide +kernel)
theorem r_224_75 : xfetch 224 75 = some (.iload_n 1, 1) := by decide +kernel
theorem n_224_75 : ∀ l, xpr 224 75 l = l := xpr_no (by decide +kernel)
theorem r_224_76 : xfetch 224 76 = some (.ireturn, 1) := by decide +kernel
theorem n_224_76 : ∀ l, xpr 224 76 l = l := xpr_no (by decide +kernel)
theorem r_224_77 : xfetch 224 77 = some (.aload_n 0, 1) := by decide +kernel
theorem n_224_77 : ∀ l, xpr 224 77 l = l := xpr_no (by decide +kernel)
theorem r_224_78 : xfetch 224 78 = some (.iload_n 1, 1) := by decide +kernel
theorem n_224_78 : ∀ l, xpr 224 78 l = l := xpr_no (by decide +kernel)
theorem r_224_79 : xfetch 224 79 = some (.iconst 1, 1) := by decide +kernel
theorem n_224_79 : ∀ l, xpr 224 79 l = l := xpr_no (by decide +kernel)
theorem r_224_80 : xfetch 224 80 = some (.iadd, 1) := by decide +kernel
theorem n_224_80 : ∀ l, xpr 224 80 l = l := xpr_no (by decide +kernel)
theorem r_224_81 : xfetch 224 81 = some (.invokevirtual 197, 3) := by decide +kernel
theorem n_224_81 : ∀ l, xpr 224 81 l = l := xpr_no (by decide +kernel)
theorem r_224_84 : xfetch 224 84 = some (.bipush 58, 2) := by decide +kernel
theorem n_224_84 : ∀ l, xpr 224 84 l = l := xpr_no (by decide +kernel)
theorem r_224_86 : xfetch 224 86 = some (.if_icmp .eq 7, 3) := by decide +kernel
theorem n_224_86 : ∀ l, xpr 224 86 l = l := xpr_no (by decide +kernel)
theorem r_224_89 : xfetch 224 89 = some (.iload_n 1, 1) := by decide +kernel
theorem n_224_89 : ∀ l, xpr 224 89 l = l := xpr_no (by decide +kernel)
theorem r_224_90 : xfetch 224 90 = some (.iconst 1, 1) := by decide +kernel
theorem n_224_90 : ∀ l, xpr 224 90 l = l := xpr_no (by decide +kernel)
theorem r_224_91 : xfetch 224 91 = some (.iadd, 1) := by decide +kernel
theorem n_224_91 : ∀ l, xpr 224 91 l = l := xpr_no (by decide +kernel)
theorem r_224_92 : xfetch 224 92 = some (.ireturn, 1) := by decide +kernel
theorem n_224_92 : ∀ l, xpr 224 92 l = l := xpr_no (by decide +kernel)
theorem r_224_93 : xfetch 224 93 = some (.aload_n 0, 1) := by decide +kernel
theorem n_224_93 : ∀ l, xpr 224 93 l = l := xpr_no (by decide +kernel)
theorem r_224_94 : xfetch 224 94 = some (.iload_n 1, 1) := by decide +kernel
theorem n_224_94 : ∀ l, xpr 224 94 l = l := xpr_no (by decide +kernel)
theorem r_224_95 : xfetch 224 95 = some (.iconst 2, 1) := by decide +kernel
theorem n_224_95 : ∀ l, xpr 224 95 l = l := xpr_no (by decide +kernel)
theorem r_224_96 : xfetch 224 96 = some (.iadd, 1) := by decide +kernel
theorem n_224_96 : ∀ l, xpr 224 96 l = l := xpr_no (by decide +kernel)
theorem r_224_97 : xfetch 224 97 = some (.invokevirtual 206, 3) := by decide +kernel
theorem n_224_97 : ∀ l, xpr 224 97 l = l := xpr_no (by decide +kernel)
theorem r_224_100 : xfetch 224 100 = some (.istore 4, 2) := by decide +kernel
theorem n_224_100 : ∀ l, xpr 224 100 l = l := xpr_no (by decide +kernel)
theorem r_224_102 : xfetch 224 102 = some (.iload 4, 2) := by decide +kernel
theorem n_224_102 : ∀ l, xpr 224 102 l = l := xpr_no (by decide +kernel)
theorem r_224_104 : xfetch 224 104 = some (.iconst (-1), 1) := by decide +kernel
theorem n_224_104 : ∀ l, xpr 224 104 l = l := xpr_no (by decide +kernel)
theorem r_224_105 : xfetch 224 105 = some (.if_icmp .eq 6, 3) := by decide +kernel
theorem n_224_105 : ∀ l, xpr 224 105 l = l := xpr_no (by decide +kernel)
theorem r_224_108 : xfetch 224 108 = some (.iload 4, 2) := by decide +kernel
theorem n_224_108 : ∀ l, xpr 224 108 l = l := xpr_no (by decide +kernel)
theorem r_224_110 : xfetch 224 110 = some (.ireturn, 1) := by decide +kernel
theorem n_224_110 : ∀ l, xpr 224 110 l = l := xpr_no (by decide +kernel)
theorem r_224_111 : xfetch 224 111 = some (.aload_n 0, 1) := by decide +kernel
theorem n_224_111 : ∀ l, xpr 224 111 l = l := xpr_no (by decide +kernel)
theorem r_224_112 : xfetch 224 112 = some (.getfield 191, 3) := by decide +kernel
theorem n_224_112 : ∀ l, xpr 224 112 l = l := xpr_no (by decide +kernel)
theorem r_224_115 : xfetch 224 115 = some (.istore 5, 2) := by decide +kernel
theorem n_224_115 : ∀ l, xpr 224 115 l = l := xpr_no (by decide +kernel)
theorem r_224_117 : xfetch 224 117 = some (.aload_n 0, 1) := by decide +kernel
theorem n_224_117 : ∀ l, xpr 224 117 l = l := xpr_no (by decide +kernel)
theorem r_224_118 : xfetch 224 118 = some (.getfield 194, 3) := by decide +kernel
theorem n_224_118 : ∀ l, xpr 224 118 l = l := xpr_no (by decide +kernel)
theorem r_224_121 : xfetch 224 121 = some (.istore 6, 2) := by decide +kernel
theorem n_224_121 : ∀ l, xpr 224 121 l = l := xpr_no (by decide +kernel)
theorem r_224_123 : xfetch 224 123 = some (.iconst 1, 1) := by decide +kernel
theorem n_224_123 : ∀ l, xpr 224 123 l = l := xpr_no (by decide +kernel)
theorem r_224_124 : xfetch 224 124 = some (.istore 7, 2) := by decide +kernel
theorem n_224_124 : ∀ l, xpr 224 124 l = l := xpr_no (by decide +kernel)
theorem r_224_126 : xfetch 224 126 = some (.aload_n 0, 1) := by decide +kernel
theorem n_224_126 : ∀ l, xpr 224 126 l = l := xpr_no (by decide +kernel)
theorem r_224_127 : xfetch 224 127 = some (.iload 6, 2) := by decide +kernel
theorem n_224_127 : ∀ l, xpr 224 127 l = l := xpr_no (by decide +kernel)
theorem r_224_129 : xfetch 224 129 = some (.invokevirtual 197, 3) := by decide +kernel
theorem n_224_129 : ∀ l, xpr 224 129 l = l := xpr_no (by decide +kernel)
theorem r_224_132 : xfetch 224 132 = some (.bipush 91, 2) := by decide +kernel
theorem n_224_132 : ∀ l, xpr 224 132 l = l := xpr_no (by decide +kernel)
theorem r_224_134 : xfetch 224 134 = some (.if_icmp .ne 68, 3) := by decide +kernel
theorem n_224_134 : ∀ l, xpr 224 134 l = l := xpr_no (by decide +kernel)
theorem r_224_137 : xfetch 224 137 = some (.iload 5, 2) := by decide +kernel
theorem n_224_137 : ∀ l, xpr 224 137 l = l := xpr_no (by decide +kernel)
theorem r_224_139 : xfetch 224 139 = some (.invokestatic 109, 3) := by decide +kernel
theorem n_224_139 : ∀ l, xpr 224 139 l = l := xpr_no (by decide +kernel)
theorem r_224_142 : xfetch 224 142 = some (.ifCond .ne 60, 3) := by decide +kernel
theorem n_224_142 : ∀ l, xpr 224 142 l = l := xpr_no (by decide +kernel)
theorem r_224_145 : xfetch 224 145 = some (.aload_n 0, 1) := by decide +kernel
theorem n_224_145 : ∀ l, xpr 224 145 l = l := xpr_no (by decide +kernel)
theorem r_224_146 : xfetch 224 146 = some (.iload 6, 2) := by decide +kernel
theorem n_224_146 : ∀ l, xpr 224 146 l = l := xpr_no (by decide +kernel)
theorem r_224_148 : xfetch 224 148 = some (.iconst 1, 1) := by decide +kernel
theorem n_224_148 : ∀ l, xpr 224 148 l = l := xpr_no (by decide +kernel)
theorem r_224_149 : xfetch 224 149 = some (.iadd, 1) := by decide +kernel
theorem n_224_149 : ∀ l, xpr 224 149 l = l := xpr_no (by decide +kernel)
theorem r_224_150 : xfetch 224 150 = some (.invokevirtual 197, 3) := by decide +kernel
theorem n_224_150 : ∀ l, xpr 224 150 l = l := xpr_no (by decide +kernel)
theorem r_224_153 : xfetch 224 153 = some (.bipush 49, 2) := by decide +kernel
theorem n_224_153 : ∀ l, xpr 224 153 l = l := xpr_no (by decide +kernel)
theorem r_224_155 : xfetch 224 155 = some (.bipush 52, 2) := by decide +kernel
theorem n_224_155 : ∀ l, xpr 224 155 l = l := xpr_no (by decide +kernel)
theorem r_224_157 : xfetch 224 157 = some (.invokestatic 88, 3) := by decide +kernel
theorem n_224_157 : ∀ l, xpr 224 157 l = l := xpr_no (by decide +kernel)
theorem r_224_160 : xfetch 224 160 = some (.ifCond .ne 8, 3) := by decide +kernel
theorem n_224_160 : ∀ l, xpr 224 160 l = l := xpr_no (by decide +kernel)
theorem r_224_163 : xfetch 224 163 = some (.iload 6, 2) := by decide +kernel
theorem n_224_163 : ∀ l, xpr 224 163 l = l := xpr_no (by decide +kernel)
theorem r_224_165 : xfetch 224 165 = some (.iconst 1, 1) := by decide +kernel
theorem n_224_165 : ∀ l, xpr 224 165 l = l := xpr_no (by decide +kernel)
theorem r_224_166 : xfetch 224 166 = some (.iadd, 1) := by decide +kernel
theorem n_224_166 : ∀ l, xpr 224 166 l = l := xpr_no (by decide +kernel)
theorem r_224_167 : xfetch 224 167 = some (.ireturn, 1) := by decide +kernel
theorem n_224_167 : ∀ l, xpr 224 167 l = l := xpr_no (by decide +kernel)
theorem r_224_168 : xfetch 224 168 = some (.aload_n 0, 1) := by decide +kernel
theorem n_224_168 : ∀ l, xpr 224 168 l = l := xpr_no (by decide +kernel)
theorem r_224_169 : xfetch 224 169 = some (.iload 6, 2) := by decide +kernel
theorem n_224_169 : ∀ l, xpr 224 169 l = l := xpr_no (by decide +kernel)
theorem r_224_171 : xfetch 224 171 = some (.iconst 1, 1) := by decide +kernel
theorem n_224_171 : ∀ l, xpr 224 171 l = l := xpr_no (by decide +kernel)
theorem r_224_172 : xfetch 224 172 = some (.iadd, 1) := by decide +kernel
theorem n_224_172 : ∀ l, xpr 224 172 l = l := xpr_no (by decide +kernel)
theorem r_224_173 : xfetch 224 173 = some (.invokevirtual 197, 3) := by decide +kernel
theorem n_224_173 : ∀ l, xpr 224 173 l = l := xpr_no (by decide +kernel)
theorem r_224_176 : xfetch 224 176 = some (.bipush 48, 2) := by decide +kernel
theorem n_224_176 : ∀ l, xpr 224 176 l = l := xpr_no (by decide +kernel)
theorem r_224_178 : xfetch 224 178 = some (.isub, 1) := by decide +kernel
theorem n_224_178 : ∀ l, xpr 224 178 l = l := xpr_no (by decide +kernel)
theorem r_224_179 : xfetch 224 179 = some (.istore 7, 2) := by decide +kernel
theorem n_224_179 : ∀ l, xpr 224 179 l = l := xpr_no (by decide +kernel)
theorem r_224_181 : xfetch 224 181 = some (.aload_n 0, 1) := by decide +kernel
theorem n_224_181 : ∀ l, xpr 224 181 l = l := xpr_no (by decide +kernel)
theorem r_224_182 : xfetch 224 182 = some (.iload 6, 2) := by decide +kernel
theorem n_224_182 : ∀ l, xpr 224 182 l = l := xpr_no (by decide +kernel)
theorem r_224_184 : xfetch 224 184 = some (.iconst 2, 1) := by decide +kernel
theorem n_224_184 : ∀ l, xpr 224 184 l = l := xpr_no (by decide +kernel)
theorem r_224_185 : xfetch 224 185 = some (.iadd, 1) := by decide +kernel
theorem n_224_185 : ∀ l, xpr 224 185 l = l := xpr_no (by decide +kernel)
theorem r_224_186 : xfetch 224 186 = some (.invokevirtual 197, 3) := by decide +kernel
theorem n_224_186 : ∀ l, xpr 224 186 l = l := xpr_no (by decide +kernel)
theorem r_224_189 : xfetch 224 189 = some (.bipush 93, 2) := by decide +kernel
theorem n_224_189 : ∀ l, xpr 224 189 l = l := xpr_no (by decide +kernel)
theorem r_224_191 : xfetch 224 191 = some (.if_icmp .eq 8, 3) := by decide +kernel
theorem n_224_191 : ∀ l, xpr 224 191 l = l := xpr_no (by decide +kernel)
theorem r_224_194 : xfetch 224 194 = some (.iload 6, 2) := by decide +kernel
theorem n_224_194 : ∀ l, xpr 224 194 l = l := xpr_no (by decide +kernel)
theorem r_224_196 : xfetch 224 196 = some (.iconst 2, 1) := by decide +kernel
theorem n_224_196 : ∀ l, xpr 224 196 l = l := xpr_no (by decide +kernel)
theorem r_224_197 : xfetch 224 197 = some (.iadd, 1) := by decide +kernel
theorem n_224_197 : ∀ l, xpr 224 197 l = l := xpr_no (by decide +kernel)
theorem r_224_198 : xfetch 224 198 = some (.ireturn, 1) := by decide +kernel
theorem n_224_198 : ∀ l, xpr 224 198 l = l := xpr_no (by decide +kernel)
theorem r_224_199 : xfetch 224 199 = some (.iinc 6 3, 3) := by decide +kernel
theorem n_224_199 : ∀ l, xpr 224 199 l = l := xpr_no (by decide +kernel)
theorem r_224_202 : xfetch 224 202 = some (.iload 7, 2) := by decide +kernel
theorem r_224_204 : xfetch 224 204 = some (.iload 5, 2) := by decide +kernel
theorem n_224_204 : ∀ l, xpr 224 204 l = l := xpr_no (by decide +kernel)
theorem r_224_206 : xfetch 224 206 = some (.bipush 100, 2) := by decide +kernel
theorem n_224_206 : ∀ l, xpr 224 206 l = l := xpr_no (by decide +kernel)
theorem r_224_208 : xfetch 224 208 = some (.if_icmp .lt 16, 3) := by decide +kernel
theorem n_224_208 : ∀ l, xpr 224 208 l = l := xpr_no (by decide +kernel)
theorem r_224_211 : xfetch 224 211 = some (.aload_n 0, 1) := by decide +kernel
theorem n_224_211 : ∀ l, xpr 224 211 l = l := xpr_no (by decide +kernel)
theorem r_224_212 : xfetch 224 212 = some (.getfield 19, 3) := by decide +kernel
theorem n_224_212 : ∀ l, xpr 224 212 l = l := xpr_no (by decide +kernel)
theorem r_224_215 : xfetch 224 215 = some (.iload 5, 2) := by decide +kernel
theorem n_224_215 : ∀ l, xpr 224 215 l = l := xpr_no (by decide +kernel)
theorem r_224_217 : xfetch 224 217 = some (.bipush 100, 2) := by decide +kernel
theorem n_224_217 : ∀ l, xpr 224 217 l = l := xpr_no (by decide +kernel)
theorem r_224_219 : xfetch 224 219 = some (.isub, 1) := by decide +kernel
theorem n_224_219 : ∀ l, xpr 224 219 l = l := xpr_no (by decide +kernel)
theorem r_224_220 : xfetch 224 220 = some (.iaload, 1) := by decide +kernel
theorem n_224_220 : ∀ l, xpr 224 220 l = l := xpr_no (by decide +kernel)
theorem r_224_221 : xfetch 224 221 = some (.goto 4, 3) := by decide +kernel
theorem n_224_221 : ∀ l, xpr 224 221 l = l := xpr_no (by decide +kernel)
theorem r_224_224 : xfetch 224 224 = some (.iconst 1, 1) := by decide +kernel
theorem n_224_224 : ∀ l, xpr 224 224 l = l := xpr_no (by decide +kernel)
theorem r_224_225 : xfetch 224 225 = some (.imul, 1) := by decide +kernel
theorem n_224_225 : ∀ l, xpr 224 225 l = l := xpr_no (by decide +kernel)
theorem r_224_226 : xfetch 224 226 = some (.istore 8, 2) := by decide +kernel
theorem n_224_226 : ∀ l, xpr 224 226 l = l := xpr_no (by decide +kernel)
theorem r_224_228 : xfetch 224 228 = some (.aload_n 0, 1) := by decide +kernel
theorem n_224_228 : ∀ l, xpr 224 228 l = l := xpr_no (by decide +kernel)
theorem r_224_229 : xfetch 224 229 = some (.iload 6, 2) := by decide +kernel
theorem n_224_229 : ∀ l, xpr 224 229 l = l := xpr_no (by decide +kernel)
theorem r_224_231 : xfetch 224 231 = some (.invokevirtual 197, 3) := by decide +kernel
theorem n_224_231 : ∀ l, xpr 224 231 l = l := xpr_no (by decide +kernel)
theorem r_224_234 : xfetch 224 234 = some (.bipush 59, 2) := by decide +kernel
theorem n_224_234 : ∀ l, xpr 224 234 l = l := xpr_no (by decide +kernel)
theorem r_224_236 : xfetch 224 236 = some (.if_icmp .ne 15, 3) := by decide +kernel
theorem n_224_236 : ∀ l, xpr 224 236 l = l := xpr_no (by decide +kernel)
theorem r_224_239 : xfetch 224 239 = some (.aload_n 0, 1) := by decide +kernel
theorem n_224_239 : ∀ l, xpr 224 239 l = l := xpr_no (by decide +kernel)
theorem r_224_240 : xfetch 224 240 = some (.getfield 209, 3) := by decide +kernel
theorem n_224_240 : ∀ l, xpr 224 240 l = l := xpr_no (by decide +kernel)
theorem r_224_243 : xfetch 224 243 = some (.iload 8, 2) := by decide +kernel
theorem n_224_243 : ∀ l, xpr 224 243 l = l := xpr_no (by decide +kernel)
theorem r_224_245 : xfetch 224 245 = some (.iadd, 1) := by decide +kernel
theorem n_224_245 : ∀ l, xpr 224 245 l = l := xpr_no (by decide +kernel)
theorem r_224_246 : xfetch 224 246 = some (.bipush 40, 2) := by decide +kernel
theorem n_224_246 : ∀ l, xpr 224 246 l = l := xpr_no (by decide +kernel)
theorem r_224_248 : xfetch 224 248 = some (.if_icmp .le 6, 3) := by decide +kernel
theorem n_224_248 : ∀ l, xpr 224 248 l = l := xpr_no (by decide +kernel)
theorem r_224_251 : xfetch 224 251 = some (.iload 6, 2) := by decide +kernel
theorem n_224_251 : ∀ l, xpr 224 251 l = l := xpr_no (by decide +kernel)
theorem r_224_253 : xfetch 224 253 = some (.ireturn, 1) := by decide +kernel
theorem n_224_253 : ∀ l, xpr 224 253 l = l := xpr_no (by decide +kernel)
theorem r_224_254 : xfetch 224 254 = some (.aload_n 0, 1) := by decide +kernel
theorem n_224_254 : ∀ l, xpr 224 254 l = l := xpr_no (by decide +kernel)
theorem r_224_255 : xfetch 224 255 = some (.getfield 58, 3) := by decide +kernel
theorem n_224_255 : ∀ l, xpr 224 255 l = l := xpr_no (by decide +kernel)
theorem r_224_258 : xfetch 224 258 = some (.aload_n 0, 1) := by decide +kernel
theorem n_224_258 : ∀ l, xpr 224 258 l = l := xpr_no (by decide +kernel)
theorem r_224_259 : xfetch 224 259 = some (.getfield 203, 3) := by decide +kernel
theorem n_224_259 : ∀ l, xpr 224 259 l = l := xpr_no (by decide +kernel)
theorem r_224_262 : xfetch 224 262 = some (.iload_n 2, 1) := by decide +kernel
theorem n_224_262 : ∀ l, xpr 224 262 l = l := xpr_no (by decide +kernel)
theorem r_224_263 : xfetch 224 263 = some (.iastore, 1) := by decide +kernel
theorem n_224_263 : ∀ l, xpr 224 263 l = l := xpr_no (by decide +kernel)
theorem r_224_264 : xfetch 224 264 = some (.aload_n 0, 1) := by decide +kernel
theorem n_224_264 : ∀ l, xpr 224 264 l = l := xpr_no (by decide +kernel)
theorem r_224_265 : xfetch 224 265 = some (.getfield 61, 3) := by decide +kernel
theorem n_224_265 : ∀ l, xpr 224 265 l = l := xpr_no (by decide +kernel)
theorem r_224_268 : xfetch 224 268 = some (.aload_n 0, 1) := by decide +kernel
theorem n_224_268 : ∀ l, xpr 224 268 l = l := xpr_no (by decide +kernel)
theorem r_224_269 : xfetch 224 269 = some (.getfield 203, 3) := by decide +kernel
theorem n_224_269 : ∀ l, xpr 224 269 l = l := xpr_no (by decide +kernel)
theorem r_224_272 : xfetch 224 272 = some (.iload 5, 2) := by decide +kernel
theorem n_224_272 : ∀ l, xpr 224 272 l = l := xpr_no (by decide +kernel)
theorem r_224_274 : xfetch 224 274 = some (.iastore, 1) := by decide +kernel
theorem n_224_274 : ∀ l, xpr 224 274 l = l := xpr_no (by decide +kernel)
theorem r_224_275 : xfetch 224 275 = some (.aload_n 0, 1) := by decide +kernel
theorem n_224_275 : ∀ l, xpr 224 275 l = l := xpr_no (by decide +kernel)
theorem r_224_276 : xfetch 224 276 = some (.getfield 64, 3) := by decide +kernel
theorem n_224_276 : ∀ l, xpr 224 276 l = l := xpr_no (by decide +kernel)
theorem r_224_279 : xfetch 224 279 = some (.aload_n 0, 1) := by decide +kernel
theorem n_224_279 : ∀ l, xpr 224 279 l = l := xpr_no (by decide +kernel)
theorem r_224_280 : xfetch 224 280 = some (.getfield 203, 3) := by decide +kernel
theorem n_224_280 : ∀ l, xpr 224 280 l = l := xpr_no (by decide +kernel)
theorem r_224_283 : xfetch 224 283 = some (.iload 7, 2) := by decide +kernel
theorem n_224_283 : ∀ l, xpr 224 283 l = l := xpr_no (by decide +kernel)
theorem r_224_285 : xfetch 224 285 = some (.iastore, 1) := by decide +kernel
theorem n_224_285 : ∀ l, xpr 224 285 l = l := xpr_no (by decide +kernel)
theorem r_224_286 : xfetch 224 286 = some (.aload_n 0, 1) := by decide +kernel
theorem n_224_286 : ∀ l, xpr 224 286 l = l := xpr_no (by decide +kernel)
theorem r_224_287 : xfetch 224 287 = some (.dup, 1) := by decide +kernel
theorem n_224_287 : ∀ l, xpr 224 287 l = l := xpr_no (by decide +kernel)
theorem r_224_288 : xfetch 224 288 = some (.getfield 203, 3) := by decide +kernel
theorem n_224_288 : ∀ l, xpr 224 288 l = l := xpr_no (by decide +kernel)
theorem r_224_291 : xfetch 224 291 = some (.iconst 1, 1) := by decide +kernel
theorem n_224_291 : ∀ l, xpr 224 291 l = l := xpr_no (by decide +kernel)
theorem r_224_292 : xfetch 224 292 = some (.iadd, 1) := by decide +kernel
theorem n_224_292 : ∀ l, xpr 224 292 l = l := xpr_no (by decide +kernel)
theorem r_224_293 : xfetch 224 293 = some (.putfield 203, 3) := by decide +kernel
theorem n_224_293 : ∀ l, xpr 224 293 l = l := xpr_no (by decide +kernel)
theorem r_224_296 : xfetch 224 296 = some (.aload_n 0, 1) := by decide +kernel
theorem n_224_296 : ∀ l, xpr 224 296 l = l := xpr_no (by decide +kernel)
theorem r_224_297 : xfetch 224 297 = some (.dup, 1) := by decide +kernel
theorem n_224_297 : ∀ l, xpr 224 297 l = l := xpr_no (by decide +kernel)
theorem r_224_298 : xfetch 224 298 = some (.getfield 209, 3) := by decide +kernel
theorem n_224_298 : ∀ l, xpr 224 298 l = l := xpr_no (by decide +kernel)
theorem r_224_301 : xfetch 224 301 = some (.iload 8, 2) := by decide +kernel
theorem n_224_301 : ∀ l, xpr 224 301 l = l := xpr_no (by decide +kernel)
theorem r_224_303 : xfetch 224 303 = some (.iadd, 1) := by decide +kernel
theorem n_224_303 : ∀ l, xpr 224 303 l = l := xpr_no (by decide +kernel)
theorem r_224_304 : xfetch 224 304 = some (.putfield 209, 3) := by decide +kernel
theorem n_224_304 : ∀ l, xpr 224 304 l = l := xpr_no (by decide +kernel)
theorem r_224_307 : xfetch 224 307 = some (.aload_n 0, 1) := by decide +kernel
theorem n_224_307 : ∀ l, xpr 224 307 l = l := xpr_no (by decide +kernel)
theorem r_224_308 : xfetch 224 308 = some (.iload 6, 2) := by decide +kernel
theorem n_224_308 : ∀ l, xpr 224 308 l = l := xpr_no (by decide +kernel)
theorem r_224_310 : xfetch 224 310 = some (.iconst 1, 1) := by decide +kernel
theorem n_224_310 : ∀ l, xpr 224 310 l = l := xpr_no (by decide +kernel)
theorem r_224_311 : xfetch 224 311 = some (.iadd, 1) := by decide +kernel
theorem n_224_311 : ∀ l, xpr 224 311 l = l := xpr_no (by decide +kernel)
theorem r_224_312 : xfetch 224 312 = some (.putfield 194, 3) := by decide +kernel
theorem n_224_312 : ∀ l, xpr 224 312 l = l := xpr_no (by decide +kernel)
theorem r_224_315 : xfetch 224 315 = some (.iconst (-1), 1) := by decide +kernel
theorem n_224_315 : ∀ l, xpr 224 315 l = l := xpr_no (by decide +kernel)
theorem r_224_316 : xfetch 224 316 = some (.ireturn, 1) := by decide +kernel
theorem n_224_316 : ∀ l, xpr 224 316 l = l := xpr_no (by decide +kernel)
theorem v_Model_readsField_0 {S : Option (Nat × (Nat → Int32))} {s : zSt} {Q : Option Value ⊕ Nat → zSt → Prop} {x1 : Int} 
    (h : rng x1 ∧ ((x1 < zI s 252 5 → 0 ≤ x1 ∧ x1 < 80) ∧ (rng (zlt x1 (zI s 252 5) (zI s 255 x1)) ∧ ((¬ (97 ≤ (zlt x1 (zI s 252 5) (zI s 255 x1)) ∧ (zlt x1 (zI s 252 5) (zI s 255 x1)) ≤ 122) → wp S 224 35 [(0, rf 252), (1, iv x1), (2, iv (zlt x1 (zI s 252 5) (zI s 255 x1))), (3, iv 0), (4, iv 0)] [] s Q) ∧ (97 ≤ (zlt x1 (zI s 252 5) (zI s 255 x1)) ∧ (zlt x1 (zI s 252 5) (zI s 255 x1)) ≤ 122 → (8 ≤ (zI s 252 24) → wp S 224 35 [(0, rf 252), (1, iv x1), (2, iv (zlt x1 (zI s 252 5) (zI s 255 x1))), (3, iv 0), (4, iv 0)] [] s Q) ∧ ((zI s 252 24) < 8 → wp S 224 35 [(0, rf 252), (1, iv x1), (2, iv (zlt x1 (zI s 252 5) (zI s 255 x1))), (3, iv 1), (4, iv 0)] [] s Q)))))) :
    wp S 224 0 [(0, rf 252), (1, iv x1)] [] s Q := by
  refine i_aload_n (a := 252) r_224_0 (n_224_0 _) rfl ?_
  refine i_iload_n (x := x1) r_224_1 (n_224_1 _) rfl ?_
  obtain ⟨g1, h⟩ := h
  obtain ⟨g2, h⟩ := h
  refine wp_virt (b := 252) (rest := []) (Ls := [(0, rf 252), (1, iv x1)]) r_224_2 (n_224_2 _) rfl ⟨rfl, rfl, by decide, by decide⟩ rfl rfl lf_252 ⟨rfl, Nat.le_of_ble_eq_true rfl, Nat.le_of_ble_eq_true rfl⟩ rfl (K_Model_letter g1 g2) ?_
  rintro _ _ ⟨rfl, rfl⟩
  refine .inl ⟨some (iv (zlt x1 (zI s 252 5) (zI s 255 x1))), rfl, ?_⟩
  show wp S 224 5 [(0, rf 252), (1, iv x1)] [iv (zlt x1 (zI s 252 5) (zI s 255 x1))] s Q
  refine i_istore_n (l' := [(0, rf 252), (1, iv x1), (2, iv (zlt x1 (zI s 252 5) (zI s 255 x1)))]) r_224_5 (n_224_5 _) (by decide) rfl ?_
  refine i_iload_n (x := zlt x1 (zI s 252 5) (zI s 255 x1)) r_224_6 (n_224_6 _) rfl ?_
  refine i_bipush r_224_7 (n_224_7 _) rfl ?_
  refine i_bipush r_224_9 (n_224_9 _) rfl ?_
  obtain ⟨g4, h⟩ := h
  refine wp_stat (rest := []) (Ls := [(0, iv (zlt x1 (zI s 252 5) (zI s 255 x1))), (1, iv 97), (2, iv 122)]) r_224_11 (n_224_11 _) rfl ⟨rfl, by decide, by decide, by decide⟩ rfl rfl ⟨rfl, Nat.le_of_ble_eq_true rfl, Nat.le_of_ble_eq_true rfl⟩ rfl (K_Model_within g4 ⟨by omega, by omega⟩ ⟨by omega, by omega⟩) ?_
  rintro _ _ ⟨rfl, rfl⟩
  refine .inl ⟨some (iv (bi (97 ≤ (zlt x1 (zI s 252 5) (zI s 255 x1)) ∧ (zlt x1 (zI s 252 5) (zI s 255 x1)) ≤ 122))), rfl, ?_⟩
  show wp S 224 14 [(0, rf 252), (1, iv x1), (2, iv (zlt x1 (zI s 252 5) (zI s 255 x1)))] [iv (bi (97 ≤ (zlt x1 (zI s 252 5) (zI s 255 x1)) ∧ (zlt x1 (zI s 252 5) (zI s 255 x1)) ≤ 122))] s Q
  refine i_if (t := 30) r_224_14 (n_224_14 _) rfl (TB_eq) (fun c6 => ?_) (fun c6 => ?_)
  · replace h := h.1 c6
    refine i_iconst r_224_30 (n_224_30 _) ?_
    refine i_istore_n (l' := [(0, rf 252), (1, iv x1), (2, iv (zlt x1 (zI s 252 5) (zI s 255 x1))), (3, iv 0)]) r_224_31 (n_224_31 _) (by decide) rfl ?_
    refine i_iconst r_224_32 (n_224_32 _) ?_
    refine i_istore (l' := [(0, rf 252), (1, iv x1), (2, iv (zlt x1 (zI s 252 5) (zI s 255 x1))), (3, iv 0), (4, iv 0)]) r_224_33 (n_224_33 _) (by decide) rfl ?_
    exact wp_pr (l' := [(0, rf 252), (1, iv x1), (2, iv (zlt x1 (zI s 252 5) (zI s 255 x1))), (3, iv 0), (4, iv 0)]) rfl h
  · replace h := h.2 c6
    refine i_aload_n (a := 252) r_224_17 (n_224_17 _) rfl ?_
    refine i_getI (a := 252) r_224_18 (n_224_18 _) rfl (by decide) lf_252 (fun q7 => ?_)
    refine i_bipush r_224_21 (n_224_21 _) rfl ?_
    refine i_icmp (t := 30) r_224_23 (n_224_23 _) rfl (T_ge q7 ⟨by omega, by omega⟩) (fun c8 => ?_) (fun c8 => ?_)
    · replace h := h.1 c8
      refine i_iconst r_224_30 (n_224_30 _) ?_
      refine i_istore_n (l' := [(0, rf 252), (1, iv x1), (2, iv (zlt x1 (zI s 252 5) (zI s 255 x1))), (3, iv 0)]) r_224_31 (n_224_31 _) (by decide) rfl ?_
      refine i_iconst r_224_32 (n_224_32 _) ?_
      refine i_istore (l' := [(0, rf 252), (1, iv x1), (2, iv (zlt x1 (zI s 252 5) (zI s 255 x1))), (3, iv 0), (4, iv 0)]) r_224_33 (n_224_33 _) (by decide) rfl ?_
      exact wp_pr (l' := [(0, rf 252), (1, iv x1), (2, iv (zlt x1 (zI s 252 5) (zI s 255 x1))), (3, iv 0), (4, iv 0)]) rfl h
    · replace h := h.2 c8
      refine i_iconst r_224_26 (n_224_26 _) ?_
      refine i_goto (t := 31) r_224_27 (n_224_27 _) rfl ?_
      refine i_istore_n (l' := [(0, rf 252), (1, iv x1), (2, iv (zlt x1 (zI s 252 5) (zI s 255 x1))), (3, iv 1)]) r_224_31 (n_224_31 _) (by decide) rfl ?_
      refine i_iconst r_224_32 (n_224_32 _) ?_
      refine i_istore (l' := [(0, rf 252), (1, iv x1), (2, iv (zlt x1 (zI s 252 5) (zI s 255 x1))), (3, iv 1), (4, iv 0)]) r_224_33 (n_224_33 _) (by decide) rfl ?_
      exact wp_pr (l' := [(0, rf 252), (1, iv x1), (2, iv (zlt x1 (zI s 252 5) (zI s 255 x1))), (3, iv 1), (4, iv 0)]) rfl h
theorem v_Model_readsField_35 {S : Option (Nat × (Nat → Int32))} {s : zSt} {Q : Option Value ⊕ Nat → zSt → Prop} {x1 : Int} {x2 : Int} {x3 : Int} {x4 : Int} 
    (h : rng x4 ∧ (((zI s 252 24) ≤ x4 → rng x3 ∧ ((x3 ≠ 0 → rng (x1 + 1) ∧ (((x1 + 1) < zI s 252 5 → 0 ≤ (x1 + 1) ∧ (x1 + 1) < 80) ∧ (rng (zlt (x1 + 1) (zI s 252 5) (zI s 255 (x1 + 1))) ∧ (((zlt (x1 + 1) (zI s 252 5) (zI s 255 (x1 + 1))) = 58 → wp S 226 0 [(0, rf 252), (1, iv (x1 + 2))] [] s (fun o11 s11 => zkI (fun y11 => (y11 = (-1) → ((zI s11 252 20) < zI s11 252 5 → 0 ≤ (zI s11 252 20) ∧ (zI s11 252 20) < 80) ∧ (rng (zlt (zI s11 252 20) (zI s11 252 5) (zI s11 255 (zI s11 252 20))) ∧ (((zlt (zI s11 252 20) (zI s11 252 5) (zI s11 255 (zI s11 252 20))) ≠ 91 → wp S 224 202 [(0, rf 252), (2, iv x2), (5, iv (zI s11 252 19)), (6, iv (zI s11 252 20)), (7, iv 1)] [] s11 Q) ∧ ((zlt (zI s11 252 20) (zI s11 252 5) (zI s11 255 (zI s11 252 20))) = 91 → (21 ≤ (zI s11 252 19) ∧ (zI s11 252 19) ≤ 36 → wp S 224 202 [(0, rf 252), (2, iv x2), (5, iv (zI s11 252 19)), (6, iv (zI s11 252 20)), (7, iv 1)] [] s11 Q) ∧ (¬ (21 ≤ (zI s11 252 19) ∧ (zI s11 252 19) ≤ 36) → rng ((zI s11 252 20) + 1) ∧ ((((zI s11 252 20) + 1) < zI s11 252 5 → 0 ≤ ((zI s11 252 20) + 1) ∧ ((zI s11 252 20) + 1) < 80) ∧ (rng (zlt ((zI s11 252 20) + 1) (zI s11 252 5) (zI s11 255 ((zI s11 252 20) + 1))) ∧ ((49 ≤ (zlt ((zI s11 252 20) + 1) (zI s11 252 5) (zI s11 255 ((zI s11 252 20) + 1))) ∧ (zlt ((zI s11 252 20) + 1) (zI s11 252 5) (zI s11 255 ((zI s11 252 20) + 1))) ≤ 52 → rng ((zI s11 252 20) + 2) ∧ ((((zI s11 252 20) + 2) < zI s11 252 5 → 0 ≤ ((zI s11 252 20) + 2) ∧ ((zI s11 252 20) + 2) < 80) ∧ (rng (zlt ((zI s11 252 20) + 2) (zI s11 252 5) (zI s11 255 ((zI s11 252 20) + 2))) ∧ (((zlt ((zI s11 252 20) + 2) (zI s11 252 5) (zI s11 255 ((zI s11 252 20) + 2))) = 93 → wp S 224 202 [(0, rf 252), (2, iv x2), (5, iv (zI s11 252 19)), (6, iv ((zI s11 252 20) + 3)), (7, iv ((zlt ((zI s11 252 20) + 1) (zI s11 252 5) (zI s11 255 ((zI s11 252 20) + 1))) - 48))] [] s11 Q) ∧ ((zlt ((zI s11 252 20) + 2) (zI s11 252 5) (zI s11 255 ((zI s11 252 20) + 2))) ≠ 93 → Q (rI ((zI s11 252 20) + 2)) s11))))) ∧ (¬ (49 ≤ (zlt ((zI s11 252 20) + 1) (zI s11 252 5) (zI s11 255 ((zI s11 252 20) + 1))) ∧ (zlt ((zI s11 252 20) + 1) (zI s11 252 5) (zI s11 255 ((zI s11 252 20) + 1))) ≤ 52) → Q (rI ((zI s11 252 20) + 1)) s11))))))))) ∧ (y11 ≠ (-1) → Q (rI y11) s11)) (fun e11 => False) o11)) ∧ ((zlt (x1 + 1) (zI s 252 5) (zI s 255 (x1 + 1))) ≠ 58 → Q (rI (x1 + 1)) s))))) ∧ (x3 = 0 → Q (rI x1) s))) ∧ (x4 < (zI s 252 24) → rng x3 ∧ ((x3 = 0 → wp S 224 35 [(0, rf 252), (1, iv x1), (2, iv x2), (3, iv 0), (4, iv (x4 + 1))] [] s Q) ∧ (x3 ≠ 0 → (0 ≤ x4 ∧ x4 < 8) ∧ (rng x2 ∧ (((zI s 269 x4) = x2 → wp S 224 35 [(0, rf 252), (1, iv x1), (2, iv x2), (3, iv 0), (4, iv (x4 + 1))] [] s Q) ∧ ((zI s 269 x4) ≠ x2 → wp S 224 35 [(0, rf 252), (1, iv x1), (2, iv x2), (3, iv 1), (4, iv (x4 + 1))] [] s Q)))))))) :
    wp S 224 35 [(0, rf 252), (1, iv x1), (2, iv x2), (3, iv x3), (4, iv x4)] [] s Q := by
  refine i_iload (x := x4) r_224_35 rfl rfl ?_
  refine i_aload_n (a := 252) r_224_37 (n_224_37 _) rfl ?_
  refine i_getI (a := 252) r_224_38 (n_224_38 _) rfl (by decide) lf_252 (fun q1 => ?_)
  obtain ⟨g2, h⟩ := h
  refine i_icmp (t := 71) r_224_41 (n_224_41 _) rfl (T_ge g2 q1) (fun c3 => ?_) (fun c3 => ?_)
  · replace h := h.1 c3
    refine i_iload_n (x := x3) r_224_71 (n_224_71 _) rfl ?_
    obtain ⟨g4, h⟩ := h
    refine i_if (t := 77) r_224_72 (n_224_72 _) rfl (T_ne g4 ⟨by omega, by omega⟩) (fun c5 => ?_) (fun c5 => ?_)
    · replace h := h.1 c5
      refine i_aload_n (a := 252) r_224_77 (n_224_77 _) rfl ?_
      refine i_iload_n (x := x1) r_224_78 (n_224_78 _) rfl ?_
      refine i_iconst r_224_79 (n_224_79 _) ?_
      refine i_iadd r_224_80 (n_224_80 _) ?_
      obtain ⟨g6, h⟩ := h
      obtain ⟨g7, h⟩ := h
      refine wp_virt (b := 252) (rest := []) (Ls := [(0, rf 252), (1, iv (x1 + 1))]) r_224_81 (n_224_81 _) rfl ⟨rfl, rfl, by decide, by decide⟩ rfl rfl lf_252 ⟨rfl, Nat.le_of_ble_eq_true rfl, Nat.le_of_ble_eq_true rfl⟩ rfl (K_Model_letter g6 g7) ?_
      rintro _ _ ⟨rfl, rfl⟩
      refine .inl ⟨some (iv (zlt (x1 + 1) (zI s 252 5) (zI s 255 (x1 + 1)))), rfl, ?_⟩
      show wp S 224 84 [(0, rf 252), (1, iv x1), (2, iv x2), (3, iv x3), (4, iv x4)] [iv (zlt (x1 + 1) (zI s 252 5) (zI s 255 (x1 + 1)))] s Q
      refine i_bipush r_224_84 (n_224_84 _) rfl ?_
      obtain ⟨g9, h⟩ := h
      refine i_icmp (t := 93) r_224_86 (n_224_86 _) rfl (T_eq g9 ⟨by omega, by omega⟩) (fun c10 => ?_) (fun c10 => ?_)
      · replace h := h.1 c10
        refine i_aload_n (a := 252) r_224_93 (n_224_93 _) rfl ?_
        refine i_iload_n (x := x1) r_224_94 (n_224_94 _) rfl ?_
        refine i_iconst r_224_95 (n_224_95 _) ?_
        refine i_iadd r_224_96 (n_224_96 _) ?_
        refine wp_virt (b := 252) (rest := []) (Ls := [(0, rf 252), (1, iv (x1 + 2))]) r_224_97 (n_224_97 _) rfl ⟨rfl, rfl, by decide, by decide⟩ rfl rfl lf_252 ⟨rfl, Nat.le_of_ble_eq_true rfl, Nat.le_of_ble_eq_true rfl⟩ rfl h ?_
        intro o11 s11 h
        rcases h with ⟨y11, q12, rfl, h⟩ | ⟨e11, rfl, h⟩
        · refine .inl ⟨some (iv y11), rfl, ?_⟩
          show wp S 224 100 [(0, rf 252), (1, iv x1), (2, iv x2), (3, iv x3), (4, iv x4)] [iv y11] s11 Q
          refine i_istore (l' := [(0, rf 252), (1, iv x1), (2, iv x2), (3, iv x3), (4, iv y11)]) r_224_100 (n_224_100 _) (by decide) rfl ?_
          refine i_iload (x := y11) r_224_102 (n_224_102 _) rfl ?_
          refine i_iconst r_224_104 (n_224_104 _) ?_
          refine i_icmp (t := 111) r_224_105 (n_224_105 _) rfl (T_eq q12 ⟨by omega, by omega⟩) (fun c13 => ?_) (fun c13 => ?_)
          · replace h := h.1 c13
            refine i_aload_n (a := 252) r_224_111 (n_224_111 _) rfl ?_
            refine i_getI (a := 252) r_224_112 (n_224_112 _) rfl (by decide) lf_252 (fun q14 => ?_)
            refine i_istore (l' := [(0, rf 252), (1, iv x1), (2, iv x2), (3, iv x3), (4, iv y11), (5, iv (zI s11 252 19))]) r_224_115 (n_224_115 _) (by decide) rfl ?_
            refine i_aload_n (a := 252) r_224_117 (n_224_117 _) rfl ?_
            refine i_getI (a := 252) r_224_118 (n_224_118 _) rfl (by decide) lf_252 (fun q15 => ?_)
            refine i_istore (l' := [(0, rf 252), (1, iv x1), (2, iv x2), (3, iv x3), (4, iv y11), (5, iv (zI s11 252 19)), (6, iv (zI s11 252 20))]) r_224_121 (n_224_121 _) (by decide) rfl ?_
            refine i_iconst r_224_123 (n_224_123 _) ?_
            refine i_istore (l' := [(0, rf 252), (1, iv x1), (2, iv x2), (3, iv x3), (4, iv y11), (5, iv (zI s11 252 19)), (6, iv (zI s11 252 20)), (7, iv 1)]) r_224_124 (n_224_124 _) (by decide) rfl ?_
            refine i_aload_n (a := 252) r_224_126 (n_224_126 _) rfl ?_
            refine i_iload (x := zI s11 252 20) r_224_127 (n_224_127 _) rfl ?_
            obtain ⟨g16, h⟩ := h
            refine wp_virt (b := 252) (rest := []) (Ls := [(0, rf 252), (1, iv (zI s11 252 20))]) r_224_129 (n_224_129 _) rfl ⟨rfl, rfl, by decide, by decide⟩ rfl rfl lf_252 ⟨rfl, Nat.le_of_ble_eq_true rfl, Nat.le_of_ble_eq_true rfl⟩ rfl (K_Model_letter q15 g16) ?_
            rintro _ _ ⟨rfl, rfl⟩
            refine .inl ⟨some (iv (zlt (zI s11 252 20) (zI s11 252 5) (zI s11 255 (zI s11 252 20)))), rfl, ?_⟩
            show wp S 224 132 [(0, rf 252), (1, iv x1), (2, iv x2), (3, iv x3), (4, iv y11), (5, iv (zI s11 252 19)), (6, iv (zI s11 252 20)), (7, iv 1)] [iv (zlt (zI s11 252 20) (zI s11 252 5) (zI s11 255 (zI s11 252 20)))] s11 Q
            refine i_bipush r_224_132 (n_224_132 _) rfl ?_
            obtain ⟨g18, h⟩ := h
            refine i_icmp (t := 202) r_224_134 (n_224_134 _) rfl (T_ne g18 ⟨by omega, by omega⟩) (fun c19 => ?_) (fun c19 => ?_)
            · replace h := h.1 c19
              exact wp_pr (l' := [(0, rf 252), (2, iv x2), (5, iv (zI s11 252 19)), (6, iv (zI s11 252 20)), (7, iv 1)]) rfl h
            · replace h := h.2 c19
              refine i_iload (x := zI s11 252 19) r_224_137 (n_224_137 _) rfl ?_
              refine wp_stat (rest := []) (Ls := [(0, iv (zI s11 252 19))]) r_224_139 (n_224_139 _) rfl ⟨rfl, by decide, by decide, by decide⟩ rfl rfl ⟨rfl, Nat.le_of_ble_eq_true rfl, Nat.le_of_ble_eq_true rfl⟩ rfl (K_Model_isBits q14) ?_
              rintro _ _ ⟨rfl, rfl⟩
              refine .inl ⟨some (iv (bi (21 ≤ (zI s11 252 19) ∧ (zI s11 252 19) ≤ 36))), rfl, ?_⟩
              show wp S 224 142 [(0, rf 252), (1, iv x1), (2, iv x2), (3, iv x3), (4, iv y11), (5, iv (zI s11 252 19)), (6, iv (zI s11 252 20)), (7, iv 1)] [iv (bi (21 ≤ (zI s11 252 19) ∧ (zI s11 252 19) ≤ 36))] s11 Q
              refine i_if (t := 202) r_224_142 (n_224_142 _) rfl (TB_ne) (fun c21 => ?_) (fun c21 => ?_)
              · replace h := h.1 c21
                exact wp_pr (l' := [(0, rf 252), (2, iv x2), (5, iv (zI s11 252 19)), (6, iv (zI s11 252 20)), (7, iv 1)]) rfl h
              · replace h := h.2 c21
                refine i_aload_n (a := 252) r_224_145 (n_224_145 _) rfl ?_
                refine i_iload (x := zI s11 252 20) r_224_146 (n_224_146 _) rfl ?_
                refine i_iconst r_224_148 (n_224_148 _) ?_
                refine i_iadd r_224_149 (n_224_149 _) ?_
                obtain ⟨g22, h⟩ := h
                obtain ⟨g23, h⟩ := h
                refine wp_virt (b := 252) (rest := []) (Ls := [(0, rf 252), (1, iv ((zI s11 252 20) + 1))]) r_224_150 (n_224_150 _) rfl ⟨rfl, rfl, by decide, by decide⟩ rfl rfl lf_252 ⟨rfl, Nat.le_of_ble_eq_true rfl, Nat.le_of_ble_eq_true rfl⟩ rfl (K_Model_letter g22 g23) ?_
                rintro _ _ ⟨rfl, rfl⟩
                refine .inl ⟨some (iv (zlt ((zI s11 252 20) + 1) (zI s11 252 5) (zI s11 255 ((zI s11 252 20) + 1)))), rfl, ?_⟩
                show wp S 224 153 [(0, rf 252), (1, iv x1), (2, iv x2), (3, iv x3), (4, iv y11), (5, iv (zI s11 252 19)), (6, iv (zI s11 252 20)), (7, iv 1)] [iv (zlt ((zI s11 252 20) + 1) (zI s11 252 5) (zI s11 255 ((zI s11 252 20) + 1)))] s11 Q
                refine i_bipush r_224_153 (n_224_153 _) rfl ?_
                refine i_bipush r_224_155 (n_224_155 _) rfl ?_
                obtain ⟨g25, h⟩ := h
                refine wp_stat (rest := []) (Ls := [(0, iv (zlt ((zI s11 252 20) + 1) (zI s11 252 5) (zI s11 255 ((zI s11 252 20) + 1)))), (1, iv 49), (2, iv 52)]) r_224_157 (n_224_157 _) rfl ⟨rfl, by decide, by decide, by decide⟩ rfl rfl ⟨rfl, Nat.le_of_ble_eq_true rfl, Nat.le_of_ble_eq_true rfl⟩ rfl (K_Model_within g25 ⟨by omega, by omega⟩ ⟨by omega, by omega⟩) ?_
                rintro _ _ ⟨rfl, rfl⟩
                refine .inl ⟨some (iv (bi (49 ≤ (zlt ((zI s11 252 20) + 1) (zI s11 252 5) (zI s11 255 ((zI s11 252 20) + 1))) ∧ (zlt ((zI s11 252 20) + 1) (zI s11 252 5) (zI s11 255 ((zI s11 252 20) + 1))) ≤ 52))), rfl, ?_⟩
                show wp S 224 160 [(0, rf 252), (1, iv x1), (2, iv x2), (3, iv x3), (4, iv y11), (5, iv (zI s11 252 19)), (6, iv (zI s11 252 20)), (7, iv 1)] [iv (bi (49 ≤ (zlt ((zI s11 252 20) + 1) (zI s11 252 5) (zI s11 255 ((zI s11 252 20) + 1))) ∧ (zlt ((zI s11 252 20) + 1) (zI s11 252 5) (zI s11 255 ((zI s11 252 20) + 1))) ≤ 52))] s11 Q
                refine i_if (t := 168) r_224_160 (n_224_160 _) rfl (TB_ne) (fun c27 => ?_) (fun c27 => ?_)
                · replace h := h.1 c27
                  refine i_aload_n (a := 252) r_224_168 (n_224_168 _) rfl ?_
                  refine i_iload (x := zI s11 252 20) r_224_169 (n_224_169 _) rfl ?_
                  refine i_iconst r_224_171 (n_224_171 _) ?_
                  refine i_iadd r_224_172 (n_224_172 _) ?_
                  refine wp_virt (b := 252) (rest := []) (Ls := [(0, rf 252), (1, iv ((zI s11 252 20) + 1))]) r_224_173 (n_224_173 _) rfl ⟨rfl, rfl, by decide, by decide⟩ rfl rfl lf_252 ⟨rfl, Nat.le_of_ble_eq_true rfl, Nat.le_of_ble_eq_true rfl⟩ rfl (K_Model_letter g22 g23) ?_
                  rintro _ _ ⟨rfl, rfl⟩
                  refine .inl ⟨some (iv (zlt ((zI s11 252 20) + 1) (zI s11 252 5) (zI s11 255 ((zI s11 252 20) + 1)))), rfl, ?_⟩
                  show wp S 224 176 [(0, rf 252), (1, iv x1), (2, iv x2), (3, iv x3), (4, iv y11), (5, iv (zI s11 252 19)), (6, iv (zI s11 252 20)), (7, iv 1)] [iv (zlt ((zI s11 252 20) + 1) (zI s11 252 5) (zI s11 255 ((zI s11 252 20) + 1)))] s11 Q
                  refine i_bipush r_224_176 (n_224_176 _) rfl ?_
                  refine i_isub r_224_178 (n_224_178 _) ?_
                  refine i_istore (l' := [(0, rf 252), (1, iv x1), (2, iv x2), (3, iv x3), (4, iv y11), (5, iv (zI s11 252 19)), (6, iv (zI s11 252 20)), (7, iv ((zlt ((zI s11 252 20) + 1) (zI s11 252 5) (zI s11 255 ((zI s11 252 20) + 1))) - 48))]) r_224_179 (n_224_179 _) (by decide) rfl ?_
                  refine i_aload_n (a := 252) r_224_181 (n_224_181 _) rfl ?_
                  refine i_iload (x := zI s11 252 20) r_224_182 (n_224_182 _) rfl ?_
                  refine i_iconst r_224_184 (n_224_184 _) ?_
                  refine i_iadd r_224_185 (n_224_185 _) ?_
                  obtain ⟨g29, h⟩ := h
                  obtain ⟨g30, h⟩ := h
                  refine wp_virt (b := 252) (rest := []) (Ls := [(0, rf 252), (1, iv ((zI s11 252 20) + 2))]) r_224_186 (n_224_186 _) rfl ⟨rfl, rfl, by decide, by decide⟩ rfl rfl lf_252 ⟨rfl, Nat.le_of_ble_eq_true rfl, Nat.le_of_ble_eq_true rfl⟩ rfl (K_Model_letter g29 g30) ?_
                  rintro _ _ ⟨rfl, rfl⟩
                  refine .inl ⟨some (iv (zlt ((zI s11 252 20) + 2) (zI s11 252 5) (zI s11 255 ((zI s11 252 20) + 2)))), rfl, ?_⟩
                  show wp S 224 189 [(0, rf 252), (1, iv x1), (2, iv x2), (3, iv x3), (4, iv y11), (5, iv (zI s11 252 19)), (6, iv (zI s11 252 20)), (7, iv ((zlt ((zI s11 252 20) + 1) (zI s11 252 5) (zI s11 255 ((zI s11 252 20) + 1))) - 48))] [iv (zlt ((zI s11 252 20) + 2) (zI s11 252 5) (zI s11 255 ((zI s11 252 20) + 2)))] s11 Q
                  refine i_bipush r_224_189 (n_224_189 _) rfl ?_
                  obtain ⟨g32, h⟩ := h
                  refine i_icmp (t := 199) r_224_191 (n_224_191 _) rfl (T_eq g32 ⟨by omega, by omega⟩) (fun c33 => ?_) (fun c33 => ?_)
                  · replace h := h.1 c33
                    refine i_iinc (x := zI s11 252 20) (l' := [(0, rf 252), (1, iv x1), (2, iv x2), (3, iv x3), (4, iv y11), (5, iv (zI s11 252 19)), (6, iv ((zI s11 252 20) + 3)), (7, iv ((zlt ((zI s11 252 20) + 1) (zI s11 252 5) (zI s11 255 ((zI s11 252 20) + 1))) - 48))]) r_224_199 (n_224_199 _) (by decide) rfl rfl ?_
                    exact wp_pr (l' := [(0, rf 252), (2, iv x2), (5, iv (zI s11 252 19)), (6, iv ((zI s11 252 20) + 3)), (7, iv ((zlt ((zI s11 252 20) + 1) (zI s11 252 5) (zI s11 255 ((zI s11 252 20) + 1))) - 48))]) rfl h
                  · replace h := h.2 c33
                    refine i_iload (x := zI s11 252 20) r_224_194 (n_224_194 _) rfl ?_
                    refine i_iconst r_224_196 (n_224_196 _) ?_
                    refine i_iadd r_224_197 (n_224_197 _) ?_
                    exact i_ireturn r_224_198 (n_224_198 _) rfl h
                · replace h := h.2 c27
                  refine i_iload (x := zI s11 252 20) r_224_163 (n_224_163 _) rfl ?_
                  refine i_iconst r_224_165 (n_224_165 _) ?_
                  refine i_iadd r_224_166 (n_224_166 _) ?_
                  exact i_ireturn r_224_167 (n_224_167 _) rfl h
          · replace h := h.2 c13
            refine i_iload (x := y11) r_224_108 (n_224_108 _) rfl ?_
            exact i_ireturn r_224_110 (n_224_110 _) rfl h
        · skip
          exact h.elim
      · replace h := h.2 c10
        refine i_iload_n (x := x1) r_224_89 (n_224_89 _) rfl ?_
        refine i_iconst r_224_90 (n_224_90 _) ?_
        refine i_iadd r_224_91 (n_224_91 _) ?_
        exact i_ireturn r_224_92 (n_224_92 _) rfl h
    · replace h := h.2 c5
      refine i_iload_n (x := x1) r_224_75 (n_224_75 _) rfl ?_
      exact i_ireturn r_224_76 (n_224_76 _) rfl h
  · replace h := h.2 c3
    refine i_iload_n (x := x3) r_224_44 (n_224_44 _) rfl ?_
    obtain ⟨g34, h⟩ := h
    refine i_if (t := 63) r_224_45 (n_224_45 _) rfl (T_eq g34 ⟨by omega, by omega⟩) (fun c35 => ?_) (fun c35 => ?_)
    · replace h := h.1 c35
      refine i_iconst r_224_63 (n_224_63 _) ?_
      refine i_istore_n (l' := [(0, rf 252), (1, iv x1), (2, iv x2), (3, iv 0), (4, iv x4)]) r_224_64 (n_224_64 _) (by decide) rfl ?_
      refine i_iinc (x := x4) (l' := [(0, rf 252), (1, iv x1), (2, iv x2), (3, iv 0), (4, iv (x4 + 1))]) r_224_65 (n_224_65 _) (by decide) rfl rfl ?_
      refine i_goto (t := 35) r_224_68 (n_224_68 _) rfl ?_
      exact wp_pr (l' := [(0, rf 252), (1, iv x1), (2, iv x2), (3, iv 0), (4, iv (x4 + 1))]) rfl h
    · replace h := h.2 c35
      refine i_aload_n (a := 252) r_224_48 (n_224_48 _) rfl ?_
      refine i_getR (a := 252) (b := 269) r_224_49 (n_224_49 _) rfl rfl rfl (by omega) lf_252 (by omega) ?_
      refine i_iload (x := x4) r_224_52 (n_224_52 _) rfl ?_
      obtain ⟨g36, h⟩ := h
      refine i_iaload (a := 269) (j := x4) r_224_54 (n_224_54 _) lf_269 ⟨by omega, by omega⟩ (by omega) (by omega) (fun q37 => ?_)
      refine i_iload_n (x := x2) r_224_55 (n_224_55 _) rfl ?_
      obtain ⟨g38, h⟩ := h
      refine i_icmp (t := 63) r_224_56 (n_224_56 _) rfl (T_eq q37 g38) (fun c39 => ?_) (fun c39 => ?_)
      · replace h := h.1 c39
        refine i_iconst r_224_63 (n_224_63 _) ?_
        refine i_istore_n (l' := [(0, rf 252), (1, iv x1), (2, iv x2), (3, iv 0), (4, iv x4)]) r_224_64 (n_224_64 _) (by decide) rfl ?_
        refine i_iinc (x := x4) (l' := [(0, rf 252), (1, iv x1), (2, iv x2), (3, iv 0), (4, iv (x4 + 1))]) r_224_65 (n_224_65 _) (by decide) rfl rfl ?_
        refine i_goto (t := 35) r_224_68 (n_224_68 _) rfl ?_
        exact wp_pr (l' := [(0, rf 252), (1, iv x1), (2, iv x2), (3, iv 0), (4, iv (x4 + 1))]) rfl h
      · replace h := h.2 c39
        refine i_iconst r_224_59 (n_224_59 _) ?_
        refine i_goto (t := 64) r_224_60 (n_224_60 _) rfl ?_
        refine i_istore_n (l' := [(0, rf 252), (1, iv x1), (2, iv x2), (3, iv 1), (4, iv x4)]) r_224_64 (n_224_64 _) (by decide) rfl ?_
        refine i_iinc (x := x4) (l' := [(0, rf 252), (1, iv x1), (2, iv x2), (3, iv 1), (4, iv (x4 + 1))]) r_224_65 (n_224_65 _) (by decide) rfl rfl ?_
        refine i_goto (t := 35) r_224_68 (n_224_68 _) rfl ?_
        exact wp_pr (l' := [(0, rf 252), (1, iv x1), (2, iv x2), (3, iv 1), (4, iv (x4 + 1))]) rfl h
theorem v_Model_readsField_202 {S : Option (Nat × (Nat → Int32))} {s : zSt} {Q : Option Value ⊕ Nat → zSt → Prop} {x2 : Int} {x5 : Int} {x6 : Int} {x7 : Int} 
    (h : rng x5 ∧ ((x5 < 100 → rng x6 ∧ ((x6 < zI s 252 5 → 0 ≤ x6 ∧ x6 < 80) ∧ (rng (zlt x6 (zI s 252 5) (zI s 255 x6)) ∧ (((zlt x6 (zI s 252 5) (zI s 255 x6)) ≠ 59 → Q (rI x6) s) ∧ ((zlt x6 (zI s 252 5) (zI s 255 x6)) = 59 → rng ((zI s 252 25) + (x7 * 1)) ∧ ((((zI s 252 25) + (x7 * 1)) ≤ 40 → (0 ≤ (zI s 252 24) ∧ (zI s 252 24) < 8) ∧ (rng x2 ∧ (rng x7 ∧ (rng ((zI s 252 24) + 1) ∧ (rng (x6 + 1) ∧ (Q (rI (-1)) (zwI (zwI (zwI (zwI (zwI (zwI s 269 (zI s 252 24) x2) 270 (zI s 252 24) x5) 271 (zI s 252 24) x7) 252 24 ((zI s 252 24) + 1)) 252 25 ((zI s 252 25) + (x7 * 1))) 252 20 (x6 + 1)))))))) ∧ (40 < ((zI s 252 25) + (x7 * 1)) → Q (rI x6) s))))))) ∧ (100 ≤ x5 → (0 ≤ (x5 - 100) ∧ (x5 - 100) < 6) ∧ (rng x6 ∧ ((x6 < zI s 252 5 → 0 ≤ x6 ∧ x6 < 80) ∧ (rng (zlt x6 (zI s 252 5) (zI s 255 x6)) ∧ (((zlt x6 (zI s 252 5) (zI s 255 x6)) ≠ 59 → Q (rI x6) s) ∧ ((zlt x6 (zI s 252 5) (zI s 255 x6)) = 59 → rng ((zI s 252 25) + (x7 * (zI s 256 (x5 - 100)))) ∧ ((((zI s 252 25) + (x7 * (zI s 256 (x5 - 100)))) ≤ 40 → (0 ≤ (zI s 252 24) ∧ (zI s 252 24) < 8) ∧ (rng x2 ∧ (rng x7 ∧ (rng ((zI s 252 24) + 1) ∧ (rng (x6 + 1) ∧ (Q (rI (-1)) (zwI (zwI (zwI (zwI (zwI (zwI s 269 (zI s 252 24) x2) 270 (zI s 252 24) x5) 271 (zI s 252 24) x7) 252 24 ((zI s 252 24) + 1)) 252 25 ((zI s 252 25) + (x7 * (zI s 256 (x5 - 100))))) 252 20 (x6 + 1)))))))) ∧ (40 < ((zI s 252 25) + (x7 * (zI s 256 (x5 - 100)))) → Q (rI x6) s)))))))))) :
    wp S 224 202 [(0, rf 252), (2, iv x2), (5, iv x5), (6, iv x6), (7, iv x7)] [] s Q := by
  refine i_iload (x := x7) r_224_202 rfl rfl ?_
  refine i_iload (x := x5) r_224_204 (n_224_204 _) rfl ?_
  refine i_bipush r_224_206 (n_224_206 _) rfl ?_
  obtain ⟨g1, h⟩ := h
  refine i_icmp (t := 224) r_224_208 (n_224_208 _) rfl (T_lt g1 ⟨by omega, by omega⟩) (fun c2 => ?_) (fun c2 => ?_)
  · replace h := h.1 c2
    refine i_iconst r_224_224 (n_224_224 _) ?_
    refine i_imul r_224_225 (n_224_225 _) ?_
    refine i_istore (l' := [(0, rf 252), (2, iv x2), (5, iv x5), (6, iv x6), (7, iv x7), (8, iv (x7 * 1))]) r_224_226 (n_224_226 _) (by decide) rfl ?_
    refine i_aload_n (a := 252) r_224_228 (n_224_228 _) rfl ?_
    refine i_iload (x := x6) r_224_229 (n_224_229 _) rfl ?_
    obtain ⟨g3, h⟩ := h
    obtain ⟨g4, h⟩ := h
    refine wp_virt (b := 252) (rest := []) (Ls := [(0, rf 252), (1, iv x6)]) r_224_231 (n_224_231 _) rfl ⟨rfl, rfl, by decide, by decide⟩ rfl rfl lf_252 ⟨rfl, Nat.le_of_ble_eq_true rfl, Nat.le_of_ble_eq_true rfl⟩ rfl (K_Model_letter g3 g4) ?_
    rintro _ _ ⟨rfl, rfl⟩
    refine .inl ⟨some (iv (zlt x6 (zI s 252 5) (zI s 255 x6))), rfl, ?_⟩
    show wp S 224 234 [(0, rf 252), (2, iv x2), (5, iv x5), (6, iv x6), (7, iv x7), (8, iv (x7 * 1))] [iv (zlt x6 (zI s 252 5) (zI s 255 x6))] s Q
    refine i_bipush r_224_234 (n_224_234 _) rfl ?_
    obtain ⟨g6, h⟩ := h
    refine i_icmp (t := 251) r_224_236 (n_224_236 _) rfl (T_ne g6 ⟨by omega, by omega⟩) (fun c7 => ?_) (fun c7 => ?_)
    · replace h := h.1 c7
      refine i_iload (x := x6) r_224_251 (n_224_251 _) rfl ?_
      exact i_ireturn r_224_253 (n_224_253 _) rfl h
    · replace h := h.2 c7
      refine i_aload_n (a := 252) r_224_239 (n_224_239 _) rfl ?_
      refine i_getI (a := 252) r_224_240 (n_224_240 _) rfl (by decide) lf_252 (fun q8 => ?_)
      refine i_iload (x := x7 * 1) r_224_243 (n_224_243 _) rfl ?_
      refine i_iadd r_224_245 (n_224_245 _) ?_
      refine i_bipush r_224_246 (n_224_246 _) rfl ?_
      obtain ⟨g9, h⟩ := h
      refine i_icmp (t := 254) r_224_248 (n_224_248 _) rfl (T_le g9 ⟨by omega, by omega⟩) (fun c10 => ?_) (fun c10 => ?_)
      · replace h := h.1 c10
        refine i_aload_n (a := 252) r_224_254 (n_224_254 _) rfl ?_
        refine i_getR (a := 252) (b := 269) r_224_255 (n_224_255 _) rfl rfl rfl (by omega) lf_252 (by omega) ?_
        refine i_aload_n (a := 252) r_224_258 (n_224_258 _) rfl ?_
        refine i_getI (a := 252) r_224_259 (n_224_259 _) rfl (by decide) lf_252 (fun q11 => ?_)
        refine i_iload_n (x := x2) r_224_262 (n_224_262 _) rfl ?_
        obtain ⟨g12, h⟩ := h
        obtain ⟨g13, h⟩ := h
        refine i_iastore (a := 269) (j := zI s 252 24) (x := x2) r_224_263 (n_224_263 _) lf_269 ⟨by omega, by omega⟩ (by omega) (by omega) g13 ?_
        refine i_aload_n (a := 252) r_224_264 (n_224_264 _) rfl ?_
        refine i_getR (a := 252) (b := 270) r_224_265 (n_224_265 _) rfl rfl rfl (by omega) lf_252 (by omega) ?_
        refine i_aload_n (a := 252) r_224_268 (n_224_268 _) rfl ?_
        have e15 : zI (zwI s 269 (zI s 252 24) x2) 252 24 = zI s 252 24 := zI_ne (by omega)
        refine i_getIe (a := 252) (x := zI s 252 24) r_224_269 (n_224_269 _) rfl (by decide) lf_252 e15 (fun q14 => ?_)
        refine i_iload (x := x5) r_224_272 (n_224_272 _) rfl ?_
        refine i_iastore (a := 270) (j := zI s 252 24) (x := x5) r_224_274 (n_224_274 _) lf_270 ⟨by omega, by omega⟩ (by omega) (by omega) g1 ?_
        refine i_aload_n (a := 252) r_224_275 (n_224_275 _) rfl ?_
        refine i_getR (a := 252) (b := 271) r_224_276 (n_224_276 _) rfl rfl rfl (by omega) lf_252 (by omega) ?_
        refine i_aload_n (a := 252) r_224_279 (n_224_279 _) rfl ?_
        have e17 : zI (zwI (zwI s 269 (zI s 252 24) x2) 270 (zI s 252 24) x5) 252 24 = zI s 252 24 := (zI_ne (by omega)).trans (zI_ne (by omega))
        refine i_getIe (a := 252) (x := zI s 252 24) r_224_280 (n_224_280 _) rfl (by decide) lf_252 e17 (fun q16 => ?_)
        refine i_iload (x := x7) r_224_283 (n_224_283 _) rfl ?_
        obtain ⟨g18, h⟩ := h
        refine i_iastore (a := 271) (j := zI s 252 24) (x := x7) r_224_285 (n_224_285 _) lf_271 ⟨by omega, by omega⟩ (by omega) (by omega) g18 ?_
        refine i_aload_n (a := 252) r_224_286 (n_224_286 _) rfl ?_
        refine i_dup r_224_287 (n_224_287 _) rfl ?_
        have e20 : zI (zwI (zwI (zwI s 269 (zI s 252 24) x2) 270 (zI s 252 24) x5) 271 (zI s 252 24) x7) 252 24 = zI s 252 24 := (zI_ne (by omega)).trans ((zI_ne (by omega)).trans (zI_ne (by omega)))
        refine i_getIe (a := 252) (x := zI s 252 24) r_224_288 (n_224_288 _) rfl (by decide) lf_252 e20 (fun q19 => ?_)
        refine i_iconst r_224_291 (n_224_291 _) ?_
        refine i_iadd r_224_292 (n_224_292 _) ?_
        obtain ⟨g21, h⟩ := h
        refine i_putI (a := 252) (x := (zI s 252 24) + 1) r_224_293 (n_224_293 _) rfl (.inl rfl) rfl lf_252 g21 ?_
        refine i_aload_n (a := 252) r_224_296 (n_224_296 _) rfl ?_
        refine i_dup r_224_297 (n_224_297 _) rfl ?_
        have e23 : zI (zwI (zwI (zwI (zwI s 269 (zI s 252 24) x2) 270 (zI s 252 24) x5) 271 (zI s 252 24) x7) 252 24 ((zI s 252 24) + 1)) 252 25 = zI s 252 25 := (zI_nj (by omega)).trans ((zI_ne (by omega)).trans ((zI_ne (by omega)).trans (zI_ne (by omega))))
        refine i_getIe (a := 252) (x := zI s 252 25) r_224_298 (n_224_298 _) rfl (by decide) lf_252 e23 (fun q22 => ?_)
        refine i_iload (x := x7 * 1) r_224_301 (n_224_301 _) rfl ?_
        refine i_iadd r_224_303 (n_224_303 _) ?_
        refine i_putI (a := 252) (x := (zI s 252 25) + (x7 * 1)) r_224_304 (n_224_304 _) rfl (.inl rfl) rfl lf_252 g9 ?_
        refine i_aload_n (a := 252) r_224_307 (n_224_307 _) rfl ?_
        refine i_iload (x := x6) r_224_308 (n_224_308 _) rfl ?_
        refine i_iconst r_224_310 (n_224_310 _) ?_
        refine i_iadd r_224_311 (n_224_311 _) ?_
        obtain ⟨g24, h⟩ := h
        refine i_putI (a := 252) (x := x6 + 1) r_224_312 (n_224_312 _) rfl (.inl rfl) rfl lf_252 g24 ?_
        refine i_iconst r_224_315 (n_224_315 _) ?_
        exact i_ireturn r_224_316 (n_224_316 _) rfl h
      · replace h := h.2 c10
        refine i_iload (x := x6) r_224_251 (n_224_251 _) rfl ?_
        exact i_ireturn r_224_253 (n_224_253 _) rfl h
  · replace h := h.2 c2
    refine i_aload_n (a := 252) r_224_211 (n_224_211 _) rfl ?_
    refine i_getR (a := 252) (b := 256) r_224_212 (n_224_212 _) rfl rfl rfl (by omega) lf_252 (by omega) ?_
    refine i_iload (x := x5) r_224_215 (n_224_215 _) rfl ?_
    refine i_bipush r_224_217 (n_224_217 _) rfl ?_
    refine i_isub r_224_219 (n_224_219 _) ?_
    obtain ⟨g25, h⟩ := h
    refine i_iaload (a := 256) (j := x5 - 100) r_224_220 (n_224_220 _) lf_256 ⟨by omega, by omega⟩ (by omega) (by omega) (fun q26 => ?_)
    refine i_goto (t := 225) r_224_221 (n_224_221 _) rfl ?_
    refine i_imul r_224_225 (n_224_225 _) ?_
    refine i_istore (l' := [(0, rf 252), (2, iv x2), (5, iv x5), (6, iv x6), (7, iv x7), (8, iv (x7 * (zI s 256 (x5 - 100))))]) r_224_226 (n_224_226 _) (by decide) rfl ?_
    refine i_aload_n (a := 252) r_224_228 (n_224_228 _) rfl ?_
    refine i_iload (x := x6) r_224_229 (n_224_229 _) rfl ?_
    obtain ⟨g27, h⟩ := h
    obtain ⟨g28, h⟩ := h
    refine wp_virt (b := 252) (rest := []) (Ls := [(0, rf 252), (1, iv x6)]) r_224_231 (n_224_231 _) rfl ⟨rfl, rfl, by decide, by decide⟩ rfl rfl lf_252 ⟨rfl, Nat.le_of_ble_eq_true rfl, Nat.le_of_ble_eq_true rfl⟩ rfl (K_Model_letter g27 g28) ?_
    rintro _ _ ⟨rfl, rfl⟩
    refine .inl ⟨some (iv (zlt x6 (zI s 252 5) (zI s 255 x6))), rfl, ?_⟩
    show wp S 224 234 [(0, rf 252), (2, iv x2), (5, iv x5), (6, iv x6), (7, iv x7), (8, iv (x7 * (zI s 256 (x5 - 100))))] [iv (zlt x6 (zI s 252 5) (zI s 255 x6))] s Q
    refine i_bipush r_224_234 (n_224_234 _) rfl ?_
    obtain ⟨g30, h⟩ := h
    refine i_icmp (t := 251) r_224_236 (n_224_236 _) rfl (T_ne g30 ⟨by omega, by omega⟩) (fun c31 => ?_) (fun c31 => ?_)
    · replace h := h.1 c31
      refine i_iload (x := x6) r_224_251 (n_224_251 _) rfl ?_
      exact i_ireturn r_224_253 (n_224_253 _) rfl h
    · replace h := h.2 c31
      refine i_aload_n (a := 252) r_224_239 (n_224_239 _) rfl ?_
      refine i_getI (a := 252) r_224_240 (n_224_240 _) rfl (by decide) lf_252 (fun q32 => ?_)
      refine i_iload (x := x7 * (zI s 256 (x5 - 100))) r_224_243 (n_224_243 _) rfl ?_
      refine i_iadd r_224_245 (n_224_245 _) ?_
      refine i_bipush r_224_246 (n_224_246 _) rfl ?_
      obtain ⟨g33, h⟩ := h
      refine i_icmp (t := 254) r_224_248 (n_224_248 _) rfl (T_le g33 ⟨by omega, by omega⟩) (fun c34 => ?_) (fun c34 => ?_)
      · replace h := h.1 c34
        refine i_aload_n (a := 252) r_224_254 (n_224_254 _) rfl ?_
        refine i_getR (a := 252) (b := 269) r_224_255 (n_224_255 _) rfl rfl rfl (by omega) lf_252 (by omega) ?_
        refine i_aload_n (a := 252) r_224_258 (n_224_258 _) rfl ?_
        refine i_getI (a := 252) r_224_259 (n_224_259 _) rfl (by decide) lf_252 (fun q35 => ?_)
        refine i_iload_n (x := x2) r_224_262 (n_224_262 _) rfl ?_
        obtain ⟨g36, h⟩ := h
        obtain ⟨g37, h⟩ := h
        refine i_iastore (a := 269) (j := zI s 252 24) (x := x2) r_224_263 (n_224_263 _) lf_269 ⟨by omega, by omega⟩ (by omega) (by omega) g37 ?_
        refine i_aload_n (a := 252) r_224_264 (n_224_264 _) rfl ?_
        refine i_getR (a := 252) (b := 270) r_224_265 (n_224_265 _) rfl rfl rfl (by omega) lf_252 (by omega) ?_
        refine i_aload_n (a := 252) r_224_268 (n_224_268 _) rfl ?_
        have e39 : zI (zwI s 269 (zI s 252 24) x2) 252 24 = zI s 252 24 := zI_ne (by omega)
        refine i_getIe (a := 252) (x := zI s 252 24) r_224_269 (n_224_269 _) rfl (by decide) lf_252 e39 (fun q38 => ?_)
        refine i_iload (x := x5) r_224_272 (n_224_272 _) rfl ?_
        refine i_iastore (a := 270) (j := zI s 252 24) (x := x5) r_224_274 (n_224_274 _) lf_270 ⟨by omega, by omega⟩ (by omega) (by omega) g1 ?_
        refine i_aload_n (a := 252) r_224_275 (n_224_275 _) rfl ?_
        refine i_getR (a := 252) (b := 271) r_224_276 (n_224_276 _) rfl rfl rfl (by omega) lf_252 (by omega) ?_
        refine i_aload_n (a := 252) r_224_279 (n_224_279 _) rfl ?_
        have e41 : zI (zwI (zwI s 269 (zI s 252 24) x2) 270 (zI s 252 24) x5) 252 24 = zI s 252 24 := (zI_ne (by omega)).trans (zI_ne (by omega))
        refine i_getIe (a := 252) (x := zI s 252 24) r_224_280 (n_224_280 _) rfl (by decide) lf_252 e41 (fun q40 => ?_)
        refine i_iload (x := x7) r_224_283 (n_224_283 _) rfl ?_
        obtain ⟨g42, h⟩ := h
        refine i_iastore (a := 271) (j := zI s 252 24) (x := x7) r_224_285 (n_224_285 _) lf_271 ⟨by omega, by omega⟩ (by omega) (by omega) g42 ?_
        refine i_aload_n (a := 252) r_224_286 (n_224_286 _) rfl ?_
        refine i_dup r_224_287 (n_224_287 _) rfl ?_
        have e44 : zI (zwI (zwI (zwI s 269 (zI s 252 24) x2) 270 (zI s 252 24) x5) 271 (zI s 252 24) x7) 252 24 = zI s 252 24 := (zI_ne (by omega)).trans ((zI_ne (by omega)).trans (zI_ne (by omega)))
        refine i_getIe (a := 252) (x := zI s 252 24) r_224_288 (n_224_288 _) rfl (by decide) lf_252 e44 (fun q43 => ?_)
        refine i_iconst r_224_291 (n_224_291 _) ?_
        refine i_iadd r_224_292 (n_224_292 _) ?_
        obtain ⟨g45, h⟩ := h
        refine i_putI (a := 252) (x := (zI s 252 24) + 1) r_224_293 (n_224_293 _) rfl (.inl rfl) rfl lf_252 g45 ?_
        refine i_aload_n (a := 252) r_224_296 (n_224_296 _) rfl ?_
        refine i_dup r_224_297 (n_224_297 _) rfl ?_
        have e47 : zI (zwI (zwI (zwI (zwI s 269 (zI s 252 24) x2) 270 (zI s 252 24) x5) 271 (zI s 252 24) x7) 252 24 ((zI s 252 24) + 1)) 252 25 = zI s 252 25 := (zI_nj (by omega)).trans ((zI_ne (by omega)).trans ((zI_ne (by omega)).trans (zI_ne (by omega))))
        refine i_getIe (a := 252) (x := zI s 252 25) r_224_298 (n_224_298 _) rfl (by decide) lf_252 e47 (fun q46 => ?_)
        refine i_iload (x := x7 * (zI s 256 (x5 - 100))) r_224_301 (n_224_301 _) rfl ?_
        refine i_iadd r_224_303 (n_224_303 _) ?_
        refine i_putI (a := 252) (x := (zI s 252 25) + (x7 * (zI s 256 (x5 - 100)))) r_224_304 (n_224_304 _) rfl (.inl rfl) rfl lf_252 g33 ?_
        refine i_aload_n (a := 252) r_224_307 (n_224_307 _) rfl ?_
        refine i_iload (x := x6) r_224_308 (n_224_308 _) rfl ?_
        refine i_iconst r_224_310 (n_224_310 _) ?_
        refine i_iadd r_224_311 (n_224_311 _) ?_
        obtain ⟨g48, h⟩ := h
        refine i_putI (a := 252) (x := x6 + 1) r_224_312 (n_224_312 _) rfl (.inl rfl) rfl lf_252 g48 ?_
        refine i_iconst r_224_315 (n_224_315 _) ?_
        exact i_ireturn r_224_316 (n_224_316 _) rfl h
      · replace h := h.2 c34
        refine i_iload (x := x6) r_224_251 (n_224_251 _) rfl ?_
        exact i_ireturn r_224_253 (n_224_253 _) rfl h
theorem r_226_0 : xfetch 226 0 = some (.aload_n 0, 1) := by decide +kernel
theorem n_226_0 : ∀ l, xpr 226 0 l = l := xpr_no (by decide +kernel)
theorem r_226_1 : xfetch 226 1 = some (.iload_n 1, 1) := by decide +kernel
theorem n_226_1 : ∀ l, xpr 226 1 l = l := xpr_no (by decide +kernel)
theorem r_226_2 : xfetch 226 2 = some (.invokevirtual 197, 3) := by decide +kernel
theorem n_226_2 : ∀ l, xpr 226 2 l = l := xpr_no (by decide +kernel)
theorem r_226_5 : xfetch 226 5 = some (.istore_n 2, 1) := by decide +kernel
theorem n_226_5 : ∀ l, xpr 226 5 l = l := xpr_no (by decide +kernel)
theorem r_226_6 : xfetch 226 6 = some (.aload_n 0, 1) := by decide +kernel
theorem n_226_6 : ∀ l, xpr 226 6 l = l := xpr_no (by decide +kernel)
theorem r_226_7 : xfetch 226 7 = some (.iload_n 1, 1) := by decide +kernel
theorem n_226_7 : ∀ l, xpr 226 7 l = l := xpr_no (by decide +kernel)
theorem r_226_8 : xfetch 226 8 = some (.iconst 1, 1) := by decide +kernel
theorem n_226_8 : ∀ l, xpr 226 8 l = l := xpr_no (by decide +kernel)
theorem r_226_9 : xfetch 226 9 = some (.iadd, 1) := by decide +kernel
theorem n_226_9 : ∀ l, xpr 226 9 l = l := xpr_no (by decide +kernel)
theorem r_226_10 : xfetch 226 10 = some (.invokevirtual 197, 3) := by decide +kernel
theorem n_226_10 : ∀ l, xpr 226 10 l = l := xpr_no (by decide +kernel)
theorem r_226_13 : xfetch 226 13 = some (.istore_n 3, 1) := by decide +kernel
theorem n_226_13 : ∀ l, xpr 226 13 l = l := xpr_no (by decide +kernel)
theorem r_226_14 : xfetch 226 14 = some (.iload_n 2, 1) := by decide +kernel
theorem n_226_14 : ∀ l, xpr 226 14 l = l := xpr_no (by decide +kernel)
theorem r_226_15 : xfetch 226 15 = some (.bipush 98, 2) := by decide +kernel
theorem n_226_15 : ∀ l, xpr 226 15 l = l := xpr_no (by decide +kernel)
theorem r_226_17 : xfetch 226 17 = some (.if_icmp .ne 13, 3) := by decide +kernel
theorem n_226_17 : ∀ l, xpr 226 17 l = l := xpr_no (by decide +kernel)
theorem r_226_20 : xfetch 226 20 = some (.aload_n 0, 1) := by decide +kernel
theorem n_226_20 : ∀ l, xpr 226 20 l = l := xpr_no (by decide +kernel)
theorem r_226_21 : xfetch 226 21 = some (.bipush 7, 2) := by decide +kernel
theorem n_226_21 : ∀ l, xpr 226 21 l = l := xpr_no (by decide +kernel)
theorem r_226_23 : xfetch 226 23 = some (.iload_n 1, 1) := by decide +kernel
theorem n_226_23 : ∀ l, xpr 226 23 l = l := xpr_no (by decide +kernel)
theorem r_226_24 : xfetch 226 24 = some (.iconst 1, 1) := by decide +kernel
theorem n_226_24 : ∀ l, xpr 226 24 l = l := xpr_no (by decide +kernel)
theorem r_226_25 : xfetch 226 25 = some (.iadd, 1) := by decide +kernel
theorem n_226_25 : ∀ l, xpr 226 25 l = l := xpr_no (by decide +kernel)
theorem r_226_26 : xfetch 226 26 = some (.invokevirtual 200, 3) := by decide +kernel
theorem n_226_26 : ∀ l, xpr 226 26 l = l := xpr_no (by decide +kernel)
theorem r_226_29 : xfetch 226 29 = some (.ireturn, 1) := by decide +kernel
theorem n_226_29 : ∀ l, xpr 226 29 l = l := xpr_no (by decide +kernel)
theorem r_226_30 : xfetch 226 30 = some (.iload_n 2, 1) := by decide +kernel
theorem n_226_30 : ∀ l, xpr 226 30 l = l := xpr_no (by decide +kernel)
theorem r_226_31 : xfetch 226 31 = some (.bipush 35, 2) := by decide +kernel
theorem n_226_31 : ∀ l, xpr 226 31 l = l := xpr_no (by decide +kernel)
theorem r_226_33 : xfetch 226 33 = some (.if_icmp .ne 69, 3) := by decide +kernel
theorem n_226_33 : ∀ l, xpr 226 33 l = l := xpr_no (by decide +kernel)
theorem r_226_36 : xfetch 226 36 = some (.iload_n 3, 1) := by decide +kernel
theorem n_226_36 : ∀ l, xpr 226 36 l = l := xpr_no (by decide +kernel)
theorem r_226_37 : xfetch 226 37 = some (.bipush 48, 2) := by decide +kernel
theorem n_226_37 : ∀ l, xpr 226 37 l = l := xpr_no (by decide +kernel)
theorem r_226_39 : xfetch 226 39 = some (.bipush 57, 2) := by decide +kernel
theorem n_226_39 : ∀ l, xpr 226 39 l = l := xpr_no (by decide +kernel)
theorem r_226_41 : xfetch 226 41 = some (.invokestatic 88, 3) := by decide +kernel
theorem n_226_41 : ∀ l, xpr 226 41 l = l := xpr_no (by decide +kernel)
theorem r_226_44 : xfetch 226 44 = some (.ifCond .eq 29, 3) := by decide +kernel
theorem n_226_44 : ∀ l, xpr 226 44 l = l := xpr_no (by decide +kernel)
theorem r_226_47 : xfetch 226 47 = some (.aload_n 0, 1) := by decide +kernel
theorem n_226_47 : ∀ l, xpr 226 47 l = l := xpr_no (by decide +kernel)
theorem r_226_48 : xfetch 226 48 = some (.iload_n 3, 1) := by decide +kernel
theorem n_226_48 : ∀ l, xpr 226 48 l = l := xpr_no (by decide +kernel)
theorem r_226_49 : xfetch 226 49 = some (.bipush 48, 2) := by decide +kernel
theorem n_226_49 : ∀ l, xpr 226 49 l = l := xpr_no (by decide +kernel)
theorem r_226_51 : xfetch 226 51 = some (.isub, 1) := by decide +kernel
theorem n_226_51 : ∀ l, xpr 226 51 l = l := xpr_no (by decide +kernel)
theorem r_226_52 : xfetch 226 52 = some (.invokevirtual 142, 3) := by decide +kernel
theorem n_226_52 : ∀ l, xpr 226 52 l = l := xpr_no (by decide +kernel)
theorem r_226_55 : xfetch 226 55 = some (.ifCond .eq 18, 3) := by decide +kernel
theorem n_226_55 : ∀ l, xpr 226 55 l = l := xpr_no (by decide +kernel)
theorem r_226_58 : xfetch 226 58 = some (.aload_n 0, 1) := by decide +kernel
theorem n_226_58 : ∀ l, xpr 226 58 l = l := xpr_no (by decide +kernel)
theorem r_226_59 : xfetch 226 59 = some (.iload_n 3, 1) := by decide +kernel
theorem n_226_59 : ∀ l, xpr 226 59 l = l := xpr_no (by decide +kernel)
theorem r_226_60 : xfetch 226 60 = some (.bipush 48, 2) := by decide +kernel
theorem n_226_60 : ∀ l, xpr 226 60 l = l := xpr_no (by decide +kernel)
theorem r_226_62 : xfetch 226 62 = some (.isub, 1) := by decide +kernel
theorem n_226_62 : ∀ l, xpr 226 62 l = l := xpr_no (by decide +kernel)
theorem r_226_63 : xfetch 226 63 = some (.invokevirtual 99, 3) := by decide +kernel
theorem n_226_63 : ∀ l, xpr 226 63 l = l := xpr_no (by decide +kernel)
theorem r_226_66 : xfetch 226 66 = some (.ifCond .le 7, 3) := by decide +kernel
theorem n_226_66 : ∀ l, xpr 226 66 l = l := xpr_no (by decide +kernel)
theorem r_226_69 : xfetch 226 69 = some (.iconst 1, 1) := by decide +kernel
theorem n_226_69 : ∀ l, xpr 226 69 l = l := xpr_no (by decide +kernel)
theorem r_226_70 : xfetch 226 70 = some (.goto 4, 3) := by decide +kernel
theorem n_226_70 : ∀ l, xpr 226 70 l = l := xpr_no (by decide +kernel)
theorem r_226_73 : xfetch 226 73 = some (.iconst 0, 1) := by decide +kernel
theorem n_226_73 : ∀ l, xpr 226 73 l = l := xpr_no (by decide +kernel)
theorem r_226_74 : xfetch 226 74 = some (.istore 4, 2) := by decide +kernel
theorem r_226_76 : xfetch 226 76 = some (.iload 4, 2) := by decide +kernel
theorem n_226_76 : ∀ l, xpr 226 76 l = l := xpr_no (by decide +kernel)
theorem r_226_78 : xfetch 226 78 = some (.ifCond .eq 20, 3) := by decide +kernel
theorem n_226_78 : ∀ l, xpr 226 78 l = l := xpr_no (by decide +kernel)
theorem r_226_81 : xfetch 226 81 = some (.aload_n 0, 1) := by decide +kernel
theorem n_226_81 : ∀ l, xpr 226 81 l = l := xpr_no (by decide +kernel)
theorem r_226_82 : xfetch 226 82 = some (.bipush 100, 2) := by decide +kernel
theorem n_226_82 : ∀ l, xpr 226 82 l = l := xpr_no (by decide +kernel)
theorem r_226_84 : xfetch 226 84 = some (.iload_n 3, 1) := by decide +kernel
theorem n_226_84 : ∀ l, xpr 226 84 l = l := xpr_no (by decide +kernel)
theorem r_226_85 : xfetch 226 85 = some (.iadd, 1) := by decide +kernel
theorem n_226_85 : ∀ l, xpr 226 85 l = l := xpr_no (by decide +kernel)
theorem r_226_86 : xfetch 226 86 = some (.bipush 48, 2) := by decide +kernel
theorem n_226_86 : ∀ l, xpr 226 86 l = l := xpr_no (by decide +kernel)
theorem r_226_88 : xfetch 226 88 = some (.isub, 1) := by decide +kernel
theorem n_226_88 : ∀ l, xpr 226 88 l = l := xpr_no (by decide +kernel)
theorem r_226_89 : xfetch 226 89 = some (.iload_n 1, 1) := by decide +kernel
theorem n_226_89 : ∀ l, xpr 226 89 l = l := xpr_no (by decide +kernel)
theorem r_226_90 : xfetch 226 90 = some (.iconst 2, 1) := by decide +kernel
theorem n_226_90 : ∀ l, xpr 226 90 l = l := xpr_no (by decide +kernel)
theorem r_226_91 : xfetch 226 91 = some (.iadd, 1) := by decide +kernel
theorem n_226_91 : ∀ l, xpr 226 91 l = l := xpr_no (by decide +kernel)
theorem r_226_92 : xfetch 226 92 = some (.invokevirtual 200, 3) := by decide +kernel
theorem n_226_92 : ∀ l, xpr 226 92 l = l := xpr_no (by decide +kernel)
theorem r_226_95 : xfetch 226 95 = some (.goto 6, 3) := by decide +kernel
theorem n_226_95 : ∀ l, xpr 226 95 l = l := xpr_no (by decide +kernel)
theorem r_226_98 : xfetch 226 98 = some (.iload_n 1, 1) := by decide +kernel
theorem n_226_98 : ∀ l, xpr 226 98 l = l := xpr_no (by decide +kernel)
theorem r_226_99 : xfetch 226 99 = some (.iconst 1, 1) := by decide +kernel
theorem n_226_99 : ∀ l, xpr 226 99 l = l := xpr_no (by decide +kernel)
theorem r_226_100 : xfetch 226 100 = some (.iadd, 1) := by decide +kernel
theorem n_226_100 : ∀ l, xpr 226 100 l = l := xpr_no (by decide +kernel)
theorem r_226_101 : xfetch 226 101 = some (.ireturn, 1) := by decide +kernel
theorem n_226_101 : ∀ l, xpr 226 101 l = l := xpr_no (by decide +kernel)
theorem r_226_102 : xfetch 226 102 = some (.iload_n 2, 1) := by decide +kernel
theorem n_226_102 : ∀ l, xpr 226 102 l = l := xpr_no (by decide +kernel)
theorem r_226_103 : xfetch 226 103 = some (.bipush 37, 2) := by decide +kernel
theorem n_226_103 : ∀ l, xpr 226 103 l = l := xpr_no (by decide +kernel)
theorem r_226_105 : xfetch 226 105 = some (.if_icmp .ne 95, 3) := by decide +kernel
theorem n_226_105 : ∀ l, xpr 226 105 l = l := xpr_no (by decide +kernel)
theorem r_226_108 : xfetch 226 108 = some (.iload_n 3, 1) := by decide +kernel
theorem n_226_108 : ∀ l, xpr 226 108 l = l := xpr_no (by decide +kernel)
theorem r_226_109 : xfetch 226 109 = some (.bipush 49, 2) := by decide +kernel
theorem n_226_109 : ∀ l, xpr 226 109 l = l := xpr_no (by decide +kernel)
theorem r_226_111 : xfetch 226 111 = some (.bipush 57, 2) := by decide +kernel
theorem n_226_111 : ∀ l, xpr 226 111 l = l := xpr_no (by decide +kernel)
theorem r_226_113 : xfetch 226 113 = some (.invokestatic 88, 3) := by decide +kernel
theorem n_226_113 : ∀ l, xpr 226 113 l = l := xpr_no (by decide +kernel)
theorem r_226_116 : xfetch 226 116 = some (.ifCond .ne 7, 3) := by decide +kernel
theorem n_226_116 : ∀ l, xpr 226 116 l = l := xpr_no (by decide +kernel)
theorem r_226_119 : xfetch 226 119 = some (.iload_n 1, 1) := by decide +kernel
theorem n_226_119 : ∀ l, xpr 226 119 l = l := xpr_no (by decide +kernel)
theorem r_226_120 : xfetch 226 120 = some (.iconst 1, 1) := by decide +kernel
theorem n_226_120 : ∀ l, xpr 226 120 l = l := xpr_no (by decide +kernel)
theorem r_226_121 : xfetch 226 121 = some (.iadd, 1) := by decide +kernel
theorem n_226_121 : ∀ l, xpr 226 121 l = l := xpr_no (by decide +kernel)
theorem r_226_122 : xfetch 226 122 = some (.ireturn, 1) := by decide +kernel
theorem n_226_122 : ∀ l, xpr 226 122 l = l := xpr_no (by decide +kernel)
theorem r_226_123 : xfetch 226 123 = some (.aload_n 0, 1) := by decide +kernel
theorem n_226_123 : ∀ l, xpr 226 123 l = l := xpr_no (by decide +kernel)
theorem r_226_124 : xfetch 226 124 = some (.iload_n 1, 1) := by decide +kernel
theorem n_226_124 : ∀ l, xpr 226 124 l = l := xpr_no (by decide +kernel)
theorem r_226_125 : xfetch 226 125 = some (.iconst 2, 1) := by decide +kernel
theorem n_226_125 : ∀ l, xpr 226 125 l = l := xpr_no (by decide +kernel)
theorem r_226_126 : xfetch 226 126 = some (.iadd, 1) := by decide +kernel
theorem n_226_126 : ∀ l, xpr 226 126 l = l := xpr_no (by decide +kernel)
theorem r_226_127 : xfetch 226 127 = some (.invokevirtual 197, 3) := by decide +kernel
theorem n_226_127 : ∀ l, xpr 226 127 l = l := xpr_no (by decide +kernel)
theorem r_226_130 : xfetch 226 130 = some (.istore 4, 2) := by decide +kernel
theorem n_226_130 : ∀ l, xpr 226 130 l = l := xpr_no (by decide +kernel)
theorem r_226_132 : xfetch 226 132 = some (.iload 4, 2) := by decide +kernel
theorem n_226_132 : ∀ l, xpr 226 132 l = l := xpr_no (by decide +kernel)
theorem r_226_134 : xfetch 226 134 = some (.bipush 48, 2) := by decide +kernel
theorem n_226_134 : ∀ l, xpr 226 134 l = l := xpr_no (by decide +kernel)
theorem r_226_136 : xfetch 226 136 = some (.bipush 57, 2) := by decide +kernel
theorem n_226_136 : ∀ l, xpr 226 136 l = l := xpr_no (by decide +kernel)
theorem r_226_138 : xfetch 226 138 = some (.invokestatic 88, 3) := by decide +kernel
theorem n_226_138 : ∀ l, xpr 226 138 l = l := xpr_no (by decide +kernel)
theorem r_226_141 : xfetch 226 141 = some (.ifCond .ne 18, 3) := by decide +kernel
theorem n_226_141 : ∀ l, xpr 226 141 l = l := xpr_no (by decide +kernel)
theorem r_226_144 : xfetch 226 144 = some (.aload_n 0, 1) := by decide +kernel
theorem n_226_144 : ∀ l, xpr 226 144 l = l := xpr_no (by decide +kernel)
theorem r_226_145 : xfetch 226 145 = some (.bipush 20, 2) := by decide +kernel
theorem n_226_145 : ∀ l, xpr 226 145 l = l := xpr_no (by decide +kernel)
theorem r_226_147 : xfetch 226 147 = some (.iload_n 3, 1) := by decide +kernel
theorem n_226_147 : ∀ l, xpr 226 147 l = l := xpr_no (by decide +kernel)
theorem r_226_148 : xfetch 226 148 = some (.iadd, 1) := by decide +kernel
theorem n_226_148 : ∀ l, xpr 226 148 l = l := xpr_no (by decide +kernel)
theorem r_226_149 : xfetch 226 149 = some (.bipush 48, 2) := by decide +kernel
theorem n_226_149 : ∀ l, xpr 226 149 l = l := xpr_no (by decide +kernel)
theorem r_226_151 : xfetch 226 151 = some (.isub, 1) := by decide +kernel
theorem n_226_151 : ∀ l, xpr 226 151 l = l := xpr_no (by decide +kernel)
theorem r_226_152 : xfetch 226 152 = some (.iload_n 1, 1) := by decide +kernel
theorem n_226_152 : ∀ l, xpr 226 152 l = l := xpr_no (by decide +kernel)
theorem r_226_153 : xfetch 226 153 = some (.iconst 2, 1) := by decide +kernel
theorem n_226_153 : ∀ l, xpr 226 153 l = l := xpr_no (by decide +kernel)
theorem r_226_154 : xfetch 226 154 = some (.iadd, 1) := by decide +kernel
theorem n_226_154 : ∀ l, xpr 226 154 l = l := xpr_no (by decide +kernel)
theorem r_226_155 : xfetch 226 155 = some (.invokevirtual 200, 3) := by decide +kernel
theorem n_226_155 : ∀ l, xpr 226 155 l = l := xpr_no (by decide +kernel)
theorem r_226_158 : xfetch 226 158 = some (.ireturn, 1) := by decide +kernel
theorem n_226_158 : ∀ l, xpr 226 158 l = l := xpr_no (by decide +kernel)
theorem r_226_159 : xfetch 226 159 = some (.bipush 10, 2) := by decide +kernel
theorem n_226_159 : ∀ l, xpr 226 159 l = l := xpr_no (by decide +kernel)
theorem r_226_161 : xfetch 226 161 = some (.iload_n 3, 1) := by decide +kernel
theorem n_226_161 : ∀ l, xpr 226 161 l = l := xpr_no (by decide +kernel)
theorem r_226_162 : xfetch 226 162 = some (.bipush 48, 2) := by decide +kernel
theorem n_226_162 : ∀ l, xpr 226 162 l = l := xpr_no (by decide +kernel)
theorem r_226_164 : xfetch 226 164 = some (.isub, 1) := by decide +kernel
theorem n_226_164 : ∀ l, xpr 226 164 l = l := xpr_no (by decide +kernel)
theorem r_226_165 : xfetch 226 165 = some (.imul, 1) := by decide +kernel
theorem n_226_165 : ∀ l, xpr 226 165 l = l := xpr_no (by decide +kernel)
theorem r_226_166 : xfetch 226 166 = some (.iload 4, 2) := by decide +kernel
theorem n_226_166 : ∀ l, xpr 226 166 l = l := xpr_no (by decide +kernel)
theorem r_226_168 : xfetch 226 168 = some (.iadd, 1) := by decide +kernel
theorem n_226_168 : ∀ l, xpr 226 168 l = l := xpr_no (by decide +kernel)
theorem r_226_169 : xfetch 226 169 = some (.bipush 48, 2) := by decide +kernel
theorem n_226_169 : ∀ l, xpr 226 169 l = l := xpr_no (by decide +kernel)
theorem r_226_171 : xfetch 226 171 = some (.isub, 1) := by decide +kernel
theorem n_226_171 : ∀ l, xpr 226 171 l = l := xpr_no (by decide +kernel)
theorem r_226_172 : xfetch 226 172 = some (.istore 5, 2) := by decide +kernel
theorem n_226_172 : ∀ l, xpr 226 172 l = l := xpr_no (by decide +kernel)
theorem r_226_174 : xfetch 226 174 = some (.iload 5, 2) := by decide +kernel
theorem n_226_174 : ∀ l, xpr 226 174 l = l := xpr_no (by decide +kernel)
theorem r_226_176 : xfetch 226 176 = some (.bipush 16, 2) := by decide +kernel
theorem n_226_176 : ∀ l, xpr 226 176 l = l := xpr_no (by decide +kernel)
theorem r_226_178 : xfetch 226 178 = some (.if_icmp .le 9, 3) := by decide +kernel
theorem n_226_178 : ∀ l, xpr 226 178 l = l := xpr_no (by decide +kernel)
theorem r_226_181 : xfetch 226 181 = some (.iload_n 1, 1) := by decide +kernel
theorem n_226_181 : ∀ l, xpr 226 181 l = l := xpr_no (by decide +kernel)
theorem r_226_182 : xfetch 226 182 = some (.iconst 2, 1) := by decide +kernel
theorem n_226_182 : ∀ l, xpr 226 182 l = l := xpr_no (by decide +kernel)
theorem r_226_183 : xfetch 226 183 = some (.iadd, 1) := by decide +kernel
theorem n_226_183 : ∀ l, xpr 226 183 l = l := xpr_no (by decide +kernel)
theorem r_226_184 : xfetch 226 184 = some (.goto 15, 3) := by decide +kernel
theorem n_226_184 : ∀ l, xpr 226 184 l = l := xpr_no (by decide +kernel)
theorem r_226_187 : xfetch 226 187 = some (.aload_n 0, 1) := by decide +kernel
theorem n_226_187 : ∀ l, xpr 226 187 l = l := xpr_no (by decide +kernel)
theorem r_226_188 : xfetch 226 188 = some (.bipush 20, 2) := by decide +kernel
theorem n_226_188 : ∀ l, xpr 226 188 l = l := xpr_no (by decide +kernel)
theorem r_226_190 : xfetch 226 190 = some (.iload 5, 2) := by decide +kernel
theorem n_226_190 : ∀ l, xpr 226 190 l = l := xpr_no (by decide +kernel)
theorem r_226_192 : xfetch 226 192 = some (.iadd, 1) := by decide +kernel
theorem n_226_192 : ∀ l, xpr 226 192 l = l := xpr_no (by decide +kernel)
theorem r_226_193 : xfetch 226 193 = some (.iload_n 1, 1) := by decide +kernel
theorem n_226_193 : ∀ l, xpr 226 193 l = l := xpr_no (by decide +kernel)
theorem r_226_194 : xfetch 226 194 = some (.iconst 3, 1) := by decide +kernel
theorem n_226_194 : ∀ l, xpr 226 194 l = l := xpr_no (by decide +kernel)
theorem r_226_195 : xfetch 226 195 = some (.iadd, 1) := by decide +kernel
theorem n_226_195 : ∀ l, xpr 226 195 l = l := xpr_no (by decide +kernel)
theorem r_226_196 : xfetch 226 196 = some (.invokevirtual 200, 3) := by decide +kernel
theorem n_226_196 : ∀ l, xpr 226 196 l = l := xpr_no (by decide +kernel)
theorem r_226_199 : xfetch 226 199 = some (.ireturn, 1) := by decide +kernel
theorem n_226_199 : ∀ l, xpr 226 199 l = l := xpr_no (by decide +kernel)
theorem r_226_200 : xfetch 226 200 = some (.iload_n 2, 1) := by decide +kernel
theorem n_226_200 : ∀ l, xpr 226 200 l = l := xpr_no (by decide +kernel)
theorem r_226_201 : xfetch 226 201 = some (.bipush 105, 2) := by decide +kernel
theorem n_226_201 : ∀ l, xpr 226 201 l = l := xpr_no (by decide +kernel)
theorem r_226_203 : xfetch 226 203 = some (.if_icmp .eq 11, 3) := by decide +kernel
theorem n_226_203 : ∀ l, xpr 226 203 l = l := xpr_no (by decide +kernel)
theorem r_226_206 : xfetch 226 206 = some (.iload_n 2, 1) := by decide +kernel
theorem n_226_206 : ∀ l, xpr 226 206 l = l := xpr_no (by decide +kernel)
theorem r_226_207 : xfetch 226 207 = some (.bipush 117, 2) := by decide +kernel
theorem n_226_207 : ∀ l, xpr 226 207 l = l := xpr_no (by decide +kernel)
theorem r_226_209 : xfetch 226 209 = some (.if_icmp .eq 5, 3) := by decide +kernel
theorem n_226_209 : ∀ l, xpr 226 209 l = l := xpr_no (by decide +kernel)
theorem r_226_212 : xfetch 226 212 = some (.iload_n 1, 1) := by decide +kernel
theorem n_226_212 : ∀ l, xpr 226 212 l = l := xpr_no (by decide +kernel)
theorem r_226_213 : xfetch 226 213 = some (.ireturn, 1) := by decide +kernel
theorem n_226_213 : ∀ l, xpr 226 213 l = l := xpr_no (by decide +kernel)
theorem r_226_214 : xfetch 226 214 = some (.iload_n 2, 1) := by decide +kernel
theorem n_226_214 : ∀ l, xpr 226 214 l = l := xpr_no (by decide +kernel)
theorem r_226_215 : xfetch 226 215 = some (.bipush 117, 2) := by decide +kernel
theorem n_226_215 : ∀ l, xpr 226 215 l = l := xpr_no (by decide +kernel)
theorem r_226_217 : xfetch 226 217 = some (.if_icmp .ne 7, 3) := by decide +kernel
theorem n_226_217 : ∀ l, xpr 226 217 l = l := xpr_no (by decide +kernel)
theorem r_226_220 : xfetch 226 220 = some (.iconst 1, 1) := by decide +kernel
theorem n_226_220 : ∀ l, xpr 226 220 l = l := xpr_no (by decide +kernel)
theorem r_226_221 : xfetch 226 221 = some (.goto 4, 3) := by decide +kernel
theorem n_226_221 : ∀ l, xpr 226 221 l = l := xpr_no (by decide +kernel)
theorem r_226_224 : xfetch 226 224 = some (.iconst 0, 1) := by decide +kernel
theorem n_226_224 : ∀ l, xpr 226 224 l = l := xpr_no (by decide +kernel)
theorem r_226_225 : xfetch 226 225 = some (.istore 4, 2) := by decide +kernel
theorem r_226_227 : xfetch 226 227 = some (.iload_n 3, 1) := by decide +kernel
theorem n_226_227 : ∀ l, xpr 226 227 l = l := xpr_no (by decide +kernel)
theorem r_226_228 : xfetch 226 228 = some (.bipush 56, 2) := by decide +kernel
theorem n_226_228 : ∀ l, xpr 226 228 l = l := xpr_no (by decide +kernel)
theorem r_226_230 : xfetch 226 230 = some (.if_icmp .ne 13, 3) := by decide +kernel
theorem n_226_230 : ∀ l, xpr 226 230 l = l := xpr_no (by decide +kernel)
theorem r_226_233 : xfetch 226 233 = some (.aload_n 0, 1) := by decide +kernel
theorem n_226_233 : ∀ l, xpr 226 233 l = l := xpr_no (by decide +kernel)
theorem r_226_234 : xfetch 226 234 = some (.iload 4, 2) := by decide +kernel
theorem n_226_234 : ∀ l, xpr 226 234 l = l := xpr_no (by decide +kernel)
theorem r_226_236 : xfetch 226 236 = some (.iload_n 1, 1) := by decide +kernel
theorem n_226_236 : ∀ l, xpr 226 236 l = l := xpr_no (by decide +kernel)
theorem r_226_237 : xfetch 226 237 = some (.iconst 2, 1) := by decide +kernel
theorem n_226_237 : ∀ l, xpr 226 237 l = l := xpr_no (by decide +kernel)
theorem r_226_238 : xfetch 226 238 = some (.iadd, 1) := by decide +kernel
theorem n_226_238 : ∀ l, xpr 226 238 l = l := xpr_no (by decide +kernel)
theorem r_226_239 : xfetch 226 239 = some (.invokevirtual 200, 3) := by decide +kernel
theorem n_226_239 : ∀ l, xpr 226 239 l = l := xpr_no (by decide +kernel)
theorem r_226_242 : xfetch 226 242 = some (.ireturn, 1) := by decide +kernel
theorem n_226_242 : ∀ l, xpr 226 242 l = l := xpr_no (by decide +kernel)
theorem r_226_243 : xfetch 226 243 = some (.iload_n 3, 1) := by decide +kernel
theorem n_226_243 : ∀ l, xpr 226 243 l = l := xpr_no (by decide +kernel)
theorem r_226_244 : xfetch 226 244 = some (.bipush 49, 2) := by decide +kernel
theorem n_226_244 : ∀ l, xpr 226 244 l = l := xpr_no (by decide +kernel)
theorem r_226_246 : xfetch 226 246 = some (.if_icmp .ne 8, 3) := by decide +kernel
theorem n_226_246 : ∀ l, xpr 226 246 l = l := xpr_no (by decide +kernel)
theorem r_226_249 : xfetch 226 249 = some (.bipush 54, 2) := by decide +kernel
theorem n_226_249 : ∀ l, xpr 226 249 l = l := xpr_no (by decide +kernel)
theorem r_226_251 : xfetch 226 251 = some (.goto 32, 3) := by decide +kernel
theorem n_226_251 : ∀ l, xpr 226 251 l = l := xpr_no (by decide +kernel)
theorem r_226_254 : xfetch 226 254 = some (.iload_n 3, 1) := by decide +kernel
theorem n_226_254 : ∀ l, xpr 226 254 l = l := xpr_no (by decide +kernel)
theorem r_226_255 : xfetch 226 255 = some (.bipush 51, 2) := by decide +kernel
theorem n_226_255 : ∀ l, xpr 226 255 l = l := xpr_no (by decide +kernel)
theorem r_226_257 : xfetch 226 257 = some (.if_icmp .ne 8, 3) := by decide +kernel
theorem n_226_257 : ∀ l, xpr 226 257 l = l := xpr_no (by decide +kernel)
theorem r_226_260 : xfetch 226 260 = some (.bipush 50, 2) := by decide +kernel
theorem n_226_260 : ∀ l, xpr 226 260 l = l := xpr_no (by decide +kernel)
theorem r_226_262 : xfetch 226 262 = some (.goto 21, 3) := by decide +kernel
theorem n_226_262 : ∀ l, xpr 226 262 l = l := xpr_no (by decide +kernel)
theorem r_226_265 : xfetch 226 265 = some (.iload_n 3, 1) := by decide +kernel
theorem n_226_265 : ∀ l, xpr 226 265 l = l := xpr_no (by decide +kernel)
theorem r_226_266 : xfetch 226 266 = some (.bipush 54, 2) := by decide +kernel
theorem n_226_266 : ∀ l, xpr 226 266 l = l := xpr_no (by decide +kernel)
theorem r_226_268 : xfetch 226 268 = some (.if_icmp .ne 14, 3) := by decide +kernel
theorem n_226_268 : ∀ l, xpr 226 268 l = l := xpr_no (by decide +kernel)
theorem r_226_271 : xfetch 226 271 = some (.iload_n 2, 1) := by decide +kernel
theorem n_226_271 : ∀ l, xpr 226 271 l = l := xpr_no (by decide +kernel)
theorem r_226_272 : xfetch 226 272 = some (.bipush 105, 2) := by decide +kernel
theorem n_226_272 : ∀ l, xpr 226 272 l = l := xpr_no (by decide +kernel)
theorem r_226_274 : xfetch 226 274 = some (.if_icmp .ne 8, 3) := by decide +kernel
theorem n_226_274 : ∀ l, xpr 226 274 l = l := xpr_no (by decide +kernel)
theorem r_226_277 : xfetch 226 277 = some (.bipush 52, 2) := by decide +kernel
theorem n_226_277 : ∀ l, xpr 226 277 l = l := xpr_no (by decide +kernel)
theorem r_226_279 : xfetch 226 279 = some (.goto 4, 3) := by decide +kernel
theorem n_226_279 : ∀ l, xpr 226 279 l = l := xpr_no (by decide +kernel)
theorem r_226_282 : xfetch 226 282 = some (.iconst (-1), 1) := by decide +kernel
theorem n_226_282 : ∀ l, xpr 226 282 l = l := xpr_no (by decide +kernel)
theorem r_226_283 : xfetch 226 283 = some (.istore 5, 2) := by decide +kernel
theorem r_226_285 : xfetch 226 285 = some (.iload 5, 2) := by decide +kernel
theorem n_226_285 : ∀ l, xpr 226 285 l = l := xpr_no (by decide +kernel)
theorem r_226_287 : xfetch 226 287 = some (.iconst (-1), 1) := by decide +kernel
theorem n_226_287 : ∀ l, xpr 226 287 l = l := xpr_no (by decide +kernel)
theorem r_226_288 : xfetch 226 288 = some (.if_icmp .ne 7, 3) := by decide +kernel
theorem n_226_288 : ∀ l, xpr 226 288 l = l := xpr_no (by decide +kernel)
theorem r_226_291 : xfetch 226 291 = some (.iload_n 1, 1) := by decide +kernel
theorem n_226_291 : ∀ l, xpr 226 291 l = l := xpr_no (by decide +kernel)
theorem r_226_292 : xfetch 226 292 = some (.iconst 1, 1) := by decide +kernel
theorem n_226_292 : ∀ l, xpr 226 292 l = l := xpr_no (by decide +kernel)
theorem r_226_293 : xfetch 226 293 = some (.iadd, 1) := by decide +kernel
theorem n_226_293 : ∀ l, xpr 226 293 l = l := xpr_no (by decide +kernel)
theorem r_226_294 : xfetch 226 294 = some (.ireturn, 1) := by decide +kernel
theorem n_226_294 : ∀ l, xpr 226 294 l = l := xpr_no (by decide +kernel)
theorem r_226_295 : xfetch 226 295 = some (.aload_n 0, 1) := by decide +kernel
theorem n_226_295 : ∀ l, xpr 226 295 l = l := xpr_no (by decide +kernel)
theorem r_226_296 : xfetch 226 296 = some (.iload_n 1, 1) := by decide +kernel
theorem n_226_296 : ∀ l, xpr 226 296 l = l := xpr_no (by decide +kernel)
theorem r_226_297 : xfetch 226 297 = some (.iconst 2, 1) := by decide +kernel
theorem n_226_297 : ∀ l, xpr 226 297 l = l := xpr_no (by decide +kernel)
theorem r_226_298 : xfetch 226 298 = some (.iadd, 1) := by decide +kernel
theorem n_226_298 : ∀ l, xpr 226 298 l = l := xpr_no (by decide +kernel)
theorem r_226_299 : xfetch 226 299 = some (.invokevirtual 197, 3) := by decide +kernel
theorem n_226_299 : ∀ l, xpr 226 299 l = l := xpr_no (by decide +kernel)
theorem r_226_302 : xfetch 226 302 = some (.iload 5, 2) := by decide +kernel
theorem n_226_302 : ∀ l, xpr 226 302 l = l := xpr_no (by decide +kernel)
theorem r_226_304 : xfetch 226 304 = some (.if_icmp .eq 7, 3) := by decide +kernel
theorem n_226_304 : ∀ l, xpr 226 304 l = l := xpr_no (by decide +kernel)
theorem r_226_307 : xfetch 226 307 = some (.iload_n 1, 1) := by decide +kernel
theorem n_226_307 : ∀ l, xpr 226 307 l = l := xpr_no (by decide +kernel)
theorem r_226_308 : xfetch 226 308 = some (.iconst 2, 1) := by decide +kernel
theorem n_226_308 : ∀ l, xpr 226 308 l = l := xpr_no (by decide +kernel)
theorem r_226_309 : xfetch 226 309 = some (.iadd, 1) := by decide +kernel
theorem n_226_309 : ∀ l, xpr 226 309 l = l := xpr_no (by decide +kernel)
theorem r_226_310 : xfetch 226 310 = some (.ireturn, 1) := by decide +kernel
theorem n_226_310 : ∀ l, xpr 226 310 l = l := xpr_no (by decide +kernel)
theorem r_226_311 : xfetch 226 311 = some (.aload_n 0, 1) := by decide +kernel
theorem n_226_311 : ∀ l, xpr 226 311 l = l := xpr_no (by decide +kernel)
theorem r_226_312 : xfetch 226 312 = some (.iload_n 3, 1) := by decide +kernel
theorem n_226_312 : ∀ l, xpr 226 312 l = l := xpr_no (by decide +kernel)
theorem r_226_313 : xfetch 226 313 = some (.bipush 49, 2) := by decide +kernel
theorem n_226_313 : ∀ l, xpr 226 313 l = l := xpr_no (by decide +kernel)
theorem r_226_315 : xfetch 226 315 = some (.if_icmp .ne 10, 3) := by decide +kernel
theorem n_226_315 : ∀ l, xpr 226 315 l = l := xpr_no (by decide +kernel)
theorem r_226_318 : xfetch 226 318 = some (.iconst 2, 1) := by decide +kernel
theorem n_226_318 : ∀ l, xpr 226 318 l = l := xpr_no (by decide +kernel)
theorem r_226_319 : xfetch 226 319 = some (.iload 4, 2) := by decide +kernel
theorem n_226_319 : ∀ l, xpr 226 319 l = l := xpr_no (by decide +kernel)
theorem r_226_321 : xfetch 226 321 = some (.iadd, 1) := by decide +kernel
theorem n_226_321 : ∀ l, xpr 226 321 l = l := xpr_no (by decide +kernel)
theorem r_226_322 : xfetch 226 322 = some (.goto 18, 3) := by decide +kernel
theorem n_226_322 : ∀ l, xpr 226 322 l = l := xpr_no (by decide +kernel)
theorem r_226_325 : xfetch 226 325 = some (.iload_n 3, 1) := by decide +kernel
theorem n_226_325 : ∀ l, xpr 226 325 l = l := xpr_no (by decide +kernel)
theorem r_226_326 : xfetch 226 326 = some (.bipush 51, 2) := by decide +kernel
theorem n_226_326 : ∀ l, xpr 226 326 l = l := xpr_no (by decide +kernel)
theorem r_226_328 : xfetch 226 328 = some (.if_icmp .ne 10, 3) := by decide +kernel
theorem n_226_328 : ∀ l, xpr 226 328 l = l := xpr_no (by decide +kernel)
theorem r_226_331 : xfetch 226 331 = some (.iconst 4, 1) := by decide +kernel
theorem n_226_331 : ∀ l, xpr 226 331 l = l := xpr_no (by decide +kernel)
theorem r_226_332 : xfetch 226 332 = some (.iload 4, 2) := by decide +kernel
theorem n_226_332 : ∀ l, xpr 226 332 l = l := xpr_no (by decide +kernel)
theorem r_226_334 : xfetch 226 334 = some (.iadd, 1) := by decide +kernel
theorem n_226_334 : ∀ l, xpr 226 334 l = l := xpr_no (by decide +kernel)
theorem r_226_335 : xfetch 226 335 = some (.goto 5, 3) := by decide +kernel
theorem n_226_335 : ∀ l, xpr 226 335 l = l := xpr_no (by decide +kernel)
theorem r_226_338 : xfetch 226 338 = some (.bipush 6, 2) := by decide +kernel
theorem n_226_338 : ∀ l, xpr 226 338 l = l := xpr_no (by decide +kernel)
theorem r_226_340 : xfetch 226 340 = some (.iload_n 1, 1) := by decide +kernel
theorem n_226_340 : ∀ l, xpr 226 340 l = l := xpr_no (by decide +kernel)
theorem r_226_341 : xfetch 226 341 = some (.iconst 3, 1) := by decide +kernel
theorem n_226_341 : ∀ l, xpr 226 341 l = l := xpr_no (by decide +kernel)
theorem r_226_342 : xfetch 226 342 = some (.iadd, 1) := by decide +kernel
theorem n_226_342 : ∀ l, xpr 226 342 l = l := xpr_no (by decide +kernel)
theorem r_226_343 : xfetch 226 343 = some (.invokevirtual 200, 3) := by decide +kernel
theorem n_226_343 : ∀ l, xpr 226 343 l = l := xpr_no (by decide +kernel)
theorem r_226_346 : xfetch 226 346 = some (.ireturn, 1) := by decide +kernel
theorem n_226_346 : ∀ l, xpr 226 346 l = l := xpr_no (by decide +kernel)
theorem v_Model_readsType_0 {S : Option (Nat × (Nat → Int32))} {s : zSt} {Q : Option Value ⊕ Nat → zSt → Prop} {x1 : Int} 
    (h : rng x1 ∧ ((x1 < zI s 252 5 → 0 ≤ x1 ∧ x1 < 80) ∧ (rng (x1 + 1) ∧ (((x1 + 1) < zI s 252 5 → 0 ≤ (x1 + 1) ∧ (x1 + 1) < 80) ∧ (rng (zlt x1 (zI s 252 5) (zI s 255 x1)) ∧ (((zlt x1 (zI s 252 5) (zI s 255 x1)) ≠ 98 → ((zlt x1 (zI s 252 5) (zI s 255 x1)) ≠ 35 → ((zlt x1 (zI s 252 5) (zI s 255 x1)) ≠ 37 → ((zlt x1 (zI s 252 5) (zI s 255 x1)) = 105 → ((zlt x1 (zI s 252 5) (zI s 255 x1)) ≠ 117 → wp S 226 225 [(0, rf 252), (1, iv x1), (2, iv (zlt x1 (zI s 252 5) (zI s 255 x1))), (3, iv (zlt (x1 + 1) (zI s 252 5) (zI s 255 (x1 + 1))))] [iv 0] s Q) ∧ ((zlt x1 (zI s 252 5) (zI s 255 x1)) = 117 → wp S 226 225 [(0, rf 252), (1, iv x1), (2, iv (zlt x1 (zI s 252 5) (zI s 255 x1))), (3, iv (zlt (x1 + 1) (zI s 252 5) (zI s 255 (x1 + 1))))] [iv 1] s Q)) ∧ ((zlt x1 (zI s 252 5) (zI s 255 x1)) ≠ 105 → ((zlt x1 (zI s 252 5) (zI s 255 x1)) = 117 → ((zlt x1 (zI s 252 5) (zI s 255 x1)) ≠ 117 → wp S 226 225 [(0, rf 252), (1, iv x1), (2, iv (zlt x1 (zI s 252 5) (zI s 255 x1))), (3, iv (zlt (x1 + 1) (zI s 252 5) (zI s 255 (x1 + 1))))] [iv 0] s Q) ∧ ((zlt x1 (zI s 252 5) (zI s 255 x1)) = 117 → wp S 226 225 [(0, rf 252), (1, iv x1), (2, iv (zlt x1 (zI s 252 5) (zI s 255 x1))), (3, iv (zlt (x1 + 1) (zI s 252 5) (zI s 255 (x1 + 1))))] [iv 1] s Q)) ∧ ((zlt x1 (zI s 252 5) (zI s 255 x1)) ≠ 117 → Q (rI x1) s))) ∧ ((zlt x1 (zI s 252 5) (zI s 255 x1)) = 37 → rng (zlt (x1 + 1) (zI s 252 5) (zI s 255 (x1 + 1))) ∧ ((49 ≤ (zlt (x1 + 1) (zI s 252 5) (zI s 255 (x1 + 1))) ∧ (zlt (x1 + 1) (zI s 252 5) (zI s 255 (x1 + 1))) ≤ 57 → rng (x1 + 2) ∧ (((x1 + 2) < zI s 252 5 → 0 ≤ (x1 + 2) ∧ (x1 + 2) < 80) ∧ (rng (zlt (x1 + 2) (zI s 252 5) (zI s 255 (x1 + 2))) ∧ ((48 ≤ (zlt (x1 + 2) (zI s 252 5) (zI s 255 (x1 + 2))) ∧ (zlt (x1 + 2) (zI s 252 5) (zI s 255 (x1 + 2))) ≤ 57 → rng (((10 * ((zlt (x1 + 1) (zI s 252 5) (zI s 255 (x1 + 1))) - 48)) + (zlt (x1 + 2) (zI s 252 5) (zI s 255 (x1 + 2)))) - 48) ∧ (((((10 * ((zlt (x1 + 1) (zI s 252 5) (zI s 255 (x1 + 1))) - 48)) + (zlt (x1 + 2) (zI s 252 5) (zI s 255 (x1 + 2)))) - 48) ≤ 16 → rng (20 + (((10 * ((zlt (x1 + 1) (zI s 252 5) (zI s 255 (x1 + 1))) - 48)) + (zlt (x1 + 2) (zI s 252 5) (zI s 255 (x1 + 2)))) - 48)) ∧ (rng (x1 + 3) ∧ (Q (rI (-1)) (zwI (zwI s 252 19 (20 + (((10 * ((zlt (x1 + 1) (zI s 252 5) (zI s 255 (x1 + 1))) - 48)) + (zlt (x1 + 2) (zI s 252 5) (zI s 255 (x1 + 2)))) - 48))) 252 20 (x1 + 3))))) ∧ (16 < (((10 * ((zlt (x1 + 1) (zI s 252 5) (zI s 255 (x1 + 1))) - 48)) + (zlt (x1 + 2) (zI s 252 5) (zI s 255 (x1 + 2)))) - 48) → Q (rI (x1 + 2)) s))) ∧ (¬ (48 ≤ (zlt (x1 + 2) (zI s 252 5) (zI s 255 (x1 + 2))) ∧ (zlt (x1 + 2) (zI s 252 5) (zI s 255 (x1 + 2))) ≤ 57) → rng ((20 + (zlt (x1 + 1) (zI s 252 5) (zI s 255 (x1 + 1)))) - 48) ∧ (Q (rI (-1)) (zwI (zwI s 252 19 ((20 + (zlt (x1 + 1) (zI s 252 5) (zI s 255 (x1 + 1)))) - 48)) 252 20 (x1 + 2)))))))) ∧ (¬ (49 ≤ (zlt (x1 + 1) (zI s 252 5) (zI s 255 (x1 + 1))) ∧ (zlt (x1 + 1) (zI s 252 5) (zI s 255 (x1 + 1))) ≤ 57) → Q (rI (x1 + 1)) s)))) ∧ ((zlt x1 (zI s 252 5) (zI s 255 x1)) = 35 → rng (zlt (x1 + 1) (zI s 252 5) (zI s 255 (x1 + 1))) ∧ ((¬ (48 ≤ (zlt (x1 + 1) (zI s 252 5) (zI s 255 (x1 + 1))) ∧ (zlt (x1 + 1) (zI s 252 5) (zI s 255 (x1 + 1))) ≤ 57) → wp S 226 74 [(0, rf 252), (1, iv x1), (3, iv (zlt (x1 + 1) (zI s 252 5) (zI s 255 (x1 + 1))))] [iv 0] s Q) ∧ (48 ≤ (zlt (x1 + 1) (zI s 252 5) (zI s 255 (x1 + 1))) ∧ (zlt (x1 + 1) (zI s 252 5) (zI s 255 (x1 + 1))) ≤ 57 → rng ((zlt (x1 + 1) (zI s 252 5) (zI s 255 (x1 + 1))) - 48) ∧ (rng ((zI s 253 0) - 1) ∧ ((¬ (0 ≤ ((zlt (x1 + 1) (zI s 252 5) (zI s 255 (x1 + 1))) - 48) ∧ ((zlt (x1 + 1) (zI s 252 5) (zI s 255 (x1 + 1))) - 48) ≤ ((zI s 253 0) - 1)) → wp S 226 74 [(0, rf 252), (1, iv x1), (3, iv (zlt (x1 + 1) (zI s 252 5) (zI s 255 (x1 + 1))))] [iv 0] s Q) ∧ (0 ≤ ((zlt (x1 + 1) (zI s 252 5) (zI s 255 (x1 + 1))) - 48) ∧ ((zlt (x1 + 1) (zI s 252 5) (zI s 255 (x1 + 1))) - 48) ≤ ((zI s 253 0) - 1) → (0 ≤ ((1 + (26 * ((zlt (x1 + 1) (zI s 252 5) (zI s 255 (x1 + 1))) - 48))) + 1) ∧ ((1 + (26 * ((zlt (x1 + 1) (zI s 252 5) (zI s 255 (x1 + 1))) - 48))) + 1) < 1199) ∧ (((zI s 253 ((1 + (26 * ((zlt (x1 + 1) (zI s 252 5) (zI s 255 (x1 + 1))) - 48))) + 1)) ≤ 0 → wp S 226 74 [(0, rf 252), (1, iv x1), (3, iv (zlt (x1 + 1) (zI s 252 5) (zI s 255 (x1 + 1))))] [iv 0] s Q) ∧ (0 < (zI s 253 ((1 + (26 * ((zlt (x1 + 1) (zI s 252 5) (zI s 255 (x1 + 1))) - 48))) + 1)) → wp S 226 74 [(0, rf 252), (1, iv x1), (3, iv (zlt (x1 + 1) (zI s 252 5) (zI s 255 (x1 + 1))))] [iv 1] s Q))))))))) ∧ ((zlt x1 (zI s 252 5) (zI s 255 x1)) = 98 → Q (rI (-1)) (zwI (zwI s 252 19 7) 252 20 (x1 + 1))))))))) :
    wp S 226 0 [(0, rf 252), (1, iv x1)] [] s Q := by
  refine i_aload_n (a := 252) r_226_0 (n_226_0 _) rfl ?_
  refine i_iload_n (x := x1) r_226_1 (n_226_1 _) rfl ?_
  obtain ⟨g1, h⟩ := h
  obtain ⟨g2, h⟩ := h
  refine wp_virt (b := 252) (rest := []) (Ls := [(0, rf 252), (1, iv x1)]) r_226_2 (n_226_2 _) rfl ⟨rfl, rfl, by decide, by decide⟩ rfl rfl lf_252 ⟨rfl, Nat.le_of_ble_eq_true rfl, Nat.le_of_ble_eq_true rfl⟩ rfl (K_Model_letter g1 g2) ?_
  rintro _ _ ⟨rfl, rfl⟩
  refine .inl ⟨some (iv (zlt x1 (zI s 252 5) (zI s 255 x1))), rfl, ?_⟩
  show wp S 226 5 [(0, rf 252), (1, iv x1)] [iv (zlt x1 (zI s 252 5) (zI s 255 x1))] s Q
  refine i_istore_n (l' := [(0, rf 252), (1, iv x1), (2, iv (zlt x1 (zI s 252 5) (zI s 255 x1)))]) r_226_5 (n_226_5 _) (by decide) rfl ?_
  refine i_aload_n (a := 252) r_226_6 (n_226_6 _) rfl ?_
  refine i_iload_n (x := x1) r_226_7 (n_226_7 _) rfl ?_
  refine i_iconst r_226_8 (n_226_8 _) ?_
  refine i_iadd r_226_9 (n_226_9 _) ?_
  obtain ⟨g4, h⟩ := h
  obtain ⟨g5, h⟩ := h
  refine wp_virt (b := 252) (rest := []) (Ls := [(0, rf 252), (1, iv (x1 + 1))]) r_226_10 (n_226_10 _) rfl ⟨rfl, rfl, by decide, by decide⟩ rfl rfl lf_252 ⟨rfl, Nat.le_of_ble_eq_true rfl, Nat.le_of_ble_eq_true rfl⟩ rfl (K_Model_letter g4 g5) ?_
  rintro _ _ ⟨rfl, rfl⟩
  refine .inl ⟨some (iv (zlt (x1 + 1) (zI s 252 5) (zI s 255 (x1 + 1)))), rfl, ?_⟩
  show wp S 226 13 [(0, rf 252), (1, iv x1), (2, iv (zlt x1 (zI s 252 5) (zI s 255 x1)))] [iv (zlt (x1 + 1) (zI s 252 5) (zI s 255 (x1 + 1)))] s Q
  refine i_istore_n (l' := [(0, rf 252), (1, iv x1), (2, iv (zlt x1 (zI s 252 5) (zI s 255 x1))), (3, iv (zlt (x1 + 1) (zI s 252 5) (zI s 255 (x1 + 1))))]) r_226_13 (n_226_13 _) (by decide) rfl ?_
  refine i_iload_n (x := zlt x1 (zI s 252 5) (zI s 255 x1)) r_226_14 (n_226_14 _) rfl ?_
  refine i_bipush r_226_15 (n_226_15 _) rfl ?_
  obtain ⟨g7, h⟩ := h
  refine i_icmp (t := 30) r_226_17 (n_226_17 _) rfl (T_ne g7 ⟨by omega, by omega⟩) (fun c8 => ?_) (fun c8 => ?_)
  · replace h := h.1 c8
    refine i_iload_n (x := zlt x1 (zI s 252 5) (zI s 255 x1)) r_226_30 (n_226_30 _) rfl ?_
    refine i_bipush r_226_31 (n_226_31 _) rfl ?_
    refine i_icmp (t := 102) r_226_33 (n_226_33 _) rfl (T_ne g7 ⟨by omega, by omega⟩) (fun c9 => ?_) (fun c9 => ?_)
    · replace h := h.1 c9
      refine i_iload_n (x := zlt x1 (zI s 252 5) (zI s 255 x1)) r_226_102 (n_226_102 _) rfl ?_
      refine i_bipush r_226_103 (n_226_103 _) rfl ?_
      refine i_icmp (t := 200) r_226_105 (n_226_105 _) rfl (T_ne g7 ⟨by omega, by omega⟩) (fun c10 => ?_) (fun c10 => ?_)
      · replace h := h.1 c10
        refine i_iload_n (x := zlt x1 (zI s 252 5) (zI s 255 x1)) r_226_200 (n_226_200 _) rfl ?_
        refine i_bipush r_226_201 (n_226_201 _) rfl ?_
        refine i_icmp (t := 214) r_226_203 (n_226_203 _) rfl (T_eq g7 ⟨by omega, by omega⟩) (fun c11 => ?_) (fun c11 => ?_)
        · replace h := h.1 c11
          refine i_iload_n (x := zlt x1 (zI s 252 5) (zI s 255 x1)) r_226_214 (n_226_214 _) rfl ?_
          refine i_bipush r_226_215 (n_226_215 _) rfl ?_
          refine i_icmp (t := 224) r_226_217 (n_226_217 _) rfl (T_ne g7 ⟨by omega, by omega⟩) (fun c12 => ?_) (fun c12 => ?_)
          · replace h := h.1 c12
            refine i_iconst r_226_224 (n_226_224 _) ?_
            exact wp_pr (l' := [(0, rf 252), (1, iv x1), (2, iv (zlt x1 (zI s 252 5) (zI s 255 x1))), (3, iv (zlt (x1 + 1) (zI s 252 5) (zI s 255 (x1 + 1))))]) rfl h
          · replace h := h.2 c12
            refine i_iconst r_226_220 (n_226_220 _) ?_
            refine i_goto (t := 225) r_226_221 (n_226_221 _) rfl ?_
            exact wp_pr (l' := [(0, rf 252), (1, iv x1), (2, iv (zlt x1 (zI s 252 5) (zI s 255 x1))), (3, iv (zlt (x1 + 1) (zI s 252 5) (zI s 255 (x1 + 1))))]) rfl h
        · replace h := h.2 c11
          refine i_iload_n (x := zlt x1 (zI s 252 5) (zI s 255 x1)) r_226_206 (n_226_206 _) rfl ?_
          refine i_bipush r_226_207 (n_226_207 _) rfl ?_
          refine i_icmp (t := 214) r_226_209 (n_226_209 _) rfl (T_eq g7 ⟨by omega, by omega⟩) (fun c13 => ?_) (fun c13 => ?_)
          · replace h := h.1 c13
            refine i_iload_n (x := zlt x1 (zI s 252 5) (zI s 255 x1)) r_226_214 (n_226_214 _) rfl ?_
            refine i_bipush r_226_215 (n_226_215 _) rfl ?_
            refine i_icmp (t := 224) r_226_217 (n_226_217 _) rfl (T_ne g7 ⟨by omega, by omega⟩) (fun c14 => ?_) (fun c14 => ?_)
            · replace h := h.1 c14
              refine i_iconst r_226_224 (n_226_224 _) ?_
              exact wp_pr (l' := [(0, rf 252), (1, iv x1), (2, iv (zlt x1 (zI s 252 5) (zI s 255 x1))), (3, iv (zlt (x1 + 1) (zI s 252 5) (zI s 255 (x1 + 1))))]) rfl h
            · replace h := h.2 c14
              refine i_iconst r_226_220 (n_226_220 _) ?_
              refine i_goto (t := 225) r_226_221 (n_226_221 _) rfl ?_
              exact wp_pr (l' := [(0, rf 252), (1, iv x1), (2, iv (zlt x1 (zI s 252 5) (zI s 255 x1))), (3, iv (zlt (x1 + 1) (zI s 252 5) (zI s 255 (x1 + 1))))]) rfl h
          · replace h := h.2 c13
            refine i_iload_n (x := x1) r_226_212 (n_226_212 _) rfl ?_
            exact i_ireturn r_226_213 (n_226_213 _) rfl h
      · replace h := h.2 c10
        refine i_iload_n (x := zlt (x1 + 1) (zI s 252 5) (zI s 255 (x1 + 1))) r_226_108 (n_226_108 _) rfl ?_
        refine i_bipush r_226_109 (n_226_109 _) rfl ?_
        refine i_bipush r_226_111 (n_226_111 _) rfl ?_
        obtain ⟨g15, h⟩ := h
        refine wp_stat (rest := []) (Ls := [(0, iv (zlt (x1 + 1) (zI s 252 5) (zI s 255 (x1 + 1)))), (1, iv 49), (2, iv 57)]) r_226_113 (n_226_113 _) rfl ⟨rfl, by decide, by decide, by decide⟩ rfl rfl ⟨rfl, Nat.le_of_ble_eq_true rfl, Nat.le_of_ble_eq_true rfl⟩ rfl (K_Model_within g15 ⟨by omega, by omega⟩ ⟨by omega, by omega⟩) ?_
        rintro _ _ ⟨rfl, rfl⟩
        refine .inl ⟨some (iv (bi (49 ≤ (zlt (x1 + 1) (zI s 252 5) (zI s 255 (x1 + 1))) ∧ (zlt (x1 + 1) (zI s 252 5) (zI s 255 (x1 + 1))) ≤ 57))), rfl, ?_⟩
        show wp S 226 116 [(0, rf 252), (1, iv x1), (2, iv (zlt x1 (zI s 252 5) (zI s 255 x1))), (3, iv (zlt (x1 + 1) (zI s 252 5) (zI s 255 (x1 + 1))))] [iv (bi (49 ≤ (zlt (x1 + 1) (zI s 252 5) (zI s 255 (x1 + 1))) ∧ (zlt (x1 + 1) (zI s 252 5) (zI s 255 (x1 + 1))) ≤ 57))] s Q
        refine i_if (t := 123) r_226_116 (n_226_116 _) rfl (TB_ne) (fun c17 => ?_) (fun c17 => ?_)
        · replace h := h.1 c17
          refine i_aload_n (a := 252) r_226_123 (n_226_123 _) rfl ?_
          refine i_iload_n (x := x1) r_226_124 (n_226_124 _) rfl ?_
          refine i_iconst r_226_125 (n_226_125 _) ?_
          refine i_iadd r_226_126 (n_226_126 _) ?_
          obtain ⟨g18, h⟩ := h
          obtain ⟨g19, h⟩ := h
          refine wp_virt (b := 252) (rest := []) (Ls := [(0, rf 252), (1, iv (x1 + 2))]) r_226_127 (n_226_127 _) rfl ⟨rfl, rfl, by decide, by decide⟩ rfl rfl lf_252 ⟨rfl, Nat.le_of_ble_eq_true rfl, Nat.le_of_ble_eq_true rfl⟩ rfl (K_Model_letter g18 g19) ?_
          rintro _ _ ⟨rfl, rfl⟩
          refine .inl ⟨some (iv (zlt (x1 + 2) (zI s 252 5) (zI s 255 (x1 + 2)))), rfl, ?_⟩
          show wp S 226 130 [(0, rf 252), (1, iv x1), (2, iv (zlt x1 (zI s 252 5) (zI s 255 x1))), (3, iv (zlt (x1 + 1) (zI s 252 5) (zI s 255 (x1 + 1))))] [iv (zlt (x1 + 2) (zI s 252 5) (zI s 255 (x1 + 2)))] s Q
          refine i_istore (l' := [(0, rf 252), (1, iv x1), (2, iv (zlt x1 (zI s 252 5) (zI s 255 x1))), (3, iv (zlt (x1 + 1) (zI s 252 5) (zI s 255 (x1 + 1)))), (4, iv (zlt (x1 + 2) (zI s 252 5) (zI s 255 (x1 + 2))))]) r_226_130 (n_226_130 _) (by decide) rfl ?_
          refine i_iload (x := zlt (x1 + 2) (zI s 252 5) (zI s 255 (x1 + 2))) r_226_132 (n_226_132 _) rfl ?_
          refine i_bipush r_226_134 (n_226_134 _) rfl ?_
          refine i_bipush r_226_136 (n_226_136 _) rfl ?_
          obtain ⟨g21, h⟩ := h
          refine wp_stat (rest := []) (Ls := [(0, iv (zlt (x1 + 2) (zI s 252 5) (zI s 255 (x1 + 2)))), (1, iv 48), (2, iv 57)]) r_226_138 (n_226_138 _) rfl ⟨rfl, by decide, by decide, by decide⟩ rfl rfl ⟨rfl, Nat.le_of_ble_eq_true rfl, Nat.le_of_ble_eq_true rfl⟩ rfl (K_Model_within g21 ⟨by omega, by omega⟩ ⟨by omega, by omega⟩) ?_
          rintro _ _ ⟨rfl, rfl⟩
          refine .inl ⟨some (iv (bi (48 ≤ (zlt (x1 + 2) (zI s 252 5) (zI s 255 (x1 + 2))) ∧ (zlt (x1 + 2) (zI s 252 5) (zI s 255 (x1 + 2))) ≤ 57))), rfl, ?_⟩
          show wp S 226 141 [(0, rf 252), (1, iv x1), (2, iv (zlt x1 (zI s 252 5) (zI s 255 x1))), (3, iv (zlt (x1 + 1) (zI s 252 5) (zI s 255 (x1 + 1)))), (4, iv (zlt (x1 + 2) (zI s 252 5) (zI s 255 (x1 + 2))))] [iv (bi (48 ≤ (zlt (x1 + 2) (zI s 252 5) (zI s 255 (x1 + 2))) ∧ (zlt (x1 + 2) (zI s 252 5) (zI s 255 (x1 + 2))) ≤ 57))] s Q
          refine i_if (t := 159) r_226_141 (n_226_141 _) rfl (TB_ne) (fun c23 => ?_) (fun c23 => ?_)
          · replace h := h.1 c23
            refine i_bipush r_226_159 (n_226_159 _) rfl ?_
            refine i_iload_n (x := zlt (x1 + 1) (zI s 252 5) (zI s 255 (x1 + 1))) r_226_161 (n_226_161 _) rfl ?_
            refine i_bipush r_226_162 (n_226_162 _) rfl ?_
            refine i_isub r_226_164 (n_226_164 _) ?_
            refine i_imul r_226_165 (n_226_165 _) ?_
            refine i_iload (x := zlt (x1 + 2) (zI s 252 5) (zI s 255 (x1 + 2))) r_226_166 (n_226_166 _) rfl ?_
            refine i_iadd r_226_168 (n_226_168 _) ?_
            refine i_bipush r_226_169 (n_226_169 _) rfl ?_
            refine i_isub r_226_171 (n_226_171 _) ?_
            refine i_istore (l' := [(0, rf 252), (1, iv x1), (2, iv (zlt x1 (zI s 252 5) (zI s 255 x1))), (3, iv (zlt (x1 + 1) (zI s 252 5) (zI s 255 (x1 + 1)))), (4, iv (zlt (x1 + 2) (zI s 252 5) (zI s 255 (x1 + 2)))), (5, iv (((10 * ((zlt (x1 + 1) (zI s 252 5) (zI s 255 (x1 + 1))) - 48)) + (zlt (x1 + 2) (zI s 252 5) (zI s 255 (x1 + 2)))) - 48))]) r_226_172 (n_226_172 _) (by decide) rfl ?_
            refine i_iload (x := ((10 * ((zlt (x1 + 1) (zI s 252 5) (zI s 255 (x1 + 1))) - 48)) + (zlt (x1 + 2) (zI s 252 5) (zI s 255 (x1 + 2)))) - 48) r_226_174 (n_226_174 _) rfl ?_
            refine i_bipush r_226_176 (n_226_176 _) rfl ?_
            obtain ⟨g24, h⟩ := h
            refine i_icmp (t := 187) r_226_178 (n_226_178 _) rfl (T_le g24 ⟨by omega, by omega⟩) (fun c25 => ?_) (fun c25 => ?_)
            · replace h := h.1 c25
              refine i_aload_n (a := 252) r_226_187 (n_226_187 _) rfl ?_
              refine i_bipush r_226_188 (n_226_188 _) rfl ?_
              refine i_iload (x := ((10 * ((zlt (x1 + 1) (zI s 252 5) (zI s 255 (x1 + 1))) - 48)) + (zlt (x1 + 2) (zI s 252 5) (zI s 255 (x1 + 2)))) - 48) r_226_190 (n_226_190 _) rfl ?_
              refine i_iadd r_226_192 (n_226_192 _) ?_
              refine i_iload_n (x := x1) r_226_193 (n_226_193 _) rfl ?_
              refine i_iconst r_226_194 (n_226_194 _) ?_
              refine i_iadd r_226_195 (n_226_195 _) ?_
              obtain ⟨g26, h⟩ := h
              obtain ⟨g27, h⟩ := h
              refine wp_virt (b := 252) (rest := []) (Ls := [(0, rf 252), (1, iv (20 + (((10 * ((zlt (x1 + 1) (zI s 252 5) (zI s 255 (x1 + 1))) - 48)) + (zlt (x1 + 2) (zI s 252 5) (zI s 255 (x1 + 2)))) - 48))), (2, iv (x1 + 3))]) r_226_196 (n_226_196 _) rfl ⟨rfl, rfl, by decide, by decide⟩ rfl rfl lf_252 ⟨rfl, Nat.le_of_ble_eq_true rfl, Nat.le_of_ble_eq_true rfl⟩ rfl (K_Model_plain g26 g27) ?_
              rintro _ _ ⟨rfl, rfl⟩
              refine .inl ⟨some (iv (-1)), rfl, ?_⟩
              show wp S 226 199 [(0, rf 252), (1, iv x1), (2, iv (zlt x1 (zI s 252 5) (zI s 255 x1))), (3, iv (zlt (x1 + 1) (zI s 252 5) (zI s 255 (x1 + 1)))), (4, iv (zlt (x1 + 2) (zI s 252 5) (zI s 255 (x1 + 2)))), (5, iv (((10 * ((zlt (x1 + 1) (zI s 252 5) (zI s 255 (x1 + 1))) - 48)) + (zlt (x1 + 2) (zI s 252 5) (zI s 255 (x1 + 2)))) - 48))] [iv (-1)] (zwI (zwI s 252 19 (20 + (((10 * ((zlt (x1 + 1) (zI s 252 5) (zI s 255 (x1 + 1))) - 48)) + (zlt (x1 + 2) (zI s 252 5) (zI s 255 (x1 + 2)))) - 48))) 252 20 (x1 + 3)) Q
              exact i_ireturn r_226_199 (n_226_199 _) rfl h
            · replace h := h.2 c25
              refine i_iload_n (x := x1) r_226_181 (n_226_181 _) rfl ?_
              refine i_iconst r_226_182 (n_226_182 _) ?_
              refine i_iadd r_226_183 (n_226_183 _) ?_
              refine i_goto (t := 199) r_226_184 (n_226_184 _) rfl ?_
              exact i_ireturn r_226_199 (n_226_199 _) rfl h
          · replace h := h.2 c23
            refine i_aload_n (a := 252) r_226_144 (n_226_144 _) rfl ?_
            refine i_bipush r_226_145 (n_226_145 _) rfl ?_
            refine i_iload_n (x := zlt (x1 + 1) (zI s 252 5) (zI s 255 (x1 + 1))) r_226_147 (n_226_147 _) rfl ?_
            refine i_iadd r_226_148 (n_226_148 _) ?_
            refine i_bipush r_226_149 (n_226_149 _) rfl ?_
            refine i_isub r_226_151 (n_226_151 _) ?_
            refine i_iload_n (x := x1) r_226_152 (n_226_152 _) rfl ?_
            refine i_iconst r_226_153 (n_226_153 _) ?_
            refine i_iadd r_226_154 (n_226_154 _) ?_
            obtain ⟨g29, h⟩ := h
            refine wp_virt (b := 252) (rest := []) (Ls := [(0, rf 252), (1, iv ((20 + (zlt (x1 + 1) (zI s 252 5) (zI s 255 (x1 + 1)))) - 48)), (2, iv (x1 + 2))]) r_226_155 (n_226_155 _) rfl ⟨rfl, rfl, by decide, by decide⟩ rfl rfl lf_252 ⟨rfl, Nat.le_of_ble_eq_true rfl, Nat.le_of_ble_eq_true rfl⟩ rfl (K_Model_plain g29 g18) ?_
            rintro _ _ ⟨rfl, rfl⟩
            refine .inl ⟨some (iv (-1)), rfl, ?_⟩
            show wp S 226 158 [(0, rf 252), (1, iv x1), (2, iv (zlt x1 (zI s 252 5) (zI s 255 x1))), (3, iv (zlt (x1 + 1) (zI s 252 5) (zI s 255 (x1 + 1)))), (4, iv (zlt (x1 + 2) (zI s 252 5) (zI s 255 (x1 + 2))))] [iv (-1)] (zwI (zwI s 252 19 ((20 + (zlt (x1 + 1) (zI s 252 5) (zI s 255 (x1 + 1)))) - 48)) 252 20 (x1 + 2)) Q
            exact i_ireturn r_226_158 (n_226_158 _) rfl h
        · replace h := h.2 c17
          refine i_iload_n (x := x1) r_226_119 (n_226_119 _) rfl ?_
          refine i_iconst r_226_120 (n_226_120 _) ?_
          refine i_iadd r_226_121 (n_226_121 _) ?_
          exact i_ireturn r_226_122 (n_226_122 _) rfl h
    · replace h := h.2 c9
      refine i_iload_n (x := zlt (x1 + 1) (zI s 252 5) (zI s 255 (x1 + 1))) r_226_36 (n_226_36 _) rfl ?_
      refine i_bipush r_226_37 (n_226_37 _) rfl ?_
      refine i_bipush r_226_39 (n_226_39 _) rfl ?_
      obtain ⟨g31, h⟩ := h
      refine wp_stat (rest := []) (Ls := [(0, iv (zlt (x1 + 1) (zI s 252 5) (zI s 255 (x1 + 1)))), (1, iv 48), (2, iv 57)]) r_226_41 (n_226_41 _) rfl ⟨rfl, by decide, by decide, by decide⟩ rfl rfl ⟨rfl, Nat.le_of_ble_eq_true rfl, Nat.le_of_ble_eq_true rfl⟩ rfl (K_Model_within g31 ⟨by omega, by omega⟩ ⟨by omega, by omega⟩) ?_
      rintro _ _ ⟨rfl, rfl⟩
      refine .inl ⟨some (iv (bi (48 ≤ (zlt (x1 + 1) (zI s 252 5) (zI s 255 (x1 + 1))) ∧ (zlt (x1 + 1) (zI s 252 5) (zI s 255 (x1 + 1))) ≤ 57))), rfl, ?_⟩
      show wp S 226 44 [(0, rf 252), (1, iv x1), (2, iv (zlt x1 (zI s 252 5) (zI s 255 x1))), (3, iv (zlt (x1 + 1) (zI s 252 5) (zI s 255 (x1 + 1))))] [iv (bi (48 ≤ (zlt (x1 + 1) (zI s 252 5) (zI s 255 (x1 + 1))) ∧ (zlt (x1 + 1) (zI s 252 5) (zI s 255 (x1 + 1))) ≤ 57))] s Q
      refine i_if (t := 73) r_226_44 (n_226_44 _) rfl (TB_eq) (fun c33 => ?_) (fun c33 => ?_)
      · replace h := h.1 c33
        refine i_iconst r_226_73 (n_226_73 _) ?_
        exact wp_pr (l' := [(0, rf 252), (1, iv x1), (3, iv (zlt (x1 + 1) (zI s 252 5) (zI s 255 (x1 + 1))))]) rfl h
      · replace h := h.2 c33
        refine i_aload_n (a := 252) r_226_47 (n_226_47 _) rfl ?_
        refine i_iload_n (x := zlt (x1 + 1) (zI s 252 5) (zI s 255 (x1 + 1))) r_226_48 (n_226_48 _) rfl ?_
        refine i_bipush r_226_49 (n_226_49 _) rfl ?_
        refine i_isub r_226_51 (n_226_51 _) ?_
        obtain ⟨g34, h⟩ := h
        obtain ⟨g35, h⟩ := h
        refine wp_virt (b := 252) (rest := []) (Ls := [(0, rf 252), (1, iv ((zlt (x1 + 1) (zI s 252 5) (zI s 255 (x1 + 1))) - 48))]) r_226_52 (n_226_52 _) rfl ⟨rfl, rfl, by decide, by decide⟩ rfl rfl lf_252 ⟨rfl, Nat.le_of_ble_eq_true rfl, Nat.le_of_ble_eq_true rfl⟩ rfl (K_Model_isRecord g34 g35) ?_
        rintro _ _ ⟨rfl, rfl⟩
        refine .inl ⟨some (iv (bi (0 ≤ ((zlt (x1 + 1) (zI s 252 5) (zI s 255 (x1 + 1))) - 48) ∧ ((zlt (x1 + 1) (zI s 252 5) (zI s 255 (x1 + 1))) - 48) ≤ ((zI s 253 0) - 1)))), rfl, ?_⟩
        show wp S 226 55 [(0, rf 252), (1, iv x1), (2, iv (zlt x1 (zI s 252 5) (zI s 255 x1))), (3, iv (zlt (x1 + 1) (zI s 252 5) (zI s 255 (x1 + 1))))] [iv (bi (0 ≤ ((zlt (x1 + 1) (zI s 252 5) (zI s 255 (x1 + 1))) - 48) ∧ ((zlt (x1 + 1) (zI s 252 5) (zI s 255 (x1 + 1))) - 48) ≤ ((zI s 253 0) - 1)))] s Q
        refine i_if (t := 73) r_226_55 (n_226_55 _) rfl (TB_eq) (fun c37 => ?_) (fun c37 => ?_)
        · replace h := h.1 c37
          refine i_iconst r_226_73 (n_226_73 _) ?_
          exact wp_pr (l' := [(0, rf 252), (1, iv x1), (3, iv (zlt (x1 + 1) (zI s 252 5) (zI s 255 (x1 + 1))))]) rfl h
        · replace h := h.2 c37
          refine i_aload_n (a := 252) r_226_58 (n_226_58 _) rfl ?_
          refine i_iload_n (x := zlt (x1 + 1) (zI s 252 5) (zI s 255 (x1 + 1))) r_226_59 (n_226_59 _) rfl ?_
          refine i_bipush r_226_60 (n_226_60 _) rfl ?_
          refine i_isub r_226_62 (n_226_62 _) ?_
          obtain ⟨g38, h⟩ := h
          refine wp_virt (b := 252) (rest := []) (Ls := [(0, rf 252), (1, iv ((zlt (x1 + 1) (zI s 252 5) (zI s 255 (x1 + 1))) - 48))]) r_226_63 (n_226_63 _) rfl ⟨rfl, rfl, by decide, by decide⟩ rfl rfl lf_252 ⟨rfl, Nat.le_of_ble_eq_true rfl, Nat.le_of_ble_eq_true rfl⟩ rfl (K_Model_fieldsOf g38) ?_
          rintro _ _ ⟨rfl, rfl⟩
          refine .inl ⟨some (iv (zI s 253 ((1 + (26 * ((zlt (x1 + 1) (zI s 252 5) (zI s 255 (x1 + 1))) - 48))) + 1))), rfl, ?_⟩
          show wp S 226 66 [(0, rf 252), (1, iv x1), (2, iv (zlt x1 (zI s 252 5) (zI s 255 x1))), (3, iv (zlt (x1 + 1) (zI s 252 5) (zI s 255 (x1 + 1))))] [iv (zI s 253 ((1 + (26 * ((zlt (x1 + 1) (zI s 252 5) (zI s 255 (x1 + 1))) - 48))) + 1))] s Q
          refine wp_rd (a := 253) (j := ((1 + (26 * ((zlt (x1 + 1) (zI s 252 5) (zI s 255 (x1 + 1))) - 48))) + 1)) (fun q40 => ?_)
          refine i_if (t := 73) r_226_66 (n_226_66 _) rfl (T_le q40 ⟨by omega, by omega⟩) (fun c41 => ?_) (fun c41 => ?_)
          · replace h := h.1 c41
            refine i_iconst r_226_73 (n_226_73 _) ?_
            exact wp_pr (l' := [(0, rf 252), (1, iv x1), (3, iv (zlt (x1 + 1) (zI s 252 5) (zI s 255 (x1 + 1))))]) rfl h
          · replace h := h.2 c41
            refine i_iconst r_226_69 (n_226_69 _) ?_
            refine i_goto (t := 74) r_226_70 (n_226_70 _) rfl ?_
            exact wp_pr (l' := [(0, rf 252), (1, iv x1), (3, iv (zlt (x1 + 1) (zI s 252 5) (zI s 255 (x1 + 1))))]) rfl h
  · replace h := h.2 c8
    refine i_aload_n (a := 252) r_226_20 (n_226_20 _) rfl ?_
    refine i_bipush r_226_21 (n_226_21 _) rfl ?_
    refine i_iload_n (x := x1) r_226_23 (n_226_23 _) rfl ?_
    refine i_iconst r_226_24 (n_226_24 _) ?_
    refine i_iadd r_226_25 (n_226_25 _) ?_
    refine wp_virt (b := 252) (rest := []) (Ls := [(0, rf 252), (1, iv 7), (2, iv (x1 + 1))]) r_226_26 (n_226_26 _) rfl ⟨rfl, rfl, by decide, by decide⟩ rfl rfl lf_252 ⟨rfl, Nat.le_of_ble_eq_true rfl, Nat.le_of_ble_eq_true rfl⟩ rfl (K_Model_plain ⟨by omega, by omega⟩ g4) ?_
    rintro _ _ ⟨rfl, rfl⟩
    refine .inl ⟨some (iv (-1)), rfl, ?_⟩
    show wp S 226 29 [(0, rf 252), (1, iv x1), (2, iv (zlt x1 (zI s 252 5) (zI s 255 x1))), (3, iv (zlt (x1 + 1) (zI s 252 5) (zI s 255 (x1 + 1))))] [iv (-1)] (zwI (zwI s 252 19 7) 252 20 (x1 + 1)) Q
    exact i_ireturn r_226_29 (n_226_29 _) rfl h
theorem v_Model_readsType_74 {S : Option (Nat × (Nat → Int32))} {s : zSt} {Q : Option Value ⊕ Nat → zSt → Prop} {x1 : Int} {x3 : Int} {x90 : Int} 
    (h : rng x90 ∧ ((x90 = 0 → Q (rI (x1 + 1)) s) ∧ (x90 ≠ 0 → rng ((100 + x3) - 48) ∧ (rng (x1 + 2) ∧ (Q (rI (-1)) (zwI (zwI s 252 19 ((100 + x3) - 48)) 252 20 (x1 + 2))))))) :
    wp S 226 74 [(0, rf 252), (1, iv x1), (3, iv x3)] [iv x90] s Q := by
  refine i_istore (l' := [(0, rf 252), (1, iv x1), (3, iv x3), (4, iv x90)]) r_226_74 rfl (by decide) rfl ?_
  refine i_iload (x := x90) r_226_76 (n_226_76 _) rfl ?_
  obtain ⟨g1, h⟩ := h
  refine i_if (t := 98) r_226_78 (n_226_78 _) rfl (T_eq g1 ⟨by omega, by omega⟩) (fun c2 => ?_) (fun c2 => ?_)
  · replace h := h.1 c2
    refine i_iload_n (x := x1) r_226_98 (n_226_98 _) rfl ?_
    refine i_iconst r_226_99 (n_226_99 _) ?_
    refine i_iadd r_226_100 (n_226_100 _) ?_
    exact i_ireturn r_226_101 (n_226_101 _) rfl h
  · replace h := h.2 c2
    refine i_aload_n (a := 252) r_226_81 (n_226_81 _) rfl ?_
    refine i_bipush r_226_82 (n_226_82 _) rfl ?_
    refine i_iload_n (x := x3) r_226_84 (n_226_84 _) rfl ?_
    refine i_iadd r_226_85 (n_226_85 _) ?_
    refine i_bipush r_226_86 (n_226_86 _) rfl ?_
    refine i_isub r_226_88 (n_226_88 _) ?_
    refine i_iload_n (x := x1) r_226_89 (n_226_89 _) rfl ?_
    refine i_iconst r_226_90 (n_226_90 _) ?_
    refine i_iadd r_226_91 (n_226_91 _) ?_
    obtain ⟨g3, h⟩ := h
    obtain ⟨g4, h⟩ := h
    refine wp_virt (b := 252) (rest := []) (Ls := [(0, rf 252), (1, iv ((100 + x3) - 48)), (2, iv (x1 + 2))]) r_226_92 (n_226_92 _) rfl ⟨rfl, rfl, by decide, by decide⟩ rfl rfl lf_252 ⟨rfl, Nat.le_of_ble_eq_true rfl, Nat.le_of_ble_eq_true rfl⟩ rfl (K_Model_plain g3 g4) ?_
    rintro _ _ ⟨rfl, rfl⟩
    refine .inl ⟨some (iv (-1)), rfl, ?_⟩
    show wp S 226 95 [(0, rf 252), (1, iv x1), (3, iv x3), (4, iv x90)] [iv (-1)] (zwI (zwI s 252 19 ((100 + x3) - 48)) 252 20 (x1 + 2)) Q
    refine i_goto (t := 101) r_226_95 (n_226_95 _) rfl ?_
    exact i_ireturn r_226_101 (n_226_101 _) rfl h
theorem v_Model_readsType_225 {S : Option (Nat × (Nat → Int32))} {s : zSt} {Q : Option Value ⊕ Nat → zSt → Prop} {x1 : Int} {x2 : Int} {x3 : Int} {x90 : Int} 
    (h : rng x3 ∧ ((x3 ≠ 56 → (x3 ≠ 49 → (x3 ≠ 51 → (x3 ≠ 54 → wp S 226 283 [(0, rf 252), (1, iv x1), (3, iv x3), (4, iv x90)] [iv (-1)] s Q) ∧ (x3 = 54 → rng x2 ∧ ((x2 ≠ 105 → wp S 226 283 [(0, rf 252), (1, iv x1), (3, iv x3), (4, iv x90)] [iv (-1)] s Q) ∧ (x2 = 105 → wp S 226 283 [(0, rf 252), (1, iv x1), (3, iv x3), (4, iv x90)] [iv 52] s Q)))) ∧ (x3 = 51 → wp S 226 283 [(0, rf 252), (1, iv x1), (3, iv x3), (4, iv x90)] [iv 50] s Q)) ∧ (x3 = 49 → wp S 226 283 [(0, rf 252), (1, iv x1), (3, iv x3), (4, iv x90)] [iv 54] s Q)) ∧ (x3 = 56 → rng x90 ∧ (rng (x1 + 2) ∧ (Q (rI (-1)) (zwI (zwI s 252 19 x90) 252 20 (x1 + 2))))))) :
    wp S 226 225 [(0, rf 252), (1, iv x1), (2, iv x2), (3, iv x3)] [iv x90] s Q := by
  refine i_istore (l' := [(0, rf 252), (1, iv x1), (2, iv x2), (3, iv x3), (4, iv x90)]) r_226_225 rfl (by decide) rfl ?_
  refine i_iload_n (x := x3) r_226_227 (n_226_227 _) rfl ?_
  refine i_bipush r_226_228 (n_226_228 _) rfl ?_
  obtain ⟨g1, h⟩ := h
  refine i_icmp (t := 243) r_226_230 (n_226_230 _) rfl (T_ne g1 ⟨by omega, by omega⟩) (fun c2 => ?_) (fun c2 => ?_)
  · replace h := h.1 c2
    refine i_iload_n (x := x3) r_226_243 (n_226_243 _) rfl ?_
    refine i_bipush r_226_244 (n_226_244 _) rfl ?_
    refine i_icmp (t := 254) r_226_246 (n_226_246 _) rfl (T_ne g1 ⟨by omega, by omega⟩) (fun c3 => ?_) (fun c3 => ?_)
    · replace h := h.1 c3
      refine i_iload_n (x := x3) r_226_254 (n_226_254 _) rfl ?_
      refine i_bipush r_226_255 (n_226_255 _) rfl ?_
      refine i_icmp (t := 265) r_226_257 (n_226_257 _) rfl (T_ne g1 ⟨by omega, by omega⟩) (fun c4 => ?_) (fun c4 => ?_)
      · replace h := h.1 c4
        refine i_iload_n (x := x3) r_226_265 (n_226_265 _) rfl ?_
        refine i_bipush r_226_266 (n_226_266 _) rfl ?_
        refine i_icmp (t := 282) r_226_268 (n_226_268 _) rfl (T_ne g1 ⟨by omega, by omega⟩) (fun c5 => ?_) (fun c5 => ?_)
        · replace h := h.1 c5
          refine i_iconst r_226_282 (n_226_282 _) ?_
          exact wp_pr (l' := [(0, rf 252), (1, iv x1), (3, iv x3), (4, iv x90)]) rfl h
        · replace h := h.2 c5
          refine i_iload_n (x := x2) r_226_271 (n_226_271 _) rfl ?_
          refine i_bipush r_226_272 (n_226_272 _) rfl ?_
          obtain ⟨g6, h⟩ := h
          refine i_icmp (t := 282) r_226_274 (n_226_274 _) rfl (T_ne g6 ⟨by omega, by omega⟩) (fun c7 => ?_) (fun c7 => ?_)
          · replace h := h.1 c7
            refine i_iconst r_226_282 (n_226_282 _) ?_
            exact wp_pr (l' := [(0, rf 252), (1, iv x1), (3, iv x3), (4, iv x90)]) rfl h
          · replace h := h.2 c7
            refine i_bipush r_226_277 (n_226_277 _) rfl ?_
            refine i_goto (t := 283) r_226_279 (n_226_279 _) rfl ?_
            exact wp_pr (l' := [(0, rf 252), (1, iv x1), (3, iv x3), (4, iv x90)]) rfl h
      · replace h := h.2 c4
        refine i_bipush r_226_260 (n_226_260 _) rfl ?_
        refine i_goto (t := 283) r_226_262 (n_226_262 _) rfl ?_
        exact wp_pr (l' := [(0, rf 252), (1, iv x1), (3, iv x3), (4, iv x90)]) rfl h
    · replace h := h.2 c3
      refine i_bipush r_226_249 (n_226_249 _) rfl ?_
      refine i_goto (t := 283) r_226_251 (n_226_251 _) rfl ?_
      exact wp_pr (l' := [(0, rf 252), (1, iv x1), (3, iv x3), (4, iv x90)]) rfl h
  · replace h := h.2 c2
    refine i_aload_n (a := 252) r_226_233 (n_226_233 _) rfl ?_
    refine i_iload (x := x90) r_226_234 (n_226_234 _) rfl ?_
    refine i_iload_n (x := x1) r_226_236 (n_226_236 _) rfl ?_
    refine i_iconst r_226_237 (n_226_237 _) ?_
    refine i_iadd r_226_238 (n_226_238 _) ?_
    obtain ⟨g8, h⟩ := h
    obtain ⟨g9, h⟩ := h
    refine wp_virt (b := 252) (rest := []) (Ls := [(0, rf 252), (1, iv x90), (2, iv (x1 + 2))]) r_226_239 (n_226_239 _) rfl ⟨rfl, rfl, by decide, by decide⟩ rfl rfl lf_252 ⟨rfl, Nat.le_of_ble_eq_true rfl, Nat.le_of_ble_eq_true rfl⟩ rfl (K_Model_plain g8 g9) ?_
    rintro _ _ ⟨rfl, rfl⟩
    refine .inl ⟨some (iv (-1)), rfl, ?_⟩
    show wp S 226 242 [(0, rf 252), (1, iv x1), (2, iv x2), (3, iv x3), (4, iv x90)] [iv (-1)] (zwI (zwI s 252 19 x90) 252 20 (x1 + 2)) Q
    exact i_ireturn r_226_242 (n_226_242 _) rfl h
theorem v_Model_readsType_283 {S : Option (Nat × (Nat → Int32))} {s : zSt} {Q : Option Value ⊕ Nat → zSt → Prop} {x1 : Int} {x3 : Int} {x4 : Int} {x90 : Int} 
    (h : rng x90 ∧ ((x90 ≠ (-1) → rng (x1 + 2) ∧ (((x1 + 2) < zI s 252 5 → 0 ≤ (x1 + 2) ∧ (x1 + 2) < 80) ∧ (rng (zlt (x1 + 2) (zI s 252 5) (zI s 255 (x1 + 2))) ∧ (((zlt (x1 + 2) (zI s 252 5) (zI s 255 (x1 + 2))) = x90 → rng x3 ∧ ((x3 ≠ 49 → (x3 ≠ 51 → rng (x1 + 3) ∧ (Q (rI (-1)) (zwI (zwI s 252 19 6) 252 20 (x1 + 3)))) ∧ (x3 = 51 → rng (4 + x4) ∧ (rng (x1 + 3) ∧ (Q (rI (-1)) (zwI (zwI s 252 19 (4 + x4)) 252 20 (x1 + 3)))))) ∧ (x3 = 49 → rng (2 + x4) ∧ (rng (x1 + 3) ∧ (Q (rI (-1)) (zwI (zwI s 252 19 (2 + x4)) 252 20 (x1 + 3))))))) ∧ ((zlt (x1 + 2) (zI s 252 5) (zI s 255 (x1 + 2))) ≠ x90 → Q (rI (x1 + 2)) s))))) ∧ (x90 = (-1) → Q (rI (x1 + 1)) s))) :
    wp S 226 283 [(0, rf 252), (1, iv x1), (3, iv x3), (4, iv x4)] [iv x90] s Q := by
  refine i_istore (l' := [(0, rf 252), (1, iv x1), (3, iv x3), (4, iv x4), (5, iv x90)]) r_226_283 rfl (by decide) rfl ?_
  refine i_iload (x := x90) r_226_285 (n_226_285 _) rfl ?_
  refine i_iconst r_226_287 (n_226_287 _) ?_
  obtain ⟨g1, h⟩ := h
  refine i_icmp (t := 295) r_226_288 (n_226_288 _) rfl (T_ne g1 ⟨by omega, by omega⟩) (fun c2 => ?_) (fun c2 => ?_)
  · replace h := h.1 c2
    refine i_aload_n (a := 252) r_226_295 (n_226_295 _) rfl ?_
    refine i_iload_n (x := x1) r_226_296 (n_226_296 _) rfl ?_
    refine i_iconst r_226_297 (n_226_297 _) ?_
    refine i_iadd r_226_298 (n_226_298 _) ?_
    obtain ⟨g3, h⟩ := h
    obtain ⟨g4, h⟩ := h
    refine wp_virt (b := 252) (rest := []) (Ls := [(0, rf 252), (1, iv (x1 + 2))]) r_226_299 (n_226_299 _) rfl ⟨rfl, rfl, by decide, by decide⟩ rfl rfl lf_252 ⟨rfl, Nat.le_of_ble_eq_true rfl, Nat.le_of_ble_eq_true rfl⟩ rfl (K_Model_letter g3 g4) ?_
    rintro _ _ ⟨rfl, rfl⟩
    refine .inl ⟨some (iv (zlt (x1 + 2) (zI s 252 5) (zI s 255 (x1 + 2)))), rfl, ?_⟩
    show wp S 226 302 [(0, rf 252), (1, iv x1), (3, iv x3), (4, iv x4), (5, iv x90)] [iv (zlt (x1 + 2) (zI s 252 5) (zI s 255 (x1 + 2)))] s Q
    refine i_iload (x := x90) r_226_302 (n_226_302 _) rfl ?_
    obtain ⟨g6, h⟩ := h
    refine i_icmp (t := 311) r_226_304 (n_226_304 _) rfl (T_eq g6 g1) (fun c7 => ?_) (fun c7 => ?_)
    · replace h := h.1 c7
      refine i_aload_n (a := 252) r_226_311 (n_226_311 _) rfl ?_
      refine i_iload_n (x := x3) r_226_312 (n_226_312 _) rfl ?_
      refine i_bipush r_226_313 (n_226_313 _) rfl ?_
      obtain ⟨g8, h⟩ := h
      refine i_icmp (t := 325) r_226_315 (n_226_315 _) rfl (T_ne g8 ⟨by omega, by omega⟩) (fun c9 => ?_) (fun c9 => ?_)
      · replace h := h.1 c9
        refine i_iload_n (x := x3) r_226_325 (n_226_325 _) rfl ?_
        refine i_bipush r_226_326 (n_226_326 _) rfl ?_
        refine i_icmp (t := 338) r_226_328 (n_226_328 _) rfl (T_ne g8 ⟨by omega, by omega⟩) (fun c10 => ?_) (fun c10 => ?_)
        · replace h := h.1 c10
          refine i_bipush r_226_338 (n_226_338 _) rfl ?_
          refine i_iload_n (x := x1) r_226_340 (n_226_340 _) rfl ?_
          refine i_iconst r_226_341 (n_226_341 _) ?_
          refine i_iadd r_226_342 (n_226_342 _) ?_
          obtain ⟨g11, h⟩ := h
          refine wp_virt (b := 252) (rest := []) (Ls := [(0, rf 252), (1, iv 6), (2, iv (x1 + 3))]) r_226_343 (n_226_343 _) rfl ⟨rfl, rfl, by decide, by decide⟩ rfl rfl lf_252 ⟨rfl, Nat.le_of_ble_eq_true rfl, Nat.le_of_ble_eq_true rfl⟩ rfl (K_Model_plain ⟨by omega, by omega⟩ g11) ?_
          rintro _ _ ⟨rfl, rfl⟩
          refine .inl ⟨some (iv (-1)), rfl, ?_⟩
          show wp S 226 346 [(0, rf 252), (1, iv x1), (3, iv x3), (4, iv x4), (5, iv x90)] [iv (-1)] (zwI (zwI s 252 19 6) 252 20 (x1 + 3)) Q
          exact i_ireturn r_226_346 (n_226_346 _) rfl h
        · replace h := h.2 c10
          refine i_iconst r_226_331 (n_226_331 _) ?_
          refine i_iload (x := x4) r_226_332 (n_226_332 _) rfl ?_
          refine i_iadd r_226_334 (n_226_334 _) ?_
          refine i_goto (t := 340) r_226_335 (n_226_335 _) rfl ?_
          refine i_iload_n (x := x1) r_226_340 (n_226_340 _) rfl ?_
          refine i_iconst r_226_341 (n_226_341 _) ?_
          refine i_iadd r_226_342 (n_226_342 _) ?_
          obtain ⟨g13, h⟩ := h
          obtain ⟨g14, h⟩ := h
          refine wp_virt (b := 252) (rest := []) (Ls := [(0, rf 252), (1, iv (4 + x4)), (2, iv (x1 + 3))]) r_226_343 (n_226_343 _) rfl ⟨rfl, rfl, by decide, by decide⟩ rfl rfl lf_252 ⟨rfl, Nat.le_of_ble_eq_true rfl, Nat.le_of_ble_eq_true rfl⟩ rfl (K_Model_plain g13 g14) ?_
          rintro _ _ ⟨rfl, rfl⟩
          refine .inl ⟨some (iv (-1)), rfl, ?_⟩
          show wp S 226 346 [(0, rf 252), (1, iv x1), (3, iv x3), (4, iv x4), (5, iv x90)] [iv (-1)] (zwI (zwI s 252 19 (4 + x4)) 252 20 (x1 + 3)) Q
          exact i_ireturn r_226_346 (n_226_346 _) rfl h
      · replace h := h.2 c9
        refine i_iconst r_226_318 (n_226_318 _) ?_
        refine i_iload (x := x4) r_226_319 (n_226_319 _) rfl ?_
        refine i_iadd r_226_321 (n_226_321 _) ?_
        refine i_goto (t := 340) r_226_322 (n_226_322 _) rfl ?_
        refine i_iload_n (x := x1) r_226_340 (n_226_340 _) rfl ?_
        refine i_iconst r_226_341 (n_226_341 _) ?_
        refine i_iadd r_226_342 (n_226_342 _) ?_
        obtain ⟨g16, h⟩ := h
        obtain ⟨g17, h⟩ := h
        refine wp_virt (b := 252) (rest := []) (Ls := [(0, rf 252), (1, iv (2 + x4)), (2, iv (x1 + 3))]) r_226_343 (n_226_343 _) rfl ⟨rfl, rfl, by decide, by decide⟩ rfl rfl lf_252 ⟨rfl, Nat.le_of_ble_eq_true rfl, Nat.le_of_ble_eq_true rfl⟩ rfl (K_Model_plain g16 g17) ?_
        rintro _ _ ⟨rfl, rfl⟩
        refine .inl ⟨some (iv (-1)), rfl, ?_⟩
        show wp S 226 346 [(0, rf 252), (1, iv x1), (3, iv x3), (4, iv x4), (5, iv x90)] [iv (-1)] (zwI (zwI s 252 19 (2 + x4)) 252 20 (x1 + 3)) Q
        exact i_ireturn r_226_346 (n_226_346 _) rfl h
    · replace h := h.2 c7
      refine i_iload_n (x := x1) r_226_307 (n_226_307 _) rfl ?_
      refine i_iconst r_226_308 (n_226_308 _) ?_
      refine i_iadd r_226_309 (n_226_309 _) ?_
      exact i_ireturn r_226_310 (n_226_310 _) rfl h
  · replace h := h.2 c2
    refine i_iload_n (x := x1) r_226_291 (n_226_291 _) rfl ?_
    refine i_iconst r_226_292 (n_226_292 _) ?_
    refine i_iadd r_226_293 (n_226_293 _) ?_
    exact i_ireturn r_226_294 (n_226_294 _) rfl h
theorem r_228_0 : xfetch 228 0 = some (.aload_n 0, 1) := by decide +kernel
theorem n_228_0 : ∀ l, xpr 228 0 l = l := xpr_no (by decide +kernel)
theorem r_228_1 : xfetch 228 1 = some (.iload_n 1, 1) := by decide +kernel
theorem n_228_1 : ∀ l, xpr 228 1 l = l := xpr_no (by decide +kernel)
theorem r_228_2 : xfetch 228 2 = some (.invokevirtual 142, 3) := by decide +kernel
theorem n_228_2 : ∀ l, xpr 228 2 l = l := xpr_no (by decide +kernel)
theorem r_228_5 : xfetch 228 5 = some (.istore 5, 2) := by decide +kernel
theorem n_228_5 : ∀ l, xpr 228 5 l = l := xpr_no (by decide +kernel)
theorem r_228_7 : xfetch 228 7 = some (.iload_n 2, 1) := by decide +kernel
theorem n_228_7 : ∀ l, xpr 228 7 l = l := xpr_no (by decide +kernel)
theorem r_228_8 : xfetch 228 8 = some (.iconst 1, 1) := by decide +kernel
theorem n_228_8 : ∀ l, xpr 228 8 l = l := xpr_no (by decide +kernel)
theorem r_228_9 : xfetch 228 9 = some (.bipush 12, 2) := by decide +kernel
theorem n_228_9 : ∀ l, xpr 228 9 l = l := xpr_no (by decide +kernel)
theorem r_228_11 : xfetch 228 11 = some (.invokestatic 88, 3) := by decide +kernel
theorem n_228_11 : ∀ l, xpr 228 11 l = l := xpr_no (by decide +kernel)
theorem r_228_14 : xfetch 228 14 = some (.ifCond .eq 27, 3) := by decide +kernel
theorem n_228_14 : ∀ l, xpr 228 14 l = l := xpr_no (by decide +kernel)
theorem r_228_17 : xfetch 228 17 = some (.iload_n 3, 1) := by decide +kernel
theorem n_228_17 : ∀ l, xpr 228 17 l = l := xpr_no (by decide +kernel)
theorem r_228_18 : xfetch 228 18 = some (.iconst 0, 1) := by decide +kernel
theorem n_228_18 : ∀ l, xpr 228 18 l = l := xpr_no (by decide +kernel)
theorem r_228_19 : xfetch 228 19 = some (.bipush 8, 2) := by decide +kernel
theorem n_228_19 : ∀ l, xpr 228 19 l = l := xpr_no (by decide +kernel)
theorem r_228_21 : xfetch 228 21 = some (.invokestatic 88, 3) := by decide +kernel
theorem n_228_21 : ∀ l, xpr 228 21 l = l := xpr_no (by decide +kernel)
theorem r_228_24 : xfetch 228 24 = some (.ifCond .eq 17, 3) := by decide +kernel
theorem n_228_24 : ∀ l, xpr 228 24 l = l := xpr_no (by decide +kernel)
theorem r_228_27 : xfetch 228 27 = some (.iload 4, 2) := by decide +kernel
theorem n_228_27 : ∀ l, xpr 228 27 l = l := xpr_no (by decide +kernel)
theorem r_228_29 : xfetch 228 29 = some (.iconst 0, 1) := by decide +kernel
theorem n_228_29 : ∀ l, xpr 228 29 l = l := xpr_no (by decide +kernel)
theorem r_228_30 : xfetch 228 30 = some (.iconst 1, 1) := by decide +kernel
theorem n_228_30 : ∀ l, xpr 228 30 l = l := xpr_no (by decide +kernel)
theorem r_228_31 : xfetch 228 31 = some (.invokestatic 88, 3) := by decide +kernel
theorem n_228_31 : ∀ l, xpr 228 31 l = l := xpr_no (by decide +kernel)
theorem r_228_34 : xfetch 228 34 = some (.ifCond .eq 7, 3) := by decide +kernel
theorem n_228_34 : ∀ l, xpr 228 34 l = l := xpr_no (by decide +kernel)
theorem r_228_37 : xfetch 228 37 = some (.iconst 1, 1) := by decide +kernel
theorem n_228_37 : ∀ l, xpr 228 37 l = l := xpr_no (by decide +kernel)
theorem r_228_38 : xfetch 228 38 = some (.goto 4, 3) := by decide +kernel
theorem n_228_38 : ∀ l, xpr 228 38 l = l := xpr_no (by decide +kernel)
theorem r_228_41 : xfetch 228 41 = some (.iconst 0, 1) := by decide +kernel
theorem n_228_41 : ∀ l, xpr 228 41 l = l := xpr_no (by decide +kernel)
theorem r_228_42 : xfetch 228 42 = some (.istore 6, 2) := by decide +kernel
theorem n_228_42 : ∀ l, xpr 228 42 l = l := xpr_no (by decide +kernel)
theorem r_228_44 : xfetch 228 44 = some (.iconst 0, 1) := by decide +kernel
theorem n_228_44 : ∀ l, xpr 228 44 l = l := xpr_no (by decide +kernel)
theorem r_228_45 : xfetch 228 45 = some (.istore 7, 2) := by decide +kernel
theorem n_228_45 : ∀ l, xpr 228 45 l = l := xpr_no (by decide +kernel)
theorem r_228_47 : xfetch 228 47 = some (.iload 7, 2) := by decide +kernel
theorem r_228_49 : xfetch 228 49 = some (.iconst 3, 1) := by decide +kernel
theorem n_228_49 : ∀ l, xpr 228 49 l = l := xpr_no (by decide +kernel)
theorem r_228_50 : xfetch 228 50 = some (.if_icmp .ge 18, 3) := by decide +kernel
theorem n_228_50 : ∀ l, xpr 228 50 l = l := xpr_no (by decide +kernel)
theorem r_228_53 : xfetch 228 53 = some (.aload_n 0, 1) := by decide +kernel
theorem n_228_53 : ∀ l, xpr 228 53 l = l := xpr_no (by decide +kernel)
theorem r_228_54 : xfetch 228 54 = some (.iload 7, 2) := by decide +kernel
theorem n_228_54 : ∀ l, xpr 228 54 l = l := xpr_no (by decide +kernel)
theorem r_228_56 : xfetch 228 56 = some (.invokevirtual 225, 3) := by decide +kernel
theorem n_228_56 : ∀ l, xpr 228 56 l = l := xpr_no (by decide +kernel)
theorem r_228_59 : xfetch 228 59 = some (.ifCond .eq 9, 3) := by decide +kernel
theorem n_228_59 : ∀ l, xpr 228 59 l = l := xpr_no (by decide +kernel)
theorem r_228_62 : xfetch 228 62 = some (.iinc 7 1, 3) := by decide +kernel
theorem n_228_62 : ∀ l, xpr 228 62 l = l := xpr_no (by decide +kernel)
theorem r_228_65 : xfetch 228 65 = some (.goto (-18), 3) := by decide +kernel
theorem n_228_65 : ∀ l, xpr 228 65 l = l := xpr_no (by decide +kernel)
theorem r_228_68 : xfetch 228 68 = some (.iconst (-1), 1) := by decide +kernel
theorem n_228_68 : ∀ l, xpr 228 68 l = l := xpr_no (by decide +kernel)
theorem r_228_69 : xfetch 228 69 = some (.istore 8, 2) := by decide +kernel
theorem n_228_69 : ∀ l, xpr 228 69 l = l := xpr_no (by decide +kernel)
theorem r_228_71 : xfetch 228 71 = some (.iload 5, 2) := by decide +kernel
theorem n_228_71 : ∀ l, xpr 228 71 l = l := xpr_no (by decide +kernel)
theorem r_228_73 : xfetch 228 73 = some (.ifCond .eq 39, 3) := by decide +kernel
theorem n_228_73 : ∀ l, xpr 228 73 l = l := xpr_no (by decide +kernel)
theorem r_228_76 : xfetch 228 76 = some (.iload 6, 2) := by decide +kernel
theorem n_228_76 : ∀ l, xpr 228 76 l = l := xpr_no (by decide +kernel)
theorem r_228_78 : xfetch 228 78 = some (.ifCond .eq 34, 3) := by decide +kernel
theorem n_228_78 : ∀ l, xpr 228 78 l = l := xpr_no (by decide +kernel)
theorem r_228_81 : xfetch 228 81 = some (.aload_n 0, 1) := by decide +kernel
theorem n_228_81 : ∀ l, xpr 228 81 l = l := xpr_no (by decide +kernel)
theorem r_228_82 : xfetch 228 82 = some (.iload_n 1, 1) := by decide +kernel
theorem n_228_82 : ∀ l, xpr 228 82 l = l := xpr_no (by decide +kernel)
theorem r_228_83 : xfetch 228 83 = some (.invokevirtual 99, 3) := by decide +kernel
theorem n_228_83 : ∀ l, xpr 228 83 l = l := xpr_no (by decide +kernel)
theorem r_228_86 : xfetch 228 86 = some (.ifCond .le 26, 3) := by decide +kernel
theorem n_228_86 : ∀ l, xpr 228 86 l = l := xpr_no (by decide +kernel)
theorem r_228_89 : xfetch 228 89 = some (.iload 7, 2) := by decide +kernel
theorem n_228_89 : ∀ l, xpr 228 89 l = l := xpr_no (by decide +kernel)
theorem r_228_91 : xfetch 228 91 = some (.iconst 3, 1) := by decide +kernel
theorem n_228_91 : ∀ l, xpr 228 91 l = l := xpr_no (by decide +kernel)
theorem r_228_92 : xfetch 228 92 = some (.if_icmp .ge 20, 3) := by decide +kernel
theorem n_228_92 : ∀ l, xpr 228 92 l = l := xpr_no (by decide +kernel)
theorem r_228_95 : xfetch 228 95 = some (.aload_n 0, 1) := by decide +kernel
theorem n_228_95 : ∀ l, xpr 228 95 l = l := xpr_no (by decide +kernel)
theorem r_228_96 : xfetch 228 96 = some (.invokevirtual 152, 3) := by decide +kernel
theorem n_228_96 : ∀ l, xpr 228 96 l = l := xpr_no (by decide +kernel)
theorem r_228_99 : xfetch 228 99 = some (.aload_n 0, 1) := by decide +kernel
theorem n_228_99 : ∀ l, xpr 228 99 l = l := xpr_no (by decide +kernel)
theorem r_228_100 : xfetch 228 100 = some (.aload_n 0, 1) := by decide +kernel
theorem n_228_100 : ∀ l, xpr 228 100 l = l := xpr_no (by decide +kernel)
theorem r_228_101 : xfetch 228 101 = some (.iload_n 1, 1) := by decide +kernel
theorem n_228_101 : ∀ l, xpr 228 101 l = l := xpr_no (by decide +kernel)
theorem r_228_102 : xfetch 228 102 = some (.iload_n 2, 1) := by decide +kernel
theorem n_228_102 : ∀ l, xpr 228 102 l = l := xpr_no (by decide +kernel)
theorem r_228_103 : xfetch 228 103 = some (.iload_n 3, 1) := by decide +kernel
theorem n_228_103 : ∀ l, xpr 228 103 l = l := xpr_no (by decide +kernel)
theorem r_228_104 : xfetch 228 104 = some (.invokevirtual 237, 3) := by decide +kernel
theorem n_228_104 : ∀ l, xpr 228 104 l = l := xpr_no (by decide +kernel)
theorem r_228_107 : xfetch 228 107 = some (.invokevirtual 240, 3) := by decide +kernel
theorem n_228_107 : ∀ l, xpr 228 107 l = l := xpr_no (by decide +kernel)
theorem r_228_110 : xfetch 228 110 = some (.istore 8, 2) := by decide +kernel
theorem n_228_110 : ∀ l, xpr 228 110 l = l := xpr_no (by decide +kernel)
theorem r_228_112 : xfetch 228 112 = some (.aload_n 0, 1) := by decide +kernel
theorem r_228_113 : xfetch 228 113 = some (.iload 5, 2) := by decide +kernel
theorem n_228_113 : ∀ l, xpr 228 113 l = l := xpr_no (by decide +kernel)
theorem r_228_115 : xfetch 228 115 = some (.ifCond .ne 7, 3) := by decide +kernel
theorem n_228_115 : ∀ l, xpr 228 115 l = l := xpr_no (by decide +kernel)
theorem r_228_118 : xfetch 228 118 = some (.iconst 1, 1) := by decide +kernel
theorem n_228_118 : ∀ l, xpr 228 118 l = l := xpr_no (by decide +kernel)
theorem r_228_119 : xfetch 228 119 = some (.goto 23, 3) := by decide +kernel
theorem n_228_119 : ∀ l, xpr 228 119 l = l := xpr_no (by decide +kernel)
theorem r_228_122 : xfetch 228 122 = some (.iload 6, 2) := by decide +kernel
theorem n_228_122 : ∀ l, xpr 228 122 l = l := xpr_no (by decide +kernel)
theorem r_228_124 : xfetch 228 124 = some (.ifCond .ne 7, 3) := by decide +kernel
theorem n_228_124 : ∀ l, xpr 228 124 l = l := xpr_no (by decide +kernel)
theorem r_228_127 : xfetch 228 127 = some (.iconst 2, 1) := by decide +kernel
theorem n_228_127 : ∀ l, xpr 228 127 l = l := xpr_no (by decide +kernel)
theorem r_228_128 : xfetch 228 128 = some (.goto 14, 3) := by decide +kernel
theorem n_228_128 : ∀ l, xpr 228 128 l = l := xpr_no (by decide +kernel)
theorem r_228_131 : xfetch 228 131 = some (.iload 8, 2) := by decide +kernel
theorem n_228_131 : ∀ l, xpr 228 131 l = l := xpr_no (by decide +kernel)
theorem r_228_133 : xfetch 228 133 = some (.iconst (-1), 1) := by decide +kernel
theorem n_228_133 : ∀ l, xpr 228 133 l = l := xpr_no (by decide +kernel)
theorem r_228_134 : xfetch 228 134 = some (.if_icmp .ne 7, 3) := by decide +kernel
theorem n_228_134 : ∀ l, xpr 228 134 l = l := xpr_no (by decide +kernel)
theorem r_228_137 : xfetch 228 137 = some (.iconst 3, 1) := by decide +kernel
theorem n_228_137 : ∀ l, xpr 228 137 l = l := xpr_no (by decide +kernel)
theorem r_228_138 : xfetch 228 138 = some (.goto 4, 3) := by decide +kernel
theorem n_228_138 : ∀ l, xpr 228 138 l = l := xpr_no (by decide +kernel)
theorem r_228_141 : xfetch 228 141 = some (.iconst 0, 1) := by decide +kernel
theorem n_228_141 : ∀ l, xpr 228 141 l = l := xpr_no (by decide +kernel)
theorem r_228_142 : xfetch 228 142 = some (.invokevirtual 84, 3) := by decide +kernel
theorem n_228_142 : ∀ l, xpr 228 142 l = l := xpr_no (by decide +kernel)
theorem r_228_145 : xfetch 228 145 = some (.ifCond .eq 5, 3) := by decide +kernel
theorem n_228_145 : ∀ l, xpr 228 145 l = l := xpr_no (by decide +kernel)
theorem r_228_148 : xfetch 228 148 = some (.iconst 0, 1) := by decide +kernel
theorem n_228_148 : ∀ l, xpr 228 148 l = l := xpr_no (by decide +kernel)
theorem r_228_149 : xfetch 228 149 = some (.ireturn, 1) := by decide +kernel
theorem n_228_149 : ∀ l, xpr 228 149 l = l := xpr_no (by decide +kernel)
theorem r_228_150 : xfetch 228 150 = some (.aload_n 0, 1) := by decide +kernel
theorem n_228_150 : ∀ l, xpr 228 150 l = l := xpr_no (by decide +kernel)
theorem r_228_151 : xfetch 228 151 = some (.invokevirtual 135, 3) := by decide +kernel
theorem n_228_151 : ∀ l, xpr 228 151 l = l := xpr_no (by decide +kernel)
theorem r_228_154 : xfetch 228 154 = some (.aload_n 0, 1) := by decide +kernel
theorem n_228_154 : ∀ l, xpr 228 154 l = l := xpr_no (by decide +kernel)
theorem r_228_155 : xfetch 228 155 = some (.iload 7, 2) := by decide +kernel
theorem n_228_155 : ∀ l, xpr 228 155 l = l := xpr_no (by decide +kernel)
theorem r_228_157 : xfetch 228 157 = some (.iload_n 1, 1) := by decide +kernel
theorem n_228_157 : ∀ l, xpr 228 157 l = l := xpr_no (by decide +kernel)
theorem r_228_158 : xfetch 228 158 = some (.iload_n 2, 1) := by decide +kernel
theorem n_228_158 : ∀ l, xpr 228 158 l = l := xpr_no (by decide +kernel)
theorem r_228_159 : xfetch 228 159 = some (.iload_n 3, 1) := by decide +kernel
theorem n_228_159 : ∀ l, xpr 228 159 l = l := xpr_no (by decide +kernel)
theorem r_228_160 : xfetch 228 160 = some (.iload 4, 2) := by decide +kernel
theorem n_228_160 : ∀ l, xpr 228 160 l = l := xpr_no (by decide +kernel)
theorem r_228_162 : xfetch 228 162 = some (.iload 8, 2) := by decide +kernel
theorem n_228_162 : ∀ l, xpr 228 162 l = l := xpr_no (by decide +kernel)
theorem r_228_164 : xfetch 228 164 = some (.invokevirtual 243, 3) := by decide +kernel
theorem n_228_164 : ∀ l, xpr 228 164 l = l := xpr_no (by decide +kernel)
theorem r_228_167 : xfetch 228 167 = some (.iload 7, 2) := by decide +kernel
theorem n_228_167 : ∀ l, xpr 228 167 l = l := xpr_no (by decide +kernel)
theorem r_228_169 : xfetch 228 169 = some (.ireturn, 1) := by decide +kernel
theorem n_228_169 : ∀ l, xpr 228 169 l = l := xpr_no (by decide +kernel)
theorem v_Model_newTable_0 {S : Option (Nat × (Nat → Int32))} {s : zSt} {Q : Option Value ⊕ Nat → zSt → Prop} {x1 : Int} {x2 : Int} {x3 : Int} {x4 : Int} 
    (h : rng x1 ∧ (rng ((zI s 253 0) - 1) ∧ (rng x2 ∧ ((¬ (1 ≤ x2 ∧ x2 ≤ 12) → wp S 228 47 [(0, rf 252), (1, iv x1), (2, iv x2), (3, iv x3), (4, iv x4), (5, iv (bi (0 ≤ x1 ∧ x1 ≤ ((zI s 253 0) - 1)))), (6, iv 0), (7, iv 0)] [] s Q) ∧ (1 ≤ x2 ∧ x2 ≤ 12 → rng x3 ∧ ((¬ (0 ≤ x3 ∧ x3 ≤ 8) → wp S 228 47 [(0, rf 252), (1, iv x1), (2, iv x2), (3, iv x3), (4, iv x4), (5, iv (bi (0 ≤ x1 ∧ x1 ≤ ((zI s 253 0) - 1)))), (6, iv 0), (7, iv 0)] [] s Q) ∧ (0 ≤ x3 ∧ x3 ≤ 8 → rng x4 ∧ ((¬ (0 ≤ x4 ∧ x4 ≤ 1) → wp S 228 47 [(0, rf 252), (1, iv x1), (2, iv x2), (3, iv x3), (4, iv x4), (5, iv (bi (0 ≤ x1 ∧ x1 ≤ ((zI s 253 0) - 1)))), (6, iv 0), (7, iv 0)] [] s Q) ∧ (0 ≤ x4 ∧ x4 ≤ 1 → wp S 228 47 [(0, rf 252), (1, iv x1), (2, iv x2), (3, iv x3), (4, iv x4), (5, iv (bi (0 ≤ x1 ∧ x1 ≤ ((zI s 253 0) - 1)))), (6, iv 1), (7, iv 0)] [] s Q))))))))) :
    wp S 228 0 [(0, rf 252), (1, iv x1), (2, iv x2), (3, iv x3), (4, iv x4)] [] s Q := by
  refine i_aload_n (a := 252) r_228_0 (n_228_0 _) rfl ?_
  refine i_iload_n (x := x1) r_228_1 (n_228_1 _) rfl ?_
  obtain ⟨g1, h⟩ := h
  obtain ⟨g2, h⟩ := h
  refine wp_virt (b := 252) (rest := []) (Ls := [(0, rf 252), (1, iv x1)]) r_228_2 (n_228_2 _) rfl ⟨rfl, rfl, by decide, by decide⟩ rfl rfl lf_252 ⟨rfl, Nat.le_of_ble_eq_true rfl, Nat.le_of_ble_eq_true rfl⟩ rfl (K_Model_isRecord g1 g2) ?_
  rintro _ _ ⟨rfl, rfl⟩
  refine .inl ⟨some (iv (bi (0 ≤ x1 ∧ x1 ≤ ((zI s 253 0) - 1)))), rfl, ?_⟩
  show wp S 228 5 [(0, rf 252), (1, iv x1), (2, iv x2), (3, iv x3), (4, iv x4)] [iv (bi (0 ≤ x1 ∧ x1 ≤ ((zI s 253 0) - 1)))] s Q
  refine i_istore (l' := [(0, rf 252), (1, iv x1), (2, iv x2), (3, iv x3), (4, iv x4), (5, iv (bi (0 ≤ x1 ∧ x1 ≤ ((zI s 253 0) - 1))))]) r_228_5 (n_228_5 _) (by decide) rfl ?_
  refine i_iload_n (x := x2) r_228_7 (n_228_7 _) rfl ?_
  refine i_iconst r_228_8 (n_228_8 _) ?_
  refine i_bipush r_228_9 (n_228_9 _) rfl ?_
  obtain ⟨g4, h⟩ := h
  refine wp_stat (rest := []) (Ls := [(0, iv x2), (1, iv 1), (2, iv 12)]) r_228_11 (n_228_11 _) rfl ⟨rfl, by decide, by decide, by decide⟩ rfl rfl ⟨rfl, Nat.le_of_ble_eq_true rfl, Nat.le_of_ble_eq_true rfl⟩ rfl (K_Model_within g4 ⟨by omega, by omega⟩ ⟨by omega, by omega⟩) ?_
  rintro _ _ ⟨rfl, rfl⟩
  refine .inl ⟨some (iv (bi (1 ≤ x2 ∧ x2 ≤ 12))), rfl, ?_⟩
  show wp S 228 14 [(0, rf 252), (1, iv x1), (2, iv x2), (3, iv x3), (4, iv x4), (5, iv (bi (0 ≤ x1 ∧ x1 ≤ ((zI s 253 0) - 1))))] [iv (bi (1 ≤ x2 ∧ x2 ≤ 12))] s Q
  refine i_if (t := 41) r_228_14 (n_228_14 _) rfl (TB_eq) (fun c6 => ?_) (fun c6 => ?_)
  · replace h := h.1 c6
    refine i_iconst r_228_41 (n_228_41 _) ?_
    refine i_istore (l' := [(0, rf 252), (1, iv x1), (2, iv x2), (3, iv x3), (4, iv x4), (5, iv (bi (0 ≤ x1 ∧ x1 ≤ ((zI s 253 0) - 1)))), (6, iv 0)]) r_228_42 (n_228_42 _) (by decide) rfl ?_
    refine i_iconst r_228_44 (n_228_44 _) ?_
    refine i_istore (l' := [(0, rf 252), (1, iv x1), (2, iv x2), (3, iv x3), (4, iv x4), (5, iv (bi (0 ≤ x1 ∧ x1 ≤ ((zI s 253 0) - 1)))), (6, iv 0), (7, iv 0)]) r_228_45 (n_228_45 _) (by decide) rfl ?_
    exact wp_pr (l' := [(0, rf 252), (1, iv x1), (2, iv x2), (3, iv x3), (4, iv x4), (5, iv (bi (0 ≤ x1 ∧ x1 ≤ ((zI s 253 0) - 1)))), (6, iv 0), (7, iv 0)]) rfl h
  · replace h := h.2 c6
    refine i_iload_n (x := x3) r_228_17 (n_228_17 _) rfl ?_
    refine i_iconst r_228_18 (n_228_18 _) ?_
    refine i_bipush r_228_19 (n_228_19 _) rfl ?_
    obtain ⟨g7, h⟩ := h
    refine wp_stat (rest := []) (Ls := [(0, iv x3), (1, iv 0), (2, iv 8)]) r_228_21 (n_228_21 _) rfl ⟨rfl, by decide, by decide, by decide⟩ rfl rfl ⟨rfl, Nat.le_of_ble_eq_true rfl, Nat.le_of_ble_eq_true rfl⟩ rfl (K_Model_within g7 ⟨by omega, by omega⟩ ⟨by omega, by omega⟩) ?_
    rintro _ _ ⟨rfl, rfl⟩
    refine .inl ⟨some (iv (bi (0 ≤ x3 ∧ x3 ≤ 8))), rfl, ?_⟩
    show wp S 228 24 [(0, rf 252), (1, iv x1), (2, iv x2), (3, iv x3), (4, iv x4), (5, iv (bi (0 ≤ x1 ∧ x1 ≤ ((zI s 253 0) - 1))))] [iv (bi (0 ≤ x3 ∧ x3 ≤ 8))] s Q
    refine i_if (t := 41) r_228_24 (n_228_24 _) rfl (TB_eq) (fun c9 => ?_) (fun c9 => ?_)
    · replace h := h.1 c9
      refine i_iconst r_228_41 (n_228_41 _) ?_
      refine i_istore (l' := [(0, rf 252), (1, iv x1), (2, iv x2), (3, iv x3), (4, iv x4), (5, iv (bi (0 ≤ x1 ∧ x1 ≤ ((zI s 253 0) - 1)))), (6, iv 0)]) r_228_42 (n_228_42 _) (by decide) rfl ?_
      refine i_iconst r_228_44 (n_228_44 _) ?_
      refine i_istore (l' := [(0, rf 252), (1, iv x1), (2, iv x2), (3, iv x3), (4, iv x4), (5, iv (bi (0 ≤ x1 ∧ x1 ≤ ((zI s 253 0) - 1)))), (6, iv 0), (7, iv 0)]) r_228_45 (n_228_45 _) (by decide) rfl ?_
      exact wp_pr (l' := [(0, rf 252), (1, iv x1), (2, iv x2), (3, iv x3), (4, iv x4), (5, iv (bi (0 ≤ x1 ∧ x1 ≤ ((zI s 253 0) - 1)))), (6, iv 0), (7, iv 0)]) rfl h
    · replace h := h.2 c9
      refine i_iload (x := x4) r_228_27 (n_228_27 _) rfl ?_
      refine i_iconst r_228_29 (n_228_29 _) ?_
      refine i_iconst r_228_30 (n_228_30 _) ?_
      obtain ⟨g10, h⟩ := h
      refine wp_stat (rest := []) (Ls := [(0, iv x4), (1, iv 0), (2, iv 1)]) r_228_31 (n_228_31 _) rfl ⟨rfl, by decide, by decide, by decide⟩ rfl rfl ⟨rfl, Nat.le_of_ble_eq_true rfl, Nat.le_of_ble_eq_true rfl⟩ rfl (K_Model_within g10 ⟨by omega, by omega⟩ ⟨by omega, by omega⟩) ?_
      rintro _ _ ⟨rfl, rfl⟩
      refine .inl ⟨some (iv (bi (0 ≤ x4 ∧ x4 ≤ 1))), rfl, ?_⟩
      show wp S 228 34 [(0, rf 252), (1, iv x1), (2, iv x2), (3, iv x3), (4, iv x4), (5, iv (bi (0 ≤ x1 ∧ x1 ≤ ((zI s 253 0) - 1))))] [iv (bi (0 ≤ x4 ∧ x4 ≤ 1))] s Q
      refine i_if (t := 41) r_228_34 (n_228_34 _) rfl (TB_eq) (fun c12 => ?_) (fun c12 => ?_)
      · replace h := h.1 c12
        refine i_iconst r_228_41 (n_228_41 _) ?_
        refine i_istore (l' := [(0, rf 252), (1, iv x1), (2, iv x2), (3, iv x3), (4, iv x4), (5, iv (bi (0 ≤ x1 ∧ x1 ≤ ((zI s 253 0) - 1)))), (6, iv 0)]) r_228_42 (n_228_42 _) (by decide) rfl ?_
        refine i_iconst r_228_44 (n_228_44 _) ?_
        refine i_istore (l' := [(0, rf 252), (1, iv x1), (2, iv x2), (3, iv x3), (4, iv x4), (5, iv (bi (0 ≤ x1 ∧ x1 ≤ ((zI s 253 0) - 1)))), (6, iv 0), (7, iv 0)]) r_228_45 (n_228_45 _) (by decide) rfl ?_
        exact wp_pr (l' := [(0, rf 252), (1, iv x1), (2, iv x2), (3, iv x3), (4, iv x4), (5, iv (bi (0 ≤ x1 ∧ x1 ≤ ((zI s 253 0) - 1)))), (6, iv 0), (7, iv 0)]) rfl h
      · replace h := h.2 c12
        refine i_iconst r_228_37 (n_228_37 _) ?_
        refine i_goto (t := 42) r_228_38 (n_228_38 _) rfl ?_
        refine i_istore (l' := [(0, rf 252), (1, iv x1), (2, iv x2), (3, iv x3), (4, iv x4), (5, iv (bi (0 ≤ x1 ∧ x1 ≤ ((zI s 253 0) - 1)))), (6, iv 1)]) r_228_42 (n_228_42 _) (by decide) rfl ?_
        refine i_iconst r_228_44 (n_228_44 _) ?_
        refine i_istore (l' := [(0, rf 252), (1, iv x1), (2, iv x2), (3, iv x3), (4, iv x4), (5, iv (bi (0 ≤ x1 ∧ x1 ≤ ((zI s 253 0) - 1)))), (6, iv 1), (7, iv 0)]) r_228_45 (n_228_45 _) (by decide) rfl ?_
        exact wp_pr (l' := [(0, rf 252), (1, iv x1), (2, iv x2), (3, iv x3), (4, iv x4), (5, iv (bi (0 ≤ x1 ∧ x1 ≤ ((zI s 253 0) - 1)))), (6, iv 1), (7, iv 0)]) rfl h
theorem v_Model_newTable_47 {S : Option (Nat × (Nat → Int32))} {s : zSt} {Q : Option Value ⊕ Nat → zSt → Prop} {x1 : Int} {x2 : Int} {x3 : Int} {x4 : Int} {x5 : Int} {x6 : Int} {x7 : Int} 
    (h : rng x7 ∧ ((3 ≤ x7 → rng x5 ∧ ((x5 = 0 → wp S 228 112 [(0, rf 252), (1, iv x1), (2, iv x2), (3, iv x3), (4, iv x4), (5, iv x5), (6, iv x6), (7, iv x7), (8, iv (-1))] [] s Q) ∧ (x5 ≠ 0 → rng x6 ∧ ((x6 = 0 → wp S 228 112 [(0, rf 252), (1, iv x1), (2, iv x2), (3, iv x3), (4, iv x4), (5, iv x5), (6, iv x6), (7, iv x7), (8, iv (-1))] [] s Q) ∧ (x6 ≠ 0 → (0 ≤ ((1 + (26 * x1)) + 1) ∧ ((1 + (26 * x1)) + 1) < 1199) ∧ (((zI s 253 ((1 + (26 * x1)) + 1)) ≤ 0 → wp S 228 112 [(0, rf 252), (1, iv x1), (2, iv x2), (3, iv x3), (4, iv x4), (5, iv x5), (6, iv x6), (7, iv x7), (8, iv (-1))] [] s Q) ∧ (0 < (zI s 253 ((1 + (26 * x1)) + 1)) → (3 ≤ x7 → wp S 228 112 [(0, rf 252), (1, iv x1), (2, iv x2), (3, iv x3), (4, iv x4), (5, iv x5), (6, iv x6), (7, iv x7), (8, iv (-1))] [] s Q) ∧ (x7 < 3 → wp S 193 0 [(0, rf 252)] [] s (fun o12 s12 => zkU (wp S 230 0 [(0, rf 252), (1, iv x1), (2, iv x2), (3, iv x3)] [] s12 (fun o14 s14 => zkI (fun y14 => wp S 233 0 [(0, rf 252), (1, iv y14)] [] s14 (fun o16 s16 => zkI (fun y16 => wp S 228 112 [(0, rf 252), (1, iv x1), (2, iv x2), (3, iv x3), (4, iv x4), (5, iv x5), (6, iv x6), (7, iv x7), (8, iv y16)] [] s16 Q) (fun e16 => False) o16)) (fun e14 => False) o14)) (fun e12 => False) o12))))))))) ∧ (x7 < 3 → (¬ (0 ≤ x7 ∧ x7 ≤ 2 ∧ zI s 253 (157 + 6 * x7) ≠ -1) → rng x5 ∧ ((x5 = 0 → wp S 228 112 [(0, rf 252), (1, iv x1), (2, iv x2), (3, iv x3), (4, iv x4), (5, iv x5), (6, iv x6), (7, iv x7), (8, iv (-1))] [] s Q) ∧ (x5 ≠ 0 → rng x6 ∧ ((x6 = 0 → wp S 228 112 [(0, rf 252), (1, iv x1), (2, iv x2), (3, iv x3), (4, iv x4), (5, iv x5), (6, iv x6), (7, iv x7), (8, iv (-1))] [] s Q) ∧ (x6 ≠ 0 → (0 ≤ ((1 + (26 * x1)) + 1) ∧ ((1 + (26 * x1)) + 1) < 1199) ∧ (((zI s 253 ((1 + (26 * x1)) + 1)) ≤ 0 → wp S 228 112 [(0, rf 252), (1, iv x1), (2, iv x2), (3, iv x3), (4, iv x4), (5, iv x5), (6, iv x6), (7, iv x7), (8, iv (-1))] [] s Q) ∧ (0 < (zI s 253 ((1 + (26 * x1)) + 1)) → (3 ≤ x7 → wp S 228 112 [(0, rf 252), (1, iv x1), (2, iv x2), (3, iv x3), (4, iv x4), (5, iv x5), (6, iv x6), (7, iv x7), (8, iv (-1))] [] s Q) ∧ (x7 < 3 → wp S 193 0 [(0, rf 252)] [] s (fun o29 s29 => zkU (wp S 230 0 [(0, rf 252), (1, iv x1), (2, iv x2), (3, iv x3)] [] s29 (fun o31 s31 => zkI (fun y31 => wp S 233 0 [(0, rf 252), (1, iv y31)] [] s31 (fun o33 s33 => zkI (fun y33 => wp S 228 112 [(0, rf 252), (1, iv x1), (2, iv x2), (3, iv x3), (4, iv x4), (5, iv x5), (6, iv x6), (7, iv x7), (8, iv y33)] [] s33 Q) (fun e33 => False) o33)) (fun e31 => False) o31)) (fun e29 => False) o29))))))))) ∧ (0 ≤ x7 ∧ x7 ≤ 2 ∧ zI s 253 (157 + 6 * x7) ≠ -1 → wp S 228 47 [(0, rf 252), (1, iv x1), (2, iv x2), (3, iv x3), (4, iv x4), (5, iv x5), (6, iv x6), (7, iv (x7 + 1))] [] s Q)))) :
    wp S 228 47 [(0, rf 252), (1, iv x1), (2, iv x2), (3, iv x3), (4, iv x4), (5, iv x5), (6, iv x6), (7, iv x7)] [] s Q := by
  refine i_iload (x := x7) r_228_47 rfl rfl ?_
  refine i_iconst r_228_49 (n_228_49 _) ?_
  obtain ⟨g1, h⟩ := h
  refine i_icmp (t := 68) r_228_50 (n_228_50 _) rfl (T_ge g1 ⟨by omega, by omega⟩) (fun c2 => ?_) (fun c2 => ?_)
  · replace h := h.1 c2
    refine i_iconst r_228_68 (n_228_68 _) ?_
    refine i_istore (l' := [(0, rf 252), (1, iv x1), (2, iv x2), (3, iv x3), (4, iv x4), (5, iv x5), (6, iv x6), (7, iv x7), (8, iv (-1))]) r_228_69 (n_228_69 _) (by decide) rfl ?_
    refine i_iload (x := x5) r_228_71 (n_228_71 _) rfl ?_
    obtain ⟨g3, h⟩ := h
    refine i_if (t := 112) r_228_73 (n_228_73 _) rfl (T_eq g3 ⟨by omega, by omega⟩) (fun c4 => ?_) (fun c4 => ?_)
    · replace h := h.1 c4
      exact wp_pr (l' := [(0, rf 252), (1, iv x1), (2, iv x2), (3, iv x3), (4, iv x4), (5, iv x5), (6, iv x6), (7, iv x7), (8, iv (-1))]) rfl h
    · replace h := h.2 c4
      refine i_iload (x := x6) r_228_76 (n_228_76 _) rfl ?_
      obtain ⟨g5, h⟩ := h
      refine i_if (t := 112) r_228_78 (n_228_78 _) rfl (T_eq g5 ⟨by omega, by omega⟩) (fun c6 => ?_) (fun c6 => ?_)
      · replace h := h.1 c6
        exact wp_pr (l' := [(0, rf 252), (1, iv x1), (2, iv x2), (3, iv x3), (4, iv x4), (5, iv x5), (6, iv x6), (7, iv x7), (8, iv (-1))]) rfl h
      · replace h := h.2 c6
        refine i_aload_n (a := 252) r_228_81 (n_228_81 _) rfl ?_
        refine i_iload_n (x := x1) r_228_82 (n_228_82 _) rfl ?_
        obtain ⟨g7, h⟩ := h
        refine wp_virt (b := 252) (rest := []) (Ls := [(0, rf 252), (1, iv x1)]) r_228_83 (n_228_83 _) rfl ⟨rfl, rfl, by decide, by decide⟩ rfl rfl lf_252 ⟨rfl, Nat.le_of_ble_eq_true rfl, Nat.le_of_ble_eq_true rfl⟩ rfl (K_Model_fieldsOf g7) ?_
        rintro _ _ ⟨rfl, rfl⟩
        refine .inl ⟨some (iv (zI s 253 ((1 + (26 * x1)) + 1))), rfl, ?_⟩
        show wp S 228 86 [(0, rf 252), (1, iv x1), (2, iv x2), (3, iv x3), (4, iv x4), (5, iv x5), (6, iv x6), (7, iv x7), (8, iv (-1))] [iv (zI s 253 ((1 + (26 * x1)) + 1))] s Q
        refine wp_rd (a := 253) (j := ((1 + (26 * x1)) + 1)) (fun q9 => ?_)
        refine i_if (t := 112) r_228_86 (n_228_86 _) rfl (T_le q9 ⟨by omega, by omega⟩) (fun c10 => ?_) (fun c10 => ?_)
        · replace h := h.1 c10
          exact wp_pr (l' := [(0, rf 252), (1, iv x1), (2, iv x2), (3, iv x3), (4, iv x4), (5, iv x5), (6, iv x6), (7, iv x7), (8, iv (-1))]) rfl h
        · replace h := h.2 c10
          refine i_iload (x := x7) r_228_89 (n_228_89 _) rfl ?_
          refine i_iconst r_228_91 (n_228_91 _) ?_
          refine i_icmp (t := 112) r_228_92 (n_228_92 _) rfl (T_ge g1 ⟨by omega, by omega⟩) (fun c11 => ?_) (fun c11 => ?_)
          · replace h := h.1 c11
            exact wp_pr (l' := [(0, rf 252), (1, iv x1), (2, iv x2), (3, iv x3), (4, iv x4), (5, iv x5), (6, iv x6), (7, iv x7), (8, iv (-1))]) rfl h
          · replace h := h.2 c11
            refine i_aload_n (a := 252) r_228_95 (n_228_95 _) rfl ?_
            refine wp_virt (b := 252) (rest := []) (Ls := [(0, rf 252)]) r_228_96 (n_228_96 _) rfl ⟨rfl, rfl, by decide, by decide⟩ rfl rfl lf_252 ⟨rfl, Nat.le_of_ble_eq_true rfl, Nat.le_of_ble_eq_true rfl⟩ rfl h ?_
            intro o12 s12 h
            rcases h with ⟨rfl, h⟩ | ⟨e12, rfl, h⟩
            · refine .inl ⟨none, rfl, ?_⟩
              refine i_aload_n (a := 252) r_228_99 (n_228_99 _) rfl ?_
              refine i_aload_n (a := 252) r_228_100 (n_228_100 _) rfl ?_
              refine i_iload_n (x := x1) r_228_101 (n_228_101 _) rfl ?_
              refine i_iload_n (x := x2) r_228_102 (n_228_102 _) rfl ?_
              refine i_iload_n (x := x3) r_228_103 (n_228_103 _) rfl ?_
              refine wp_virt (b := 252) (rest := [rf 252]) (Ls := [(0, rf 252), (1, iv x1), (2, iv x2), (3, iv x3)]) r_228_104 (n_228_104 _) rfl ⟨rfl, rfl, by decide, by decide⟩ rfl rfl lf_252 ⟨rfl, Nat.le_of_ble_eq_true rfl, Nat.le_of_ble_eq_true rfl⟩ rfl h ?_
              intro o14 s14 h
              rcases h with ⟨y14, q15, rfl, h⟩ | ⟨e14, rfl, h⟩
              · refine .inl ⟨some (iv y14), rfl, ?_⟩
                show wp S 228 107 [(0, rf 252), (1, iv x1), (2, iv x2), (3, iv x3), (4, iv x4), (5, iv x5), (6, iv x6), (7, iv x7), (8, iv (-1))] [iv y14, rf 252] s14 Q
                refine wp_virt (b := 252) (rest := []) (Ls := [(0, rf 252), (1, iv y14)]) r_228_107 (n_228_107 _) rfl ⟨rfl, rfl, by decide, by decide⟩ rfl rfl lf_252 ⟨rfl, Nat.le_of_ble_eq_true rfl, Nat.le_of_ble_eq_true rfl⟩ rfl h ?_
                intro o16 s16 h
                rcases h with ⟨y16, q17, rfl, h⟩ | ⟨e16, rfl, h⟩
                · refine .inl ⟨some (iv y16), rfl, ?_⟩
                  show wp S 228 110 [(0, rf 252), (1, iv x1), (2, iv x2), (3, iv x3), (4, iv x4), (5, iv x5), (6, iv x6), (7, iv x7), (8, iv (-1))] [iv y16] s16 Q
                  refine i_istore (l' := [(0, rf 252), (1, iv x1), (2, iv x2), (3, iv x3), (4, iv x4), (5, iv x5), (6, iv x6), (7, iv x7), (8, iv y16)]) r_228_110 (n_228_110 _) (by decide) rfl ?_
                  exact wp_pr (l' := [(0, rf 252), (1, iv x1), (2, iv x2), (3, iv x3), (4, iv x4), (5, iv x5), (6, iv x6), (7, iv x7), (8, iv y16)]) rfl h
                · skip
                  exact h.elim
              · skip
                exact h.elim
            · skip
              exact h.elim
  · replace h := h.2 c2
    refine i_aload_n (a := 252) r_228_53 (n_228_53 _) rfl ?_
    refine i_iload (x := x7) r_228_54 (n_228_54 _) rfl ?_
    refine wp_virt (b := 252) (rest := []) (Ls := [(0, rf 252), (1, iv x7)]) r_228_56 (n_228_56 _) rfl ⟨rfl, rfl, by decide, by decide⟩ rfl rfl lf_252 ⟨rfl, Nat.le_of_ble_eq_true rfl, Nat.le_of_ble_eq_true rfl⟩ rfl (K_Model_isTable g1) ?_
    rintro _ _ ⟨rfl, rfl⟩
    refine .inl ⟨some (iv (bi (0 ≤ x7 ∧ x7 ≤ 2 ∧ zI s 253 (157 + 6 * x7) ≠ -1))), rfl, ?_⟩
    show wp S 228 59 [(0, rf 252), (1, iv x1), (2, iv x2), (3, iv x3), (4, iv x4), (5, iv x5), (6, iv x6), (7, iv x7)] [iv (bi (0 ≤ x7 ∧ x7 ≤ 2 ∧ zI s 253 (157 + 6 * x7) ≠ -1))] s Q
    refine i_if (t := 68) r_228_59 (n_228_59 _) rfl (TB_eq) (fun c19 => ?_) (fun c19 => ?_)
    · replace h := h.1 c19
      refine i_iconst r_228_68 (n_228_68 _) ?_
      refine i_istore (l' := [(0, rf 252), (1, iv x1), (2, iv x2), (3, iv x3), (4, iv x4), (5, iv x5), (6, iv x6), (7, iv x7), (8, iv (-1))]) r_228_69 (n_228_69 _) (by decide) rfl ?_
      refine i_iload (x := x5) r_228_71 (n_228_71 _) rfl ?_
      obtain ⟨g20, h⟩ := h
      refine i_if (t := 112) r_228_73 (n_228_73 _) rfl (T_eq g20 ⟨by omega, by omega⟩) (fun c21 => ?_) (fun c21 => ?_)
      · replace h := h.1 c21
        exact wp_pr (l' := [(0, rf 252), (1, iv x1), (2, iv x2), (3, iv x3), (4, iv x4), (5, iv x5), (6, iv x6), (7, iv x7), (8, iv (-1))]) rfl h
      · replace h := h.2 c21
        refine i_iload (x := x6) r_228_76 (n_228_76 _) rfl ?_
        obtain ⟨g22, h⟩ := h
        refine i_if (t := 112) r_228_78 (n_228_78 _) rfl (T_eq g22 ⟨by omega, by omega⟩) (fun c23 => ?_) (fun c23 => ?_)
        · replace h := h.1 c23
          exact wp_pr (l' := [(0, rf 252), (1, iv x1), (2, iv x2), (3, iv x3), (4, iv x4), (5, iv x5), (6, iv x6), (7, iv x7), (8, iv (-1))]) rfl h
        · replace h := h.2 c23
          refine i_aload_n (a := 252) r_228_81 (n_228_81 _) rfl ?_
          refine i_iload_n (x := x1) r_228_82 (n_228_82 _) rfl ?_
          obtain ⟨g24, h⟩ := h
          refine wp_virt (b := 252) (rest := []) (Ls := [(0, rf 252), (1, iv x1)]) r_228_83 (n_228_83 _) rfl ⟨rfl, rfl, by decide, by decide⟩ rfl rfl lf_252 ⟨rfl, Nat.le_of_ble_eq_true rfl, Nat.le_of_ble_eq_true rfl⟩ rfl (K_Model_fieldsOf g24) ?_
          rintro _ _ ⟨rfl, rfl⟩
          refine .inl ⟨some (iv (zI s 253 ((1 + (26 * x1)) + 1))), rfl, ?_⟩
          show wp S 228 86 [(0, rf 252), (1, iv x1), (2, iv x2), (3, iv x3), (4, iv x4), (5, iv x5), (6, iv x6), (7, iv x7), (8, iv (-1))] [iv (zI s 253 ((1 + (26 * x1)) + 1))] s Q
          refine wp_rd (a := 253) (j := ((1 + (26 * x1)) + 1)) (fun q26 => ?_)
          refine i_if (t := 112) r_228_86 (n_228_86 _) rfl (T_le q26 ⟨by omega, by omega⟩) (fun c27 => ?_) (fun c27 => ?_)
          · replace h := h.1 c27
            exact wp_pr (l' := [(0, rf 252), (1, iv x1), (2, iv x2), (3, iv x3), (4, iv x4), (5, iv x5), (6, iv x6), (7, iv x7), (8, iv (-1))]) rfl h
          · replace h := h.2 c27
            refine i_iload (x := x7) r_228_89 (n_228_89 _) rfl ?_
            refine i_iconst r_228_91 (n_228_91 _) ?_
            refine i_icmp (t := 112) r_228_92 (n_228_92 _) rfl (T_ge g1 ⟨by omega, by omega⟩) (fun c28 => ?_) (fun c28 => ?_)
            · replace h := h.1 c28
              exact wp_pr (l' := [(0, rf 252), (1, iv x1), (2, iv x2), (3, iv x3), (4, iv x4), (5, iv x5), (6, iv x6), (7, iv x7), (8, iv (-1))]) rfl h
            · replace h := h.2 c28
              refine i_aload_n (a := 252) r_228_95 (n_228_95 _) rfl ?_
              refine wp_virt (b := 252) (rest := []) (Ls := [(0, rf 252)]) r_228_96 (n_228_96 _) rfl ⟨rfl, rfl, by decide, by decide⟩ rfl rfl lf_252 ⟨rfl, Nat.le_of_ble_eq_true rfl, Nat.le_of_ble_eq_true rfl⟩ rfl h ?_
              intro o29 s29 h
              rcases h with ⟨rfl, h⟩ | ⟨e29, rfl, h⟩
              · refine .inl ⟨none, rfl, ?_⟩
                refine i_aload_n (a := 252) r_228_99 (n_228_99 _) rfl ?_
                refine i_aload_n (a := 252) r_228_100 (n_228_100 _) rfl ?_
                refine i_iload_n (x := x1) r_228_101 (n_228_101 _) rfl ?_
                refine i_iload_n (x := x2) r_228_102 (n_228_102 _) rfl ?_
                refine i_iload_n (x := x3) r_228_103 (n_228_103 _) rfl ?_
                refine wp_virt (b := 252) (rest := [rf 252]) (Ls := [(0, rf 252), (1, iv x1), (2, iv x2), (3, iv x3)]) r_228_104 (n_228_104 _) rfl ⟨rfl, rfl, by decide, by decide⟩ rfl rfl lf_252 ⟨rfl, Nat.le_of_ble_eq_true rfl, Nat.le_of_ble_eq_true rfl⟩ rfl h ?_
                intro o31 s31 h
                rcases h with ⟨y31, q32, rfl, h⟩ | ⟨e31, rfl, h⟩
                · refine .inl ⟨some (iv y31), rfl, ?_⟩
                  show wp S 228 107 [(0, rf 252), (1, iv x1), (2, iv x2), (3, iv x3), (4, iv x4), (5, iv x5), (6, iv x6), (7, iv x7), (8, iv (-1))] [iv y31, rf 252] s31 Q
                  refine wp_virt (b := 252) (rest := []) (Ls := [(0, rf 252), (1, iv y31)]) r_228_107 (n_228_107 _) rfl ⟨rfl, rfl, by decide, by decide⟩ rfl rfl lf_252 ⟨rfl, Nat.le_of_ble_eq_true rfl, Nat.le_of_ble_eq_true rfl⟩ rfl h ?_
                  intro o33 s33 h
                  rcases h with ⟨y33, q34, rfl, h⟩ | ⟨e33, rfl, h⟩
                  · refine .inl ⟨some (iv y33), rfl, ?_⟩
                    show wp S 228 110 [(0, rf 252), (1, iv x1), (2, iv x2), (3, iv x3), (4, iv x4), (5, iv x5), (6, iv x6), (7, iv x7), (8, iv (-1))] [iv y33] s33 Q
                    refine i_istore (l' := [(0, rf 252), (1, iv x1), (2, iv x2), (3, iv x3), (4, iv x4), (5, iv x5), (6, iv x6), (7, iv x7), (8, iv y33)]) r_228_110 (n_228_110 _) (by decide) rfl ?_
                    exact wp_pr (l' := [(0, rf 252), (1, iv x1), (2, iv x2), (3, iv x3), (4, iv x4), (5, iv x5), (6, iv x6), (7, iv x7), (8, iv y33)]) rfl h
                  · skip
                    exact h.elim
                · skip
                  exact h.elim
              · skip
                exact h.elim
    · replace h := h.2 c19
      refine i_iinc (x := x7) (l' := [(0, rf 252), (1, iv x1), (2, iv x2), (3, iv x3), (4, iv x4), (5, iv x5), (6, iv x6), (7, iv (x7 + 1))]) r_228_62 (n_228_62 _) (by decide) rfl rfl ?_
      refine i_goto (t := 47) r_228_65 (n_228_65 _) rfl ?_
      exact wp_pr (l' := [(0, rf 252), (1, iv x1), (2, iv x2), (3, iv x3), (4, iv x4), (5, iv x5), (6, iv x6), (7, iv (x7 + 1))]) rfl h
theorem v_Model_newTable_112 {S : Option (Nat × (Nat → Int32))} {s : zSt} {Q : Option Value ⊕ Nat → zSt → Prop} {x1 : Int} {x2 : Int} {x3 : Int} {x4 : Int} {x5 : Int} {x6 : Int} {x7 : Int} {x8 : Int} 
    (h : rng x5 ∧ ((x5 ≠ 0 → rng x6 ∧ ((x6 ≠ 0 → rng x8 ∧ ((x8 ≠ (-1) → wp S 182 0 [(0, rf 252)] [] (zwI s 252 3 0) (fun o8 s8 => zkU (wp S 237 0 [(0, rf 252), (1, iv x7), (2, iv x1), (3, iv x2), (4, iv x3), (5, iv x4), (6, iv x8)] [] s8 (fun o10 s10 => zkU (Q (rI x7) s10) (fun e10 => False) o10)) (fun e8 => False) o8)) ∧ (x8 = (-1) → Q (rI 0) (zwI s 252 3 3)))) ∧ (x6 = 0 → Q (rI 0) (zwI s 252 3 2)))) ∧ (x5 = 0 → Q (rI 0) (zwI s 252 3 1)))) :
    wp S 228 112 [(0, rf 252), (1, iv x1), (2, iv x2), (3, iv x3), (4, iv x4), (5, iv x5), (6, iv x6), (7, iv x7), (8, iv x8)] [] s Q := by
  refine i_aload_n (a := 252) r_228_112 rfl rfl ?_
  refine i_iload (x := x5) r_228_113 (n_228_113 _) rfl ?_
  obtain ⟨g1, h⟩ := h
  refine i_if (t := 122) r_228_115 (n_228_115 _) rfl (T_ne g1 ⟨by omega, by omega⟩) (fun c2 => ?_) (fun c2 => ?_)
  · replace h := h.1 c2
    refine i_iload (x := x6) r_228_122 (n_228_122 _) rfl ?_
    obtain ⟨g3, h⟩ := h
    refine i_if (t := 131) r_228_124 (n_228_124 _) rfl (T_ne g3 ⟨by omega, by omega⟩) (fun c4 => ?_) (fun c4 => ?_)
    · replace h := h.1 c4
      refine i_iload (x := x8) r_228_131 (n_228_131 _) rfl ?_
      refine i_iconst r_228_133 (n_228_133 _) ?_
      obtain ⟨g5, h⟩ := h
      refine i_icmp (t := 141) r_228_134 (n_228_134 _) rfl (T_ne g5 ⟨by omega, by omega⟩) (fun c6 => ?_) (fun c6 => ?_)
      · replace h := h.1 c6
        refine i_iconst r_228_141 (n_228_141 _) ?_
        refine wp_virt (b := 252) (rest := []) (Ls := [(0, rf 252), (1, iv 0)]) r_228_142 (n_228_142 _) rfl ⟨rfl, rfl, by decide, by decide⟩ rfl rfl lf_252 ⟨rfl, Nat.le_of_ble_eq_true rfl, Nat.le_of_ble_eq_true rfl⟩ rfl K_Model_refused0 ?_
        rintro _ _ ⟨rfl, rfl⟩
        refine .inl ⟨some (iv 0), rfl, ?_⟩
        show wp S 228 145 [(0, rf 252), (1, iv x1), (2, iv x2), (3, iv x3), (4, iv x4), (5, iv x5), (6, iv x6), (7, iv x7), (8, iv x8)] [iv 0] (zwI s 252 3 0) Q
        refine i_if (t := 150) r_228_145 (n_228_145 _) rfl (T_eq ⟨by omega, by omega⟩ ⟨by omega, by omega⟩) (fun _ => ?_) (fun z => absurd z (by omega))
        refine i_aload_n (a := 252) r_228_150 (n_228_150 _) rfl ?_
        refine wp_virt (b := 252) (rest := []) (Ls := [(0, rf 252)]) r_228_151 (n_228_151 _) rfl ⟨rfl, rfl, by decide, by decide⟩ rfl rfl lf_252 ⟨rfl, Nat.le_of_ble_eq_true rfl, Nat.le_of_ble_eq_true rfl⟩ rfl h ?_
        intro o8 s8 h
        rcases h with ⟨rfl, h⟩ | ⟨e8, rfl, h⟩
        · refine .inl ⟨none, rfl, ?_⟩
          refine i_aload_n (a := 252) r_228_154 (n_228_154 _) rfl ?_
          refine i_iload (x := x7) r_228_155 (n_228_155 _) rfl ?_
          refine i_iload_n (x := x1) r_228_157 (n_228_157 _) rfl ?_
          refine i_iload_n (x := x2) r_228_158 (n_228_158 _) rfl ?_
          refine i_iload_n (x := x3) r_228_159 (n_228_159 _) rfl ?_
          refine i_iload (x := x4) r_228_160 (n_228_160 _) rfl ?_
          refine i_iload (x := x8) r_228_162 (n_228_162 _) rfl ?_
          refine wp_virt (b := 252) (rest := []) (Ls := [(0, rf 252), (1, iv x7), (2, iv x1), (3, iv x2), (4, iv x3), (5, iv x4), (6, iv x8)]) r_228_164 (n_228_164 _) rfl ⟨rfl, rfl, by decide, by decide⟩ rfl rfl lf_252 ⟨rfl, Nat.le_of_ble_eq_true rfl, Nat.le_of_ble_eq_true rfl⟩ rfl h ?_
          intro o10 s10 h
          rcases h with ⟨rfl, h⟩ | ⟨e10, rfl, h⟩
          · refine .inl ⟨none, rfl, ?_⟩
            refine i_iload (x := x7) r_228_167 (n_228_167 _) rfl ?_
            exact i_ireturn r_228_169 (n_228_169 _) rfl h
          · skip
            exact h.elim
        · skip
          exact h.elim
      · replace h := h.2 c6
        refine i_iconst r_228_137 (n_228_137 _) ?_
        refine i_goto (t := 142) r_228_138 (n_228_138 _) rfl ?_
        refine wp_virt (b := 252) (rest := []) (Ls := [(0, rf 252), (1, iv 3)]) r_228_142 (n_228_142 _) rfl ⟨rfl, rfl, by decide, by decide⟩ rfl rfl lf_252 ⟨rfl, Nat.le_of_ble_eq_true rfl, Nat.le_of_ble_eq_true rfl⟩ rfl (K_Model_refused1 ⟨by omega, by omega⟩ (by omega)) ?_
        rintro _ _ ⟨rfl, rfl⟩
        refine .inl ⟨some (iv 1), rfl, ?_⟩
        show wp S 228 145 [(0, rf 252), (1, iv x1), (2, iv x2), (3, iv x3), (4, iv x4), (5, iv x5), (6, iv x6), (7, iv x7), (8, iv x8)] [iv 1] (zwI s 252 3 3) Q
        refine i_if (t := 150) r_228_145 (n_228_145 _) rfl (T_eq ⟨by omega, by omega⟩ ⟨by omega, by omega⟩) (fun z => absurd z (by omega)) (fun _ => ?_)
        refine i_iconst r_228_148 (n_228_148 _) ?_
        exact i_ireturn r_228_149 (n_228_149 _) rfl h
    · replace h := h.2 c4
      refine i_iconst r_228_127 (n_228_127 _) ?_
      refine i_goto (t := 142) r_228_128 (n_228_128 _) rfl ?_
      refine wp_virt (b := 252) (rest := []) (Ls := [(0, rf 252), (1, iv 2)]) r_228_142 (n_228_142 _) rfl ⟨rfl, rfl, by decide, by decide⟩ rfl rfl lf_252 ⟨rfl, Nat.le_of_ble_eq_true rfl, Nat.le_of_ble_eq_true rfl⟩ rfl (K_Model_refused1 ⟨by omega, by omega⟩ (by omega)) ?_
      rintro _ _ ⟨rfl, rfl⟩
      refine .inl ⟨some (iv 1), rfl, ?_⟩
      show wp S 228 145 [(0, rf 252), (1, iv x1), (2, iv x2), (3, iv x3), (4, iv x4), (5, iv x5), (6, iv x6), (7, iv x7), (8, iv x8)] [iv 1] (zwI s 252 3 2) Q
      refine i_if (t := 150) r_228_145 (n_228_145 _) rfl (T_eq ⟨by omega, by omega⟩ ⟨by omega, by omega⟩) (fun z => absurd z (by omega)) (fun _ => ?_)
      refine i_iconst r_228_148 (n_228_148 _) ?_
      exact i_ireturn r_228_149 (n_228_149 _) rfl h
  · replace h := h.2 c2
    refine i_iconst r_228_118 (n_228_118 _) ?_
    refine i_goto (t := 142) r_228_119 (n_228_119 _) rfl ?_
    refine wp_virt (b := 252) (rest := []) (Ls := [(0, rf 252), (1, iv 1)]) r_228_142 (n_228_142 _) rfl ⟨rfl, rfl, by decide, by decide⟩ rfl rfl lf_252 ⟨rfl, Nat.le_of_ble_eq_true rfl, Nat.le_of_ble_eq_true rfl⟩ rfl (K_Model_refused1 ⟨by omega, by omega⟩ (by omega)) ?_
    rintro _ _ ⟨rfl, rfl⟩
    refine .inl ⟨some (iv 1), rfl, ?_⟩
    show wp S 228 145 [(0, rf 252), (1, iv x1), (2, iv x2), (3, iv x3), (4, iv x4), (5, iv x5), (6, iv x6), (7, iv x7), (8, iv x8)] [iv 1] (zwI s 252 3 1) Q
    refine i_if (t := 150) r_228_145 (n_228_145 _) rfl (T_eq ⟨by omega, by omega⟩ ⟨by omega, by omega⟩) (fun z => absurd z (by omega)) (fun _ => ?_)
    refine i_iconst r_228_148 (n_228_148 _) ?_
    exact i_ireturn r_228_149 (n_228_149 _) rfl h
theorem r_230_0 : xfetch 230 0 = some (.iload_n 3, 1) := by decide +kernel
theorem n_230_0 : ∀ l, xpr 230 0 l = l := xpr_no (by decide +kernel)
theorem r_230_1 : xfetch 230 1 = some (.ifCond .ne 17, 3) := by decide +kernel
theorem n_230_1 : ∀ l, xpr 230 1 l = l := xpr_no (by decide +kernel)
theorem r_230_4 : xfetch 230 4 = some (.iload_n 2, 1) := by decide +kernel
theorem n_230_4 : ∀ l, xpr 230 4 l = l := xpr_no (by decide +kernel)
theorem r_230_5 : xfetch 230 5 = some (.aload_n 0, 1) := by decide +kernel
theorem n_230_5 : ∀ l, xpr 230 5 l = l := xpr_no (by decide +kernel)
theorem r_230_6 : xfetch 230 6 = some (.getfield 22, 3) := by decide +kernel
theorem n_230_6 : ∀ l, xpr 230 6 l = l := xpr_no (by decide +kernel)
theorem r_230_9 : xfetch 230 9 = some (.iload_n 1, 1) := by decide +kernel
theorem n_230_9 : ∀ l, xpr 230 9 l = l := xpr_no (by decide +kernel)
theorem r_230_10 : xfetch 230 10 = some (.iaload, 1) := by decide +kernel
theorem n_230_10 : ∀ l, xpr 230 10 l = l := xpr_no (by decide +kernel)
theorem r_230_11 : xfetch 230 11 = some (.imul, 1) := by decide +kernel
theorem n_230_11 : ∀ l, xpr 230 11 l = l := xpr_no (by decide +kernel)
theorem r_230_12 : xfetch 230 12 = some (.bipush 8, 2) := by decide +kernel
theorem n_230_12 : ∀ l, xpr 230 12 l = l := xpr_no (by decide +kernel)
theorem r_230_14 : xfetch 230 14 = some (.invokestatic 112, 3) := by decide +kernel
theorem n_230_14 : ∀ l, xpr 230 14 l = l := xpr_no (by decide +kernel)
theorem r_230_17 : xfetch 230 17 = some (.ireturn, 1) := by decide +kernel
theorem n_230_17 : ∀ l, xpr 230 17 l = l := xpr_no (by decide +kernel)
theorem r_230_18 : xfetch 230 18 = some (.iload_n 3, 1) := by decide +kernel
theorem n_230_18 : ∀ l, xpr 230 18 l = l := xpr_no (by decide +kernel)
theorem r_230_19 : xfetch 230 19 = some (.iconst 1, 1) := by decide +kernel
theorem n_230_19 : ∀ l, xpr 230 19 l = l := xpr_no (by decide +kernel)
theorem r_230_20 : xfetch 230 20 = some (.if_icmp .ne 12, 3) := by decide +kernel
theorem n_230_20 : ∀ l, xpr 230 20 l = l := xpr_no (by decide +kernel)
theorem r_230_23 : xfetch 230 23 = some (.aload_n 0, 1) := by decide +kernel
theorem n_230_23 : ∀ l, xpr 230 23 l = l := xpr_no (by decide +kernel)
theorem r_230_24 : xfetch 230 24 = some (.iload_n 1, 1) := by decide +kernel
theorem n_230_24 : ∀ l, xpr 230 24 l = l := xpr_no (by decide +kernel)
theorem r_230_25 : xfetch 230 25 = some (.iload_n 2, 1) := by decide +kernel
theorem n_230_25 : ∀ l, xpr 230 25 l = l := xpr_no (by decide +kernel)
theorem r_230_26 : xfetch 230 26 = some (.invokevirtual 222, 3) := by decide +kernel
theorem n_230_26 : ∀ l, xpr 230 26 l = l := xpr_no (by decide +kernel)
theorem r_230_29 : xfetch 230 29 = some (.goto 17, 3) := by decide +kernel
theorem n_230_29 : ∀ l, xpr 230 29 l = l := xpr_no (by decide +kernel)
theorem r_230_32 : xfetch 230 32 = some (.iload_n 2, 1) := by decide +kernel
theorem n_230_32 : ∀ l, xpr 230 32 l = l := xpr_no (by decide +kernel)
theorem r_230_33 : xfetch 230 33 = some (.iload_n 3, 1) := by decide +kernel
theorem n_230_33 : ∀ l, xpr 230 33 l = l := xpr_no (by decide +kernel)
theorem r_230_34 : xfetch 230 34 = some (.iadd, 1) := by decide +kernel
theorem n_230_34 : ∀ l, xpr 230 34 l = l := xpr_no (by decide +kernel)
theorem r_230_35 : xfetch 230 35 = some (.iconst 1, 1) := by decide +kernel
theorem n_230_35 : ∀ l, xpr 230 35 l = l := xpr_no (by decide +kernel)
theorem r_230_36 : xfetch 230 36 = some (.isub, 1) := by decide +kernel
theorem n_230_36 : ∀ l, xpr 230 36 l = l := xpr_no (by decide +kernel)
theorem r_230_37 : xfetch 230 37 = some (.iload_n 3, 1) := by decide +kernel
theorem n_230_37 : ∀ l, xpr 230 37 l = l := xpr_no (by decide +kernel)
theorem r_230_38 : xfetch 230 38 = some (.idiv, 1) := by decide +kernel
theorem n_230_38 : ∀ l, xpr 230 38 l = l := xpr_no (by decide +kernel)
theorem r_230_39 : xfetch 230 39 = some (.aload_n 0, 1) := by decide +kernel
theorem n_230_39 : ∀ l, xpr 230 39 l = l := xpr_no (by decide +kernel)
theorem r_230_40 : xfetch 230 40 = some (.iload_n 1, 1) := by decide +kernel
theorem n_230_40 : ∀ l, xpr 230 40 l = l := xpr_no (by decide +kernel)
theorem r_230_41 : xfetch 230 41 = some (.iload_n 3, 1) := by decide +kernel
theorem n_230_41 : ∀ l, xpr 230 41 l = l := xpr_no (by decide +kernel)
theorem r_230_42 : xfetch 230 42 = some (.invokevirtual 222, 3) := by decide +kernel
theorem n_230_42 : ∀ l, xpr 230 42 l = l := xpr_no (by decide +kernel)
theorem r_230_45 : xfetch 230 45 = some (.imul, 1) := by decide +kernel
theorem n_230_45 : ∀ l, xpr 230 45 l = l := xpr_no (by decide +kernel)
theorem r_230_46 : xfetch 230 46 = some (.ireturn, 1) := by decide +kernel
theorem n_230_46 : ∀ l, xpr 230 46 l = l := xpr_no (by decide +kernel)
theorem v_Model_bytesFor_0 {S : Option (Nat × (Nat → Int32))} {s : zSt} {Q : Option Value ⊕ Nat → zSt → Prop} {x1 : Int} {x2 : Int} {x3 : Int} 
    (h : rng x3 ∧ ((x3 ≠ 0 → (x3 ≠ 1 → rng ((x2 + x3) - 1) ∧ (0 ≤ ((x2 + x3) - 1) ∧ (0 < x3 ∧ (wp S 231 0 [(0, rf 252), (1, iv x1), (2, iv x3)] [] s (fun o7 s7 => zkI (fun y7 => Q (rI ((((x2 + x3) - 1) / x3) * y7)) s7) (fun e7 => False) o7))))) ∧ (x3 = 1 → wp S 231 0 [(0, rf 252), (1, iv x1), (2, iv x2)] [] s (fun o9 s9 => zkI (fun y9 => Q (rI y9) s9) (fun e9 => False) o9))) ∧ (x3 = 0 → (0 ≤ x1 ∧ x1 < 6) ∧ (rng ((x2 * (zI s 257 x1)) + 8 - 1) ∧ ((0 ≤ (x2 * (zI s 257 x1)) + 8 - 1) ∧ (Q (rI (zup (x2 * (zI s 257 x1)) 8)) s)))))) :
    wp S 230 0 [(0, rf 252), (1, iv x1), (2, iv x2), (3, iv x3)] [] s Q := by
  refine i_iload_n (x := x3) r_230_0 (n_230_0 _) rfl ?_
  obtain ⟨g1, h⟩ := h
  refine i_if (t := 18) r_230_1 (n_230_1 _) rfl (T_ne g1 ⟨by omega, by omega⟩) (fun c2 => ?_) (fun c2 => ?_)
  · replace h := h.1 c2
    refine i_iload_n (x := x3) r_230_18 (n_230_18 _) rfl ?_
    refine i_iconst r_230_19 (n_230_19 _) ?_
    refine i_icmp (t := 32) r_230_20 (n_230_20 _) rfl (T_ne g1 ⟨by omega, by omega⟩) (fun c3 => ?_) (fun c3 => ?_)
    · replace h := h.1 c3
      refine i_iload_n (x := x2) r_230_32 (n_230_32 _) rfl ?_
      refine i_iload_n (x := x3) r_230_33 (n_230_33 _) rfl ?_
      refine i_iadd r_230_34 (n_230_34 _) ?_
      refine i_iconst r_230_35 (n_230_35 _) ?_
      refine i_isub r_230_36 (n_230_36 _) ?_
      refine i_iload_n (x := x3) r_230_37 (n_230_37 _) rfl ?_
      obtain ⟨g4, h⟩ := h
      obtain ⟨g5, h⟩ := h
      obtain ⟨g6, h⟩ := h
      refine i_idiv r_230_38 (n_230_38 _) g4 g1 (by omega) (by omega) ?_
      refine i_aload_n (a := 252) r_230_39 (n_230_39 _) rfl ?_
      refine i_iload_n (x := x1) r_230_40 (n_230_40 _) rfl ?_
      refine i_iload_n (x := x3) r_230_41 (n_230_41 _) rfl ?_
      refine wp_virt (b := 252) (rest := [iv (((x2 + x3) - 1) / x3)]) (Ls := [(0, rf 252), (1, iv x1), (2, iv x3)]) r_230_42 (n_230_42 _) rfl ⟨rfl, rfl, by decide, by decide⟩ rfl rfl lf_252 ⟨rfl, Nat.le_of_ble_eq_true rfl, Nat.le_of_ble_eq_true rfl⟩ rfl h ?_
      intro o7 s7 h
      rcases h with ⟨y7, q8, rfl, h⟩ | ⟨e7, rfl, h⟩
      · refine .inl ⟨some (iv y7), rfl, ?_⟩
        show wp S 230 45 [(0, rf 252), (1, iv x1), (2, iv x2), (3, iv x3)] [iv y7, iv (((x2 + x3) - 1) / x3)] s7 Q
        refine i_imul r_230_45 (n_230_45 _) ?_
        exact i_ireturn r_230_46 (n_230_46 _) rfl h
      · skip
        exact h.elim
    · replace h := h.2 c3
      refine i_aload_n (a := 252) r_230_23 (n_230_23 _) rfl ?_
      refine i_iload_n (x := x1) r_230_24 (n_230_24 _) rfl ?_
      refine i_iload_n (x := x2) r_230_25 (n_230_25 _) rfl ?_
      refine wp_virt (b := 252) (rest := []) (Ls := [(0, rf 252), (1, iv x1), (2, iv x2)]) r_230_26 (n_230_26 _) rfl ⟨rfl, rfl, by decide, by decide⟩ rfl rfl lf_252 ⟨rfl, Nat.le_of_ble_eq_true rfl, Nat.le_of_ble_eq_true rfl⟩ rfl h ?_
      intro o9 s9 h
      rcases h with ⟨y9, q10, rfl, h⟩ | ⟨e9, rfl, h⟩
      · refine .inl ⟨some (iv y9), rfl, ?_⟩
        show wp S 230 29 [(0, rf 252), (1, iv x1), (2, iv x2), (3, iv x3)] [iv y9] s9 Q
        refine i_goto (t := 46) r_230_29 (n_230_29 _) rfl ?_
        exact i_ireturn r_230_46 (n_230_46 _) rfl h
      · skip
        exact h.elim
  · replace h := h.2 c2
    refine i_iload_n (x := x2) r_230_4 (n_230_4 _) rfl ?_
    refine i_aload_n (a := 252) r_230_5 (n_230_5 _) rfl ?_
    refine i_getR (a := 252) (b := 257) r_230_6 (n_230_6 _) rfl rfl rfl (by omega) lf_252 (by omega) ?_
    refine i_iload_n (x := x1) r_230_9 (n_230_9 _) rfl ?_
    obtain ⟨g11, h⟩ := h
    refine i_iaload (a := 257) (j := x1) r_230_10 (n_230_10 _) lf_257 ⟨by omega, by omega⟩ (by omega) (by omega) (fun q12 => ?_)
    refine i_imul r_230_11 (n_230_11 _) ?_
    refine i_bipush r_230_12 (n_230_12 _) rfl ?_
    obtain ⟨g13, h⟩ := h
    obtain ⟨g14, h⟩ := h
    refine wp_stat (rest := []) (Ls := [(0, iv (x2 * (zI s 257 x1))), (1, iv 8)]) r_230_14 (n_230_14 _) rfl ⟨rfl, by decide, by decide, by decide⟩ rfl rfl ⟨rfl, Nat.le_of_ble_eq_true rfl, Nat.le_of_ble_eq_true rfl⟩ rfl (K_Model_up g13 ⟨by omega, by omega⟩ g14 (by omega)) ?_
    rintro _ _ ⟨rfl, rfl⟩
    refine .inl ⟨some (iv (zup (x2 * (zI s 257 x1)) 8)), rfl, ?_⟩
    show wp S 230 17 [(0, rf 252), (1, iv x1), (2, iv x2), (3, iv x3)] [iv (zup (x2 * (zI s 257 x1)) 8)] s Q
    exact i_ireturn r_230_17 (n_230_17 _) rfl h
theorem r_231_0 : xfetch 231 0 = some (.aload_n 0, 1) := by decide +kernel
theorem n_231_0 : ∀ l, xpr 231 0 l = l := xpr_no (by decide +kernel)
theorem r_231_1 : xfetch 231 1 = some (.iload_n 1, 1) := by decide +kernel
theorem n_231_1 : ∀ l, xpr 231 1 l = l := xpr_no (by decide +kernel)
theorem r_231_2 : xfetch 231 2 = some (.iload_n 2, 1) := by decide +kernel
theorem n_231_2 : ∀ l, xpr 231 2 l = l := xpr_no (by decide +kernel)
theorem r_231_3 : xfetch 231 3 = some (.bipush 40, 2) := by decide +kernel
theorem n_231_3 : ∀ l, xpr 231 3 l = l := xpr_no (by decide +kernel)
theorem r_231_5 : xfetch 231 5 = some (.invokevirtual 219, 3) := by decide +kernel
theorem n_231_5 : ∀ l, xpr 231 5 l = l := xpr_no (by decide +kernel)
theorem r_231_8 : xfetch 231 8 = some (.bipush 8, 2) := by decide +kernel
theorem n_231_8 : ∀ l, xpr 231 8 l = l := xpr_no (by decide +kernel)
theorem r_231_10 : xfetch 231 10 = some (.invokestatic 112, 3) := by decide +kernel
theorem n_231_10 : ∀ l, xpr 231 10 l = l := xpr_no (by decide +kernel)
theorem r_231_13 : xfetch 231 13 = some (.ireturn, 1) := by decide +kernel
theorem n_231_13 : ∀ l, xpr 231 13 l = l := xpr_no (by decide +kernel)
theorem v_Model_block_0 {S : Option (Nat × (Nat → Int32))} {s : zSt} {Q : Option Value ⊕ Nat → zSt → Prop} {x1 : Int} {x2 : Int} 
    (h : wp S 232 0 [(0, rf 252), (1, iv x1), (2, iv x2), (3, iv 40)] [] s (fun o1 s1 => zkI (fun y1 => rng (y1 + 8 - 1) ∧ ((0 ≤ y1 + 8 - 1) ∧ (Q (rI (zup y1 8)) s1))) (fun e1 => False) o1)) :
    wp S 231 0 [(0, rf 252), (1, iv x1), (2, iv x2)] [] s Q := by
  refine i_aload_n (a := 252) r_231_0 (n_231_0 _) rfl ?_
  refine i_iload_n (x := x1) r_231_1 (n_231_1 _) rfl ?_
  refine i_iload_n (x := x2) r_231_2 (n_231_2 _) rfl ?_
  refine i_bipush r_231_3 (n_231_3 _) rfl ?_
  refine wp_virt (b := 252) (rest := []) (Ls := [(0, rf 252), (1, iv x1), (2, iv x2), (3, iv 40)]) r_231_5 (n_231_5 _) rfl ⟨rfl, rfl, by decide, by decide⟩ rfl rfl lf_252 ⟨rfl, Nat.le_of_ble_eq_true rfl, Nat.le_of_ble_eq_true rfl⟩ rfl h ?_
  intro o1 s1 h
  rcases h with ⟨y1, q2, rfl, h⟩ | ⟨e1, rfl, h⟩
  · refine .inl ⟨some (iv y1), rfl, ?_⟩
    show wp S 231 8 [(0, rf 252), (1, iv x1), (2, iv x2)] [iv y1] s1 Q
    refine i_bipush r_231_8 (n_231_8 _) rfl ?_
    obtain ⟨g3, h⟩ := h
    obtain ⟨g4, h⟩ := h
    refine wp_stat (rest := []) (Ls := [(0, iv y1), (1, iv 8)]) r_231_10 (n_231_10 _) rfl ⟨rfl, by decide, by decide, by decide⟩ rfl rfl ⟨rfl, Nat.le_of_ble_eq_true rfl, Nat.le_of_ble_eq_true rfl⟩ rfl (K_Model_up g3 ⟨by omega, by omega⟩ g4 (by omega)) ?_
    rintro _ _ ⟨rfl, rfl⟩
    refine .inl ⟨some (iv (zup y1 8)), rfl, ?_⟩
    show wp S 231 13 [(0, rf 252), (1, iv x1), (2, iv x2)] [iv (zup y1 8)] s1 Q
    exact i_ireturn r_231_13 (n_231_13 _) rfl h
  · skip
    exact h.elim
theorem r_232_0 : xfetch 232 0 = some (.iconst 0, 1) := by decide +kernel
theorem n_232_0 : ∀ l, xpr 232 0 l = l := xpr_no (by decide +kernel)
theorem r_232_1 : xfetch 232 1 = some (.istore 4, 2) := by decide +kernel
theorem n_232_1 : ∀ l, xpr 232 1 l = l := xpr_no (by decide +kernel)
theorem r_232_3 : xfetch 232 3 = some (.iconst 0, 1) := by decide +kernel
theorem n_232_3 : ∀ l, xpr 232 3 l = l := xpr_no (by decide +kernel)
theorem r_232_4 : xfetch 232 4 = some (.istore 5, 2) := by decide +kernel
theorem n_232_4 : ∀ l, xpr 232 4 l = l := xpr_no (by decide +kernel)
theorem r_232_6 : xfetch 232 6 = some (.iload 5, 2) := by decide +kernel
theorem r_232_8 : xfetch 232 8 = some (.aload_n 0, 1) := by decide +kernel
theorem n_232_8 : ∀ l, xpr 232 8 l = l := xpr_no (by decide +kernel)
theorem r_232_9 : xfetch 232 9 = some (.getfield 19, 3) := by decide +kernel
theorem n_232_9 : ∀ l, xpr 232 9 l = l := xpr_no (by decide +kernel)
theorem r_232_12 : xfetch 232 12 = some (.iload_n 1, 1) := by decide +kernel
theorem n_232_12 : ∀ l, xpr 232 12 l = l := xpr_no (by decide +kernel)
theorem r_232_13 : xfetch 232 13 = some (.iaload, 1) := by decide +kernel
theorem n_232_13 : ∀ l, xpr 232 13 l = l := xpr_no (by decide +kernel)
theorem r_232_14 : xfetch 232 14 = some (.if_icmp .ge 53, 3) := by decide +kernel
theorem n_232_14 : ∀ l, xpr 232 14 l = l := xpr_no (by decide +kernel)
theorem r_232_17 : xfetch 232 17 = some (.aload_n 0, 1) := by decide +kernel
theorem n_232_17 : ∀ l, xpr 232 17 l = l := xpr_no (by decide +kernel)
theorem r_232_18 : xfetch 232 18 = some (.getfield 28, 3) := by decide +kernel
theorem n_232_18 : ∀ l, xpr 232 18 l = l := xpr_no (by decide +kernel)
theorem r_232_21 : xfetch 232 21 = some (.bipush 40, 2) := by decide +kernel
theorem n_232_21 : ∀ l, xpr 232 21 l = l := xpr_no (by decide +kernel)
theorem r_232_23 : xfetch 232 23 = some (.iload_n 1, 1) := by decide +kernel
theorem n_232_23 : ∀ l, xpr 232 23 l = l := xpr_no (by decide +kernel)
theorem r_232_24 : xfetch 232 24 = some (.imul, 1) := by decide +kernel
theorem n_232_24 : ∀ l, xpr 232 24 l = l := xpr_no (by decide +kernel)
theorem r_232_25 : xfetch 232 25 = some (.iload 5, 2) := by decide +kernel
theorem n_232_25 : ∀ l, xpr 232 25 l = l := xpr_no (by decide +kernel)
theorem r_232_27 : xfetch 232 27 = some (.iadd, 1) := by decide +kernel
theorem n_232_27 : ∀ l, xpr 232 27 l = l := xpr_no (by decide +kernel)
theorem r_232_28 : xfetch 232 28 = some (.iaload, 1) := by decide +kernel
theorem n_232_28 : ∀ l, xpr 232 28 l = l := xpr_no (by decide +kernel)
theorem r_232_29 : xfetch 232 29 = some (.invokestatic 96, 3) := by decide +kernel
theorem n_232_29 : ∀ l, xpr 232 29 l = l := xpr_no (by decide +kernel)
theorem r_232_32 : xfetch 232 32 = some (.istore 6, 2) := by decide +kernel
theorem n_232_32 : ∀ l, xpr 232 32 l = l := xpr_no (by decide +kernel)
theorem r_232_34 : xfetch 232 34 = some (.iload 4, 2) := by decide +kernel
theorem n_232_34 : ∀ l, xpr 232 34 l = l := xpr_no (by decide +kernel)
theorem r_232_36 : xfetch 232 36 = some (.iload 6, 2) := by decide +kernel
theorem n_232_36 : ∀ l, xpr 232 36 l = l := xpr_no (by decide +kernel)
theorem r_232_38 : xfetch 232 38 = some (.invokestatic 112, 3) := by decide +kernel
theorem n_232_38 : ∀ l, xpr 232 38 l = l := xpr_no (by decide +kernel)
theorem r_232_41 : xfetch 232 41 = some (.istore 4, 2) := by decide +kernel
theorem n_232_41 : ∀ l, xpr 232 41 l = l := xpr_no (by decide +kernel)
theorem r_232_43 : xfetch 232 43 = some (.iload 5, 2) := by decide +kernel
theorem n_232_43 : ∀ l, xpr 232 43 l = l := xpr_no (by decide +kernel)
theorem r_232_45 : xfetch 232 45 = some (.iload_n 3, 1) := by decide +kernel
theorem n_232_45 : ∀ l, xpr 232 45 l = l := xpr_no (by decide +kernel)
theorem r_232_46 : xfetch 232 46 = some (.if_icmp .ne 6, 3) := by decide +kernel
theorem n_232_46 : ∀ l, xpr 232 46 l = l := xpr_no (by decide +kernel)
theorem r_232_49 : xfetch 232 49 = some (.iload 4, 2) := by decide +kernel
theorem n_232_49 : ∀ l, xpr 232 49 l = l := xpr_no (by decide +kernel)
theorem r_232_51 : xfetch 232 51 = some (.ireturn, 1) := by decide +kernel
theorem n_232_51 : ∀ l, xpr 232 51 l = l := xpr_no (by decide +kernel)
theorem r_232_52 : xfetch 232 52 = some (.iload 4, 2) := by decide +kernel
theorem n_232_52 : ∀ l, xpr 232 52 l = l := xpr_no (by decide +kernel)
theorem r_232_54 : xfetch 232 54 = some (.iload_n 2, 1) := by decide +kernel
theorem n_232_54 : ∀ l, xpr 232 54 l = l := xpr_no (by decide +kernel)
theorem r_232_55 : xfetch 232 55 = some (.iload 6, 2) := by decide +kernel
theorem n_232_55 : ∀ l, xpr 232 55 l = l := xpr_no (by decide +kernel)
theorem r_232_57 : xfetch 232 57 = some (.imul, 1) := by decide +kernel
theorem n_232_57 : ∀ l, xpr 232 57 l = l := xpr_no (by decide +kernel)
theorem r_232_58 : xfetch 232 58 = some (.iadd, 1) := by decide +kernel
theorem n_232_58 : ∀ l, xpr 232 58 l = l := xpr_no (by decide +kernel)
theorem r_232_59 : xfetch 232 59 = some (.istore 4, 2) := by decide +kernel
theorem n_232_59 : ∀ l, xpr 232 59 l = l := xpr_no (by decide +kernel)
theorem r_232_61 : xfetch 232 61 = some (.iinc 5 1, 3) := by decide +kernel
theorem n_232_61 : ∀ l, xpr 232 61 l = l := xpr_no (by decide +kernel)
theorem r_232_64 : xfetch 232 64 = some (.goto (-58), 3) := by decide +kernel
theorem n_232_64 : ∀ l, xpr 232 64 l = l := xpr_no (by decide +kernel)
theorem r_232_67 : xfetch 232 67 = some (.iload 4, 2) := by decide +kernel
theorem n_232_67 : ∀ l, xpr 232 67 l = l := xpr_no (by decide +kernel)
theorem r_232_69 : xfetch 232 69 = some (.ireturn, 1) := by decide +kernel
theorem n_232_69 : ∀ l, xpr 232 69 l = l := xpr_no (by decide +kernel)
theorem v_Model_column_0 {S : Option (Nat × (Nat → Int32))} {s : zSt} {Q : Option Value ⊕ Nat → zSt → Prop} {x1 : Int} {x2 : Int} {x3 : Int} 
    (h : wp S 232 6 [(0, rf 252), (1, iv x1), (2, iv x2), (3, iv x3), (4, iv 0), (5, iv 0)] [] s Q) :
    wp S 232 0 [(0, rf 252), (1, iv x1), (2, iv x2), (3, iv x3)] [] s Q := by
  refine i_iconst r_232_0 (n_232_0 _) ?_
  refine i_istore (l' := [(0, rf 252), (1, iv x1), (2, iv x2), (3, iv x3), (4, iv 0)]) r_232_1 (n_232_1 _) (by decide) rfl ?_
  refine i_iconst r_232_3 (n_232_3 _) ?_
  refine i_istore (l' := [(0, rf 252), (1, iv x1), (2, iv x2), (3, iv x3), (4, iv 0), (5, iv 0)]) r_232_4 (n_232_4 _) (by decide) rfl ?_
  exact wp_pr (l' := [(0, rf 252), (1, iv x1), (2, iv x2), (3, iv x3), (4, iv 0), (5, iv 0)]) rfl h
theorem v_Model_column_6 {S : Option (Nat × (Nat → Int32))} {s : zSt} {Q : Option Value ⊕ Nat → zSt → Prop} {x1 : Int} {x2 : Int} {x3 : Int} {x4 : Int} {x5 : Int} 
    (h : (0 ≤ x1 ∧ x1 < 6) ∧ (rng x5 ∧ (((zI s 256 x1) ≤ x5 → Q (rI x4) s) ∧ (x5 < (zI s 256 x1) → (0 ≤ ((40 * x1) + x5) ∧ ((40 * x1) + x5) < 240) ∧ (rng (x4 + (zby (zI s 259 ((40 * x1) + x5))) - 1) ∧ (rng (zby (zI s 259 ((40 * x1) + x5))) ∧ ((0 ≤ x4 + (zby (zI s 259 ((40 * x1) + x5))) - 1) ∧ ((0 < (zby (zI s 259 ((40 * x1) + x5)))) ∧ (rng x3 ∧ ((x5 ≠ x3 → wp S 232 6 [(0, rf 252), (1, iv x1), (2, iv x2), (3, iv x3), (4, iv ((zup x4 (zby (zI s 259 ((40 * x1) + x5)))) + (x2 * (zby (zI s 259 ((40 * x1) + x5)))))), (5, iv (x5 + 1))] [] s Q) ∧ (x5 = x3 → Q (rI (zup x4 (zby (zI s 259 ((40 * x1) + x5))))) s))))))))))) :
    wp S 232 6 [(0, rf 252), (1, iv x1), (2, iv x2), (3, iv x3), (4, iv x4), (5, iv x5)] [] s Q := by
  refine i_iload (x := x5) r_232_6 rfl rfl ?_
  refine i_aload_n (a := 252) r_232_8 (n_232_8 _) rfl ?_
  refine i_getR (a := 252) (b := 256) r_232_9 (n_232_9 _) rfl rfl rfl (by omega) lf_252 (by omega) ?_
  refine i_iload_n (x := x1) r_232_12 (n_232_12 _) rfl ?_
  obtain ⟨g1, h⟩ := h
  refine i_iaload (a := 256) (j := x1) r_232_13 (n_232_13 _) lf_256 ⟨by omega, by omega⟩ (by omega) (by omega) (fun q2 => ?_)
  obtain ⟨g3, h⟩ := h
  refine i_icmp (t := 67) r_232_14 (n_232_14 _) rfl (T_ge g3 q2) (fun c4 => ?_) (fun c4 => ?_)
  · replace h := h.1 c4
    refine i_iload (x := x4) r_232_67 (n_232_67 _) rfl ?_
    exact i_ireturn r_232_69 (n_232_69 _) rfl h
  · replace h := h.2 c4
    refine i_aload_n (a := 252) r_232_17 (n_232_17 _) rfl ?_
    refine i_getR (a := 252) (b := 259) r_232_18 (n_232_18 _) rfl rfl rfl (by omega) lf_252 (by omega) ?_
    refine i_bipush r_232_21 (n_232_21 _) rfl ?_
    refine i_iload_n (x := x1) r_232_23 (n_232_23 _) rfl ?_
    refine i_imul r_232_24 (n_232_24 _) ?_
    refine i_iload (x := x5) r_232_25 (n_232_25 _) rfl ?_
    refine i_iadd r_232_27 (n_232_27 _) ?_
    obtain ⟨g5, h⟩ := h
    refine i_iaload (a := 259) (j := (40 * x1) + x5) r_232_28 (n_232_28 _) lf_259 ⟨by omega, by omega⟩ (by omega) (by omega) (fun q6 => ?_)
    refine wp_stat (rest := []) (Ls := [(0, iv (zI s 259 ((40 * x1) + x5)))]) r_232_29 (n_232_29 _) rfl ⟨rfl, by decide, by decide, by decide⟩ rfl rfl ⟨rfl, Nat.le_of_ble_eq_true rfl, Nat.le_of_ble_eq_true rfl⟩ rfl (K_Model_bytesOf q6) ?_
    rintro _ _ ⟨rfl, rfl⟩
    refine .inl ⟨some (iv (zby (zI s 259 ((40 * x1) + x5)))), rfl, ?_⟩
    show wp S 232 32 [(0, rf 252), (1, iv x1), (2, iv x2), (3, iv x3), (4, iv x4), (5, iv x5)] [iv (zby (zI s 259 ((40 * x1) + x5)))] s Q
    refine i_istore (l' := [(0, rf 252), (1, iv x1), (2, iv x2), (3, iv x3), (4, iv x4), (5, iv x5), (6, iv (zby (zI s 259 ((40 * x1) + x5))))]) r_232_32 (n_232_32 _) (by decide) rfl ?_
    refine i_iload (x := x4) r_232_34 (n_232_34 _) rfl ?_
    refine i_iload (x := zby (zI s 259 ((40 * x1) + x5))) r_232_36 (n_232_36 _) rfl ?_
    obtain ⟨g8, h⟩ := h
    obtain ⟨g9, h⟩ := h
    obtain ⟨g10, h⟩ := h
    obtain ⟨g11, h⟩ := h
    refine wp_stat (rest := []) (Ls := [(0, iv x4), (1, iv (zby (zI s 259 ((40 * x1) + x5))))]) r_232_38 (n_232_38 _) rfl ⟨rfl, by decide, by decide, by decide⟩ rfl rfl ⟨rfl, Nat.le_of_ble_eq_true rfl, Nat.le_of_ble_eq_true rfl⟩ rfl (K_Model_up g8 g9 g10 g11) ?_
    rintro _ _ ⟨rfl, rfl⟩
    refine .inl ⟨some (iv (zup x4 (zby (zI s 259 ((40 * x1) + x5))))), rfl, ?_⟩
    show wp S 232 41 [(0, rf 252), (1, iv x1), (2, iv x2), (3, iv x3), (4, iv x4), (5, iv x5), (6, iv (zby (zI s 259 ((40 * x1) + x5))))] [iv (zup x4 (zby (zI s 259 ((40 * x1) + x5))))] s Q
    refine i_istore (l' := [(0, rf 252), (1, iv x1), (2, iv x2), (3, iv x3), (4, iv (zup x4 (zby (zI s 259 ((40 * x1) + x5))))), (5, iv x5), (6, iv (zby (zI s 259 ((40 * x1) + x5))))]) r_232_41 (n_232_41 _) (by decide) rfl ?_
    refine i_iload (x := x5) r_232_43 (n_232_43 _) rfl ?_
    refine i_iload_n (x := x3) r_232_45 (n_232_45 _) rfl ?_
    obtain ⟨g13, h⟩ := h
    refine i_icmp (t := 52) r_232_46 (n_232_46 _) rfl (T_ne g3 g13) (fun c14 => ?_) (fun c14 => ?_)
    · replace h := h.1 c14
      refine i_iload (x := zup x4 (zby (zI s 259 ((40 * x1) + x5)))) r_232_52 (n_232_52 _) rfl ?_
      refine i_iload_n (x := x2) r_232_54 (n_232_54 _) rfl ?_
      refine i_iload (x := zby (zI s 259 ((40 * x1) + x5))) r_232_55 (n_232_55 _) rfl ?_
      refine i_imul r_232_57 (n_232_57 _) ?_
      refine i_iadd r_232_58 (n_232_58 _) ?_
      refine i_istore (l' := [(0, rf 252), (1, iv x1), (2, iv x2), (3, iv x3), (4, iv ((zup x4 (zby (zI s 259 ((40 * x1) + x5)))) + (x2 * (zby (zI s 259 ((40 * x1) + x5)))))), (5, iv x5), (6, iv (zby (zI s 259 ((40 * x1) + x5))))]) r_232_59 (n_232_59 _) (by decide) rfl ?_
      refine i_iinc (x := x5) (l' := [(0, rf 252), (1, iv x1), (2, iv x2), (3, iv x3), (4, iv ((zup x4 (zby (zI s 259 ((40 * x1) + x5)))) + (x2 * (zby (zI s 259 ((40 * x1) + x5)))))), (5, iv (x5 + 1)), (6, iv (zby (zI s 259 ((40 * x1) + x5))))]) r_232_61 (n_232_61 _) (by decide) rfl rfl ?_
      refine i_goto (t := 6) r_232_64 (n_232_64 _) rfl ?_
      exact wp_pr (l' := [(0, rf 252), (1, iv x1), (2, iv x2), (3, iv x3), (4, iv ((zup x4 (zby (zI s 259 ((40 * x1) + x5)))) + (x2 * (zby (zI s 259 ((40 * x1) + x5)))))), (5, iv (x5 + 1))]) rfl h
    · replace h := h.2 c14
      refine i_iload (x := zup x4 (zby (zI s 259 ((40 * x1) + x5)))) r_232_49 (n_232_49 _) rfl ?_
      exact i_ireturn r_232_51 (n_232_51 _) rfl h
theorem r_233_0 : xfetch 233 0 = some (.iconst 0, 1) := by decide +kernel
theorem n_233_0 : ∀ l, xpr 233 0 l = l := xpr_no (by decide +kernel)
theorem r_233_1 : xfetch 233 1 = some (.istore_n 2, 1) := by decide +kernel
theorem n_233_1 : ∀ l, xpr 233 1 l = l := xpr_no (by decide +kernel)
theorem r_233_2 : xfetch 233 2 = some (.iload_n 2, 1) := by decide +kernel
theorem r_233_3 : xfetch 233 3 = some (.sipush 1024, 3) := by decide +kernel
theorem n_233_3 : ∀ l, xpr 233 3 l = l := xpr_no (by decide +kernel)
theorem r_233_6 : xfetch 233 6 = some (.if_icmp .ge 20, 3) := by decide +kernel
theorem n_233_6 : ∀ l, xpr 233 6 l = l := xpr_no (by decide +kernel)
theorem r_233_9 : xfetch 233 9 = some (.aload_n 0, 1) := by decide +kernel
theorem n_233_9 : ∀ l, xpr 233 9 l = l := xpr_no (by decide +kernel)
theorem r_233_10 : xfetch 233 10 = some (.iload_n 2, 1) := by decide +kernel
theorem n_233_10 : ∀ l, xpr 233 10 l = l := xpr_no (by decide +kernel)
theorem r_233_11 : xfetch 233 11 = some (.invokevirtual 234, 3) := by decide +kernel
theorem n_233_11 : ∀ l, xpr 233 11 l = l := xpr_no (by decide +kernel)
theorem r_233_14 : xfetch 233 14 = some (.iload_n 1, 1) := by decide +kernel
theorem n_233_14 : ∀ l, xpr 233 14 l = l := xpr_no (by decide +kernel)
theorem r_233_15 : xfetch 233 15 = some (.if_icmp .lt 5, 3) := by decide +kernel
theorem n_233_15 : ∀ l, xpr 233 15 l = l := xpr_no (by decide +kernel)
theorem r_233_18 : xfetch 233 18 = some (.iload_n 2, 1) := by decide +kernel
theorem n_233_18 : ∀ l, xpr 233 18 l = l := xpr_no (by decide +kernel)
theorem r_233_19 : xfetch 233 19 = some (.ireturn, 1) := by decide +kernel
theorem n_233_19 : ∀ l, xpr 233 19 l = l := xpr_no (by decide +kernel)
theorem r_233_20 : xfetch 233 20 = some (.iinc 2 16, 3) := by decide +kernel
theorem n_233_20 : ∀ l, xpr 233 20 l = l := xpr_no (by decide +kernel)
theorem r_233_23 : xfetch 233 23 = some (.goto (-21), 3) := by decide +kernel
theorem n_233_23 : ∀ l, xpr 233 23 l = l := xpr_no (by decide +kernel)
theorem r_233_26 : xfetch 233 26 = some (.iconst (-1), 1) := by decide +kernel
theorem n_233_26 : ∀ l, xpr 233 26 l = l := xpr_no (by decide +kernel)
theorem r_233_27 : xfetch 233 27 = some (.ireturn, 1) := by decide +kernel
theorem n_233_27 : ∀ l, xpr 233 27 l = l := xpr_no (by decide +kernel)
theorem v_Model_room_0 {S : Option (Nat × (Nat → Int32))} {s : zSt} {Q : Option Value ⊕ Nat → zSt → Prop} {x1 : Int} 
    (h : wp S 233 2 [(0, rf 252), (1, iv x1), (2, iv 0)] [] s Q) :
    wp S 233 0 [(0, rf 252), (1, iv x1)] [] s Q := by
  refine i_iconst r_233_0 (n_233_0 _) ?_
  refine i_istore_n (l' := [(0, rf 252), (1, iv x1), (2, iv 0)]) r_233_1 (n_233_1 _) (by decide) rfl ?_
  exact wp_pr (l' := [(0, rf 252), (1, iv x1), (2, iv 0)]) rfl h
theorem v_Model_room_2 {S : Option (Nat × (Nat → Int32))} {s : zSt} {Q : Option Value ⊕ Nat → zSt → Prop} {x1 : Int} {x2 : Int} 
    (h : rng x2 ∧ ((1024 ≤ x2 → Q (rI (-1)) s) ∧ (x2 < 1024 → wp S 234 0 [(0, rf 252), (1, iv x2)] [] s (fun o3 s3 => zkI (fun y3 => rng x1 ∧ ((y3 < x1 → wp S 233 2 [(0, rf 252), (1, iv x1), (2, iv (x2 + 16))] [] s3 Q) ∧ (x1 ≤ y3 → Q (rI x2) s3))) (fun e3 => False) o3)))) :
    wp S 233 2 [(0, rf 252), (1, iv x1), (2, iv x2)] [] s Q := by
  refine i_iload_n (x := x2) r_233_2 rfl rfl ?_
  refine i_sipush r_233_3 (n_233_3 _) rfl ?_
  obtain ⟨g1, h⟩ := h
  refine i_icmp (t := 26) r_233_6 (n_233_6 _) rfl (T_ge g1 ⟨by omega, by omega⟩) (fun c2 => ?_) (fun c2 => ?_)
  · replace h := h.1 c2
    refine i_iconst r_233_26 (n_233_26 _) ?_
    exact i_ireturn r_233_27 (n_233_27 _) rfl h
  · replace h := h.2 c2
    refine i_aload_n (a := 252) r_233_9 (n_233_9 _) rfl ?_
    refine i_iload_n (x := x2) r_233_10 (n_233_10 _) rfl ?_
    refine wp_virt (b := 252) (rest := []) (Ls := [(0, rf 252), (1, iv x2)]) r_233_11 (n_233_11 _) rfl ⟨rfl, rfl, by decide, by decide⟩ rfl rfl lf_252 ⟨rfl, Nat.le_of_ble_eq_true rfl, Nat.le_of_ble_eq_true rfl⟩ rfl h ?_
    intro o3 s3 h
    rcases h with ⟨y3, q4, rfl, h⟩ | ⟨e3, rfl, h⟩
    · refine .inl ⟨some (iv y3), rfl, ?_⟩
      show wp S 233 14 [(0, rf 252), (1, iv x1), (2, iv x2)] [iv y3] s3 Q
      refine i_iload_n (x := x1) r_233_14 (n_233_14 _) rfl ?_
      obtain ⟨g5, h⟩ := h
      refine i_icmp (t := 20) r_233_15 (n_233_15 _) rfl (T_lt q4 g5) (fun c6 => ?_) (fun c6 => ?_)
      · replace h := h.1 c6
        refine i_iinc (x := x2) (l' := [(0, rf 252), (1, iv x1), (2, iv (x2 + 16))]) r_233_20 (n_233_20 _) (by decide) rfl rfl ?_
        refine i_goto (t := 2) r_233_23 (n_233_23 _) rfl ?_
        exact wp_pr (l' := [(0, rf 252), (1, iv x1), (2, iv (x2 + 16))]) rfl h
      · replace h := h.2 c6
        refine i_iload_n (x := x2) r_233_18 (n_233_18 _) rfl ?_
        exact i_ireturn r_233_19 (n_233_19 _) rfl h
    · skip
      exact h.elim
theorem r_234_0 : xfetch 234 0 = some (.iload_n 1, 1) := by decide +kernel
theorem n_234_0 : ∀ l, xpr 234 0 l = l := xpr_no (by decide +kernel)
theorem r_234_1 : xfetch 234 1 = some (.istore_n 2, 1) := by decide +kernel
theorem n_234_1 : ∀ l, xpr 234 1 l = l := xpr_no (by decide +kernel)
theorem r_234_2 : xfetch 234 2 = some (.iload_n 2, 1) := by decide +kernel
theorem r_234_3 : xfetch 234 3 = some (.sipush 1024, 3) := by decide +kernel
theorem n_234_3 : ∀ l, xpr 234 3 l = l := xpr_no (by decide +kernel)
theorem r_234_6 : xfetch 234 6 = some (.if_icmp .ge 17, 3) := by decide +kernel
theorem n_234_6 : ∀ l, xpr 234 6 l = l := xpr_no (by decide +kernel)
theorem r_234_9 : xfetch 234 9 = some (.aload_n 0, 1) := by decide +kernel
theorem n_234_9 : ∀ l, xpr 234 9 l = l := xpr_no (by decide +kernel)
theorem r_234_10 : xfetch 234 10 = some (.iload_n 2, 1) := by decide +kernel
theorem n_234_10 : ∀ l, xpr 234 10 l = l := xpr_no (by decide +kernel)
theorem r_234_11 : xfetch 234 11 = some (.invokevirtual 231, 3) := by decide +kernel
theorem n_234_11 : ∀ l, xpr 234 11 l = l := xpr_no (by decide +kernel)
theorem r_234_14 : xfetch 234 14 = some (.ifCond .ne 9, 3) := by decide +kernel
theorem n_234_14 : ∀ l, xpr 234 14 l = l := xpr_no (by decide +kernel)
theorem r_234_17 : xfetch 234 17 = some (.iinc 2 1, 3) := by decide +kernel
theorem n_234_17 : ∀ l, xpr 234 17 l = l := xpr_no (by decide +kernel)
theorem r_234_20 : xfetch 234 20 = some (.goto (-18), 3) := by decide +kernel
theorem n_234_20 : ∀ l, xpr 234 20 l = l := xpr_no (by decide +kernel)
theorem r_234_23 : xfetch 234 23 = some (.iload_n 2, 1) := by decide +kernel
theorem n_234_23 : ∀ l, xpr 234 23 l = l := xpr_no (by decide +kernel)
theorem r_234_24 : xfetch 234 24 = some (.iload_n 1, 1) := by decide +kernel
theorem n_234_24 : ∀ l, xpr 234 24 l = l := xpr_no (by decide +kernel)
theorem r_234_25 : xfetch 234 25 = some (.isub, 1) := by decide +kernel
theorem n_234_25 : ∀ l, xpr 234 25 l = l := xpr_no (by decide +kernel)
theorem r_234_26 : xfetch 234 26 = some (.ireturn, 1) := by decide +kernel
theorem n_234_26 : ∀ l, xpr 234 26 l = l := xpr_no (by decide +kernel)
theorem v_Model_freeFrom_0 {S : Option (Nat × (Nat → Int32))} {s : zSt} {Q : Option Value ⊕ Nat → zSt → Prop} {x1 : Int} 
    (h : wp S 234 2 [(0, rf 252), (1, iv x1), (2, iv x1)] [] s Q) :
    wp S 234 0 [(0, rf 252), (1, iv x1)] [] s Q := by
  refine i_iload_n (x := x1) r_234_0 (n_234_0 _) rfl ?_
  refine i_istore_n (l' := [(0, rf 252), (1, iv x1), (2, iv x1)]) r_234_1 (n_234_1 _) (by decide) rfl ?_
  exact wp_pr (l' := [(0, rf 252), (1, iv x1), (2, iv x1)]) rfl h
theorem v_Model_freeFrom_2 {S : Option (Nat × (Nat → Int32))} {s : zSt} {Q : Option Value ⊕ Nat → zSt → Prop} {x1 : Int} {x2 : Int} 
    (h : rng x2 ∧ ((1024 ≤ x2 → Q (rI (x2 - x1)) s) ∧ (x2 < 1024 → wp S 235 0 [(0, rf 252), (1, iv x2)] [] s (fun o3 s3 => zkI (fun y3 => (y3 ≠ 0 → Q (rI (x2 - x1)) s3) ∧ (y3 = 0 → wp S 234 2 [(0, rf 252), (1, iv x1), (2, iv (x2 + 1))] [] s3 Q)) (fun e3 => False) o3)))) :
    wp S 234 2 [(0, rf 252), (1, iv x1), (2, iv x2)] [] s Q := by
  refine i_iload_n (x := x2) r_234_2 rfl rfl ?_
  refine i_sipush r_234_3 (n_234_3 _) rfl ?_
  obtain ⟨g1, h⟩ := h
  refine i_icmp (t := 23) r_234_6 (n_234_6 _) rfl (T_ge g1 ⟨by omega, by omega⟩) (fun c2 => ?_) (fun c2 => ?_)
  · replace h := h.1 c2
    refine i_iload_n (x := x2) r_234_23 (n_234_23 _) rfl ?_
    refine i_iload_n (x := x1) r_234_24 (n_234_24 _) rfl ?_
    refine i_isub r_234_25 (n_234_25 _) ?_
    exact i_ireturn r_234_26 (n_234_26 _) rfl h
  · replace h := h.2 c2
    refine i_aload_n (a := 252) r_234_9 (n_234_9 _) rfl ?_
    refine i_iload_n (x := x2) r_234_10 (n_234_10 _) rfl ?_
    refine wp_virt (b := 252) (rest := []) (Ls := [(0, rf 252), (1, iv x2)]) r_234_11 (n_234_11 _) rfl ⟨rfl, rfl, by decide, by decide⟩ rfl rfl lf_252 ⟨rfl, Nat.le_of_ble_eq_true rfl, Nat.le_of_ble_eq_true rfl⟩ rfl h ?_
    intro o3 s3 h
    rcases h with ⟨y3, q4, rfl, h⟩ | ⟨e3, rfl, h⟩
    · refine .inl ⟨some (iv y3), rfl, ?_⟩
      show wp S 234 14 [(0, rf 252), (1, iv x1), (2, iv x2)] [iv y3] s3 Q
      refine i_if (t := 23) r_234_14 (n_234_14 _) rfl (T_ne q4 ⟨by omega, by omega⟩) (fun c5 => ?_) (fun c5 => ?_)
      · replace h := h.1 c5
        refine i_iload_n (x := x2) r_234_23 (n_234_23 _) rfl ?_
        refine i_iload_n (x := x1) r_234_24 (n_234_24 _) rfl ?_
        refine i_isub r_234_25 (n_234_25 _) ?_
        exact i_ireturn r_234_26 (n_234_26 _) rfl h
      · replace h := h.2 c5
        refine i_iinc (x := x2) (l' := [(0, rf 252), (1, iv x1), (2, iv (x2 + 1))]) r_234_17 (n_234_17 _) (by decide) rfl rfl ?_
        refine i_goto (t := 2) r_234_20 (n_234_20 _) rfl ?_
        exact wp_pr (l' := [(0, rf 252), (1, iv x1), (2, iv (x2 + 1))]) rfl h
    · skip
      exact h.elim
theorem r_235_0 : xfetch 235 0 = some (.iconst 0, 1) := by decide +kernel
theorem n_235_0 : ∀ l, xpr 235 0 l = l := xpr_no (by decide +kernel)
theorem r_235_1 : xfetch 235 1 = some (.istore_n 2, 1) := by decide +kernel
theorem n_235_1 : ∀ l, xpr 235 1 l = l := xpr_no (by decide +kernel)
theorem r_235_2 : xfetch 235 2 = some (.iconst 0, 1) := by decide +kernel
theorem n_235_2 : ∀ l, xpr 235 2 l = l := xpr_no (by decide +kernel)
theorem r_235_3 : xfetch 235 3 = some (.istore_n 3, 1) := by decide +kernel
theorem n_235_3 : ∀ l, xpr 235 3 l = l := xpr_no (by decide +kernel)
theorem r_235_4 : xfetch 235 4 = some (.iload_n 3, 1) := by decide +kernel
theorem r_235_5 : xfetch 235 5 = some (.iconst 3, 1) := by decide +kernel
theorem n_235_5 : ∀ l, xpr 235 5 l = l := xpr_no (by decide +kernel)
theorem r_235_6 : xfetch 235 6 = some (.if_icmp .ge 54, 3) := by decide +kernel
theorem n_235_6 : ∀ l, xpr 235 6 l = l := xpr_no (by decide +kernel)
theorem r_235_9 : xfetch 235 9 = some (.iload_n 2, 1) := by decide +kernel
theorem n_235_9 : ∀ l, xpr 235 9 l = l := xpr_no (by decide +kernel)
theorem r_235_10 : xfetch 235 10 = some (.ifCond .ne 38, 3) := by decide +kernel
theorem n_235_10 : ∀ l, xpr 235 10 l = l := xpr_no (by decide +kernel)
theorem r_235_13 : xfetch 235 13 = some (.aload_n 0, 1) := by decide +kernel
theorem n_235_13 : ∀ l, xpr 235 13 l = l := xpr_no (by decide +kernel)
theorem r_235_14 : xfetch 235 14 = some (.iload_n 3, 1) := by decide +kernel
theorem n_235_14 : ∀ l, xpr 235 14 l = l := xpr_no (by decide +kernel)
theorem r_235_15 : xfetch 235 15 = some (.invokevirtual 225, 3) := by decide +kernel
theorem n_235_15 : ∀ l, xpr 235 15 l = l := xpr_no (by decide +kernel)
theorem r_235_18 : xfetch 235 18 = some (.ifCond .eq 34, 3) := by decide +kernel
theorem n_235_18 : ∀ l, xpr 235 18 l = l := xpr_no (by decide +kernel)
theorem r_235_21 : xfetch 235 21 = some (.iload_n 1, 1) := by decide +kernel
theorem n_235_21 : ∀ l, xpr 235 21 l = l := xpr_no (by decide +kernel)
theorem r_235_22 : xfetch 235 22 = some (.aload_n 0, 1) := by decide +kernel
theorem n_235_22 : ∀ l, xpr 235 22 l = l := xpr_no (by decide +kernel)
theorem r_235_23 : xfetch 235 23 = some (.iload_n 3, 1) := by decide +kernel
theorem n_235_23 : ∀ l, xpr 235 23 l = l := xpr_no (by decide +kernel)
theorem r_235_24 : xfetch 235 24 = some (.iconst 4, 1) := by decide +kernel
theorem n_235_24 : ∀ l, xpr 235 24 l = l := xpr_no (by decide +kernel)
theorem r_235_25 : xfetch 235 25 = some (.invokevirtual 228, 3) := by decide +kernel
theorem n_235_25 : ∀ l, xpr 235 25 l = l := xpr_no (by decide +kernel)
theorem r_235_28 : xfetch 235 28 = some (.if_icmp .lt 24, 3) := by decide +kernel
theorem n_235_28 : ∀ l, xpr 235 28 l = l := xpr_no (by decide +kernel)
theorem r_235_31 : xfetch 235 31 = some (.iload_n 1, 1) := by decide +kernel
theorem n_235_31 : ∀ l, xpr 235 31 l = l := xpr_no (by decide +kernel)
theorem r_235_32 : xfetch 235 32 = some (.aload_n 0, 1) := by decide +kernel
theorem n_235_32 : ∀ l, xpr 235 32 l = l := xpr_no (by decide +kernel)
theorem r_235_33 : xfetch 235 33 = some (.iload_n 3, 1) := by decide +kernel
theorem n_235_33 : ∀ l, xpr 235 33 l = l := xpr_no (by decide +kernel)
theorem r_235_34 : xfetch 235 34 = some (.iconst 4, 1) := by decide +kernel
theorem n_235_34 : ∀ l, xpr 235 34 l = l := xpr_no (by decide +kernel)
theorem r_235_35 : xfetch 235 35 = some (.invokevirtual 228, 3) := by decide +kernel
theorem n_235_35 : ∀ l, xpr 235 35 l = l := xpr_no (by decide +kernel)
theorem r_235_38 : xfetch 235 38 = some (.aload_n 0, 1) := by decide +kernel
theorem n_235_38 : ∀ l, xpr 235 38 l = l := xpr_no (by decide +kernel)
theorem r_235_39 : xfetch 235 39 = some (.iload_n 3, 1) := by decide +kernel
theorem n_235_39 : ∀ l, xpr 235 39 l = l := xpr_no (by decide +kernel)
theorem r_235_40 : xfetch 235 40 = some (.iconst 5, 1) := by decide +kernel
theorem n_235_40 : ∀ l, xpr 235 40 l = l := xpr_no (by decide +kernel)
theorem r_235_41 : xfetch 235 41 = some (.invokevirtual 228, 3) := by decide +kernel
theorem n_235_41 : ∀ l, xpr 235 41 l = l := xpr_no (by decide +kernel)
theorem r_235_44 : xfetch 235 44 = some (.iadd, 1) := by decide +kernel
theorem n_235_44 : ∀ l, xpr 235 44 l = l := xpr_no (by decide +kernel)
theorem r_235_45 : xfetch 235 45 = some (.if_icmp .ge 7, 3) := by decide +kernel
theorem n_235_45 : ∀ l, xpr 235 45 l = l := xpr_no (by decide +kernel)
theorem r_235_48 : xfetch 235 48 = some (.iconst 1, 1) := by decide +kernel
theorem n_235_48 : ∀ l, xpr 235 48 l = l := xpr_no (by decide +kernel)
theorem r_235_49 : xfetch 235 49 = some (.goto 4, 3) := by decide +kernel
theorem n_235_49 : ∀ l, xpr 235 49 l = l := xpr_no (by decide +kernel)
theorem r_235_52 : xfetch 235 52 = some (.iconst 0, 1) := by decide +kernel
theorem n_235_52 : ∀ l, xpr 235 52 l = l := xpr_no (by decide +kernel)
theorem r_235_53 : xfetch 235 53 = some (.istore_n 2, 1) := by decide +kernel
theorem n_235_53 : ∀ l, xpr 235 53 l = l := xpr_no (by decide +kernel)
theorem r_235_54 : xfetch 235 54 = some (.iinc 3 1, 3) := by decide +kernel
theorem n_235_54 : ∀ l, xpr 235 54 l = l := xpr_no (by decide +kernel)
theorem r_235_57 : xfetch 235 57 = some (.goto (-53), 3) := by decide +kernel
theorem n_235_57 : ∀ l, xpr 235 57 l = l := xpr_no (by decide +kernel)
theorem r_235_60 : xfetch 235 60 = some (.iload_n 2, 1) := by decide +kernel
theorem n_235_60 : ∀ l, xpr 235 60 l = l := xpr_no (by decide +kernel)
theorem r_235_61 : xfetch 235 61 = some (.ireturn, 1) := by decide +kernel
theorem n_235_61 : ∀ l, xpr 235 61 l = l := xpr_no (by decide +kernel)
theorem v_Model_isTaken_0 {S : Option (Nat × (Nat → Int32))} {s : zSt} {Q : Option Value ⊕ Nat → zSt → Prop} {x1 : Int} 
    (h : wp S 235 4 [(0, rf 252), (1, iv x1), (2, iv 0), (3, iv 0)] [] s Q) :
    wp S 235 0 [(0, rf 252), (1, iv x1)] [] s Q := by
  refine i_iconst r_235_0 (n_235_0 _) ?_
  refine i_istore_n (l' := [(0, rf 252), (1, iv x1), (2, iv 0)]) r_235_1 (n_235_1 _) (by decide) rfl ?_
  refine i_iconst r_235_2 (n_235_2 _) ?_
  refine i_istore_n (l' := [(0, rf 252), (1, iv x1), (2, iv 0), (3, iv 0)]) r_235_3 (n_235_3 _) (by decide) rfl ?_
  exact wp_pr (l' := [(0, rf 252), (1, iv x1), (2, iv 0), (3, iv 0)]) rfl h
theorem v_Model_isTaken_4 {S : Option (Nat × (Nat → Int32))} {s : zSt} {Q : Option Value ⊕ Nat → zSt → Prop} {x1 : Int} {x2 : Int} {x3 : Int} 
    (h : rng x3 ∧ ((3 ≤ x3 → (x2 = 0 ∨ x2 = 1) ∧ (Q (rI x2) s)) ∧ (x3 < 3 → rng x2 ∧ ((x2 ≠ 0 → wp S 235 4 [(0, rf 252), (1, iv x1), (2, iv 1), (3, iv (x3 + 1))] [] s Q) ∧ (x2 = 0 → (¬ (0 ≤ x3 ∧ x3 ≤ 2 ∧ zI s 253 (157 + 6 * x3) ≠ -1) → wp S 235 4 [(0, rf 252), (1, iv x1), (2, iv 0), (3, iv (x3 + 1))] [] s Q) ∧ (0 ≤ x3 ∧ x3 ≤ 2 ∧ zI s 253 (157 + 6 * x3) ≠ -1 → (0 ≤ ((157 + (6 * x3)) + 4) ∧ ((157 + (6 * x3)) + 4) < 1199) ∧ (rng x1 ∧ ((x1 < (zI s 253 ((157 + (6 * x3)) + 4)) → wp S 235 4 [(0, rf 252), (1, iv x1), (2, iv 0), (3, iv (x3 + 1))] [] s Q) ∧ ((zI s 253 ((157 + (6 * x3)) + 4)) ≤ x1 → (0 ≤ ((157 + (6 * x3)) + 5) ∧ ((157 + (6 * x3)) + 5) < 1199) ∧ (rng ((zI s 253 ((157 + (6 * x3)) + 4)) + (zI s 253 ((157 + (6 * x3)) + 5))) ∧ ((((zI s 253 ((157 + (6 * x3)) + 4)) + (zI s 253 ((157 + (6 * x3)) + 5))) ≤ x1 → wp S 235 4 [(0, rf 252), (1, iv x1), (2, iv 0), (3, iv (x3 + 1))] [] s Q) ∧ (x1 < ((zI s 253 ((157 + (6 * x3)) + 4)) + (zI s 253 ((157 + (6 * x3)) + 5))) → wp S 235 4 [(0, rf 252), (1, iv x1), (2, iv 1), (3, iv (x3 + 1))] [] s Q)))))))))))) :
    wp S 235 4 [(0, rf 252), (1, iv x1), (2, iv x2), (3, iv x3)] [] s Q := by
  refine i_iload_n (x := x3) r_235_4 rfl rfl ?_
  refine i_iconst r_235_5 (n_235_5 _) ?_
  obtain ⟨g1, h⟩ := h
  refine i_icmp (t := 60) r_235_6 (n_235_6 _) rfl (T_ge g1 ⟨by omega, by omega⟩) (fun c2 => ?_) (fun c2 => ?_)
  · replace h := h.1 c2
    refine i_iload_n (x := x2) r_235_60 (n_235_60 _) rfl ?_
    obtain ⟨g3, h⟩ := h
    exact i_zreturn r_235_61 (n_235_61 _) rfl g3 h
  · replace h := h.2 c2
    refine i_iload_n (x := x2) r_235_9 (n_235_9 _) rfl ?_
    obtain ⟨g4, h⟩ := h
    refine i_if (t := 48) r_235_10 (n_235_10 _) rfl (T_ne g4 ⟨by omega, by omega⟩) (fun c5 => ?_) (fun c5 => ?_)
    · replace h := h.1 c5
      refine i_iconst r_235_48 (n_235_48 _) ?_
      refine i_goto (t := 53) r_235_49 (n_235_49 _) rfl ?_
      refine i_istore_n (l' := [(0, rf 252), (1, iv x1), (2, iv 1), (3, iv x3)]) r_235_53 (n_235_53 _) (by decide) rfl ?_
      refine i_iinc (x := x3) (l' := [(0, rf 252), (1, iv x1), (2, iv 1), (3, iv (x3 + 1))]) r_235_54 (n_235_54 _) (by decide) rfl rfl ?_
      refine i_goto (t := 4) r_235_57 (n_235_57 _) rfl ?_
      exact wp_pr (l' := [(0, rf 252), (1, iv x1), (2, iv 1), (3, iv (x3 + 1))]) rfl h
    · replace h := h.2 c5
      refine i_aload_n (a := 252) r_235_13 (n_235_13 _) rfl ?_
      refine i_iload_n (x := x3) r_235_14 (n_235_14 _) rfl ?_
      refine wp_virt (b := 252) (rest := []) (Ls := [(0, rf 252), (1, iv x3)]) r_235_15 (n_235_15 _) rfl ⟨rfl, rfl, by decide, by decide⟩ rfl rfl lf_252 ⟨rfl, Nat.le_of_ble_eq_true rfl, Nat.le_of_ble_eq_true rfl⟩ rfl (K_Model_isTable g1) ?_
      rintro _ _ ⟨rfl, rfl⟩
      refine .inl ⟨some (iv (bi (0 ≤ x3 ∧ x3 ≤ 2 ∧ zI s 253 (157 + 6 * x3) ≠ -1))), rfl, ?_⟩
      show wp S 235 18 [(0, rf 252), (1, iv x1), (2, iv x2), (3, iv x3)] [iv (bi (0 ≤ x3 ∧ x3 ≤ 2 ∧ zI s 253 (157 + 6 * x3) ≠ -1))] s Q
      refine i_if (t := 52) r_235_18 (n_235_18 _) rfl (TB_eq) (fun c7 => ?_) (fun c7 => ?_)
      · replace h := h.1 c7
        refine i_iconst r_235_52 (n_235_52 _) ?_
        refine i_istore_n (l' := [(0, rf 252), (1, iv x1), (2, iv 0), (3, iv x3)]) r_235_53 (n_235_53 _) (by decide) rfl ?_
        refine i_iinc (x := x3) (l' := [(0, rf 252), (1, iv x1), (2, iv 0), (3, iv (x3 + 1))]) r_235_54 (n_235_54 _) (by decide) rfl rfl ?_
        refine i_goto (t := 4) r_235_57 (n_235_57 _) rfl ?_
        exact wp_pr (l' := [(0, rf 252), (1, iv x1), (2, iv 0), (3, iv (x3 + 1))]) rfl h
      · replace h := h.2 c7
        refine i_iload_n (x := x1) r_235_21 (n_235_21 _) rfl ?_
        refine i_aload_n (a := 252) r_235_22 (n_235_22 _) rfl ?_
        refine i_iload_n (x := x3) r_235_23 (n_235_23 _) rfl ?_
        refine i_iconst r_235_24 (n_235_24 _) ?_
        obtain ⟨g8, h⟩ := h
        refine wp_virt (b := 252) (rest := [iv x1]) (Ls := [(0, rf 252), (1, iv x3), (2, iv 4)]) r_235_25 (n_235_25 _) rfl ⟨rfl, rfl, by decide, by decide⟩ rfl rfl lf_252 ⟨rfl, Nat.le_of_ble_eq_true rfl, Nat.le_of_ble_eq_true rfl⟩ rfl (K_Model_of g8) ?_
        rintro _ _ ⟨rfl, rfl⟩
        refine .inl ⟨some (iv (zI s 253 ((157 + (6 * x3)) + 4))), rfl, ?_⟩
        show wp S 235 28 [(0, rf 252), (1, iv x1), (2, iv x2), (3, iv x3)] [iv (zI s 253 ((157 + (6 * x3)) + 4)), iv x1] s Q
        refine wp_rd (a := 253) (j := ((157 + (6 * x3)) + 4)) (fun q10 => ?_)
        obtain ⟨g11, h⟩ := h
        refine i_icmp (t := 52) r_235_28 (n_235_28 _) rfl (T_lt g11 q10) (fun c12 => ?_) (fun c12 => ?_)
        · replace h := h.1 c12
          refine i_iconst r_235_52 (n_235_52 _) ?_
          refine i_istore_n (l' := [(0, rf 252), (1, iv x1), (2, iv 0), (3, iv x3)]) r_235_53 (n_235_53 _) (by decide) rfl ?_
          refine i_iinc (x := x3) (l' := [(0, rf 252), (1, iv x1), (2, iv 0), (3, iv (x3 + 1))]) r_235_54 (n_235_54 _) (by decide) rfl rfl ?_
          refine i_goto (t := 4) r_235_57 (n_235_57 _) rfl ?_
          exact wp_pr (l' := [(0, rf 252), (1, iv x1), (2, iv 0), (3, iv (x3 + 1))]) rfl h
        · replace h := h.2 c12
          refine i_iload_n (x := x1) r_235_31 (n_235_31 _) rfl ?_
          refine i_aload_n (a := 252) r_235_32 (n_235_32 _) rfl ?_
          refine i_iload_n (x := x3) r_235_33 (n_235_33 _) rfl ?_
          refine i_iconst r_235_34 (n_235_34 _) ?_
          refine wp_virt (b := 252) (rest := [iv x1]) (Ls := [(0, rf 252), (1, iv x3), (2, iv 4)]) r_235_35 (n_235_35 _) rfl ⟨rfl, rfl, by decide, by decide⟩ rfl rfl lf_252 ⟨rfl, Nat.le_of_ble_eq_true rfl, Nat.le_of_ble_eq_true rfl⟩ rfl (K_Model_of g8) ?_
          rintro _ _ ⟨rfl, rfl⟩
          refine .inl ⟨some (iv (zI s 253 ((157 + (6 * x3)) + 4))), rfl, ?_⟩
          show wp S 235 38 [(0, rf 252), (1, iv x1), (2, iv x2), (3, iv x3)] [iv (zI s 253 ((157 + (6 * x3)) + 4)), iv x1] s Q
          refine i_aload_n (a := 252) r_235_38 (n_235_38 _) rfl ?_
          refine i_iload_n (x := x3) r_235_39 (n_235_39 _) rfl ?_
          refine i_iconst r_235_40 (n_235_40 _) ?_
          obtain ⟨g15, h⟩ := h
          refine wp_virt (b := 252) (rest := [iv (zI s 253 ((157 + (6 * x3)) + 4)), iv x1]) (Ls := [(0, rf 252), (1, iv x3), (2, iv 5)]) r_235_41 (n_235_41 _) rfl ⟨rfl, rfl, by decide, by decide⟩ rfl rfl lf_252 ⟨rfl, Nat.le_of_ble_eq_true rfl, Nat.le_of_ble_eq_true rfl⟩ rfl (K_Model_of g15) ?_
          rintro _ _ ⟨rfl, rfl⟩
          refine .inl ⟨some (iv (zI s 253 ((157 + (6 * x3)) + 5))), rfl, ?_⟩
          show wp S 235 44 [(0, rf 252), (1, iv x1), (2, iv x2), (3, iv x3)] [iv (zI s 253 ((157 + (6 * x3)) + 5)), iv (zI s 253 ((157 + (6 * x3)) + 4)), iv x1] s Q
          refine wp_rd (a := 253) (j := ((157 + (6 * x3)) + 5)) (fun q17 => ?_)
          refine i_iadd r_235_44 (n_235_44 _) ?_
          obtain ⟨g18, h⟩ := h
          refine i_icmp (t := 52) r_235_45 (n_235_45 _) rfl (T_ge g11 g18) (fun c19 => ?_) (fun c19 => ?_)
          · replace h := h.1 c19
            refine i_iconst r_235_52 (n_235_52 _) ?_
            refine i_istore_n (l' := [(0, rf 252), (1, iv x1), (2, iv 0), (3, iv x3)]) r_235_53 (n_235_53 _) (by decide) rfl ?_
            refine i_iinc (x := x3) (l' := [(0, rf 252), (1, iv x1), (2, iv 0), (3, iv (x3 + 1))]) r_235_54 (n_235_54 _) (by decide) rfl rfl ?_
            refine i_goto (t := 4) r_235_57 (n_235_57 _) rfl ?_
            exact wp_pr (l' := [(0, rf 252), (1, iv x1), (2, iv 0), (3, iv (x3 + 1))]) rfl h
          · replace h := h.2 c19
            refine i_iconst r_235_48 (n_235_48 _) ?_
            refine i_goto (t := 53) r_235_49 (n_235_49 _) rfl ?_
            refine i_istore_n (l' := [(0, rf 252), (1, iv x1), (2, iv 1), (3, iv x3)]) r_235_53 (n_235_53 _) (by decide) rfl ?_
            refine i_iinc (x := x3) (l' := [(0, rf 252), (1, iv x1), (2, iv 1), (3, iv (x3 + 1))]) r_235_54 (n_235_54 _) (by decide) rfl rfl ?_
            refine i_goto (t := 4) r_235_57 (n_235_57 _) rfl ?_
            exact wp_pr (l' := [(0, rf 252), (1, iv x1), (2, iv 1), (3, iv (x3 + 1))]) rfl h
theorem r_237_0 : xfetch 237 0 = some (.sipush 157, 3) := by decide +kernel
theorem n_237_0 : ∀ l, xpr 237 0 l = l := xpr_no (by decide +kernel)
theorem r_237_3 : xfetch 237 3 = some (.bipush 6, 2) := by decide +kernel
theorem n_237_3 : ∀ l, xpr 237 3 l = l := xpr_no (by decide +kernel)
theorem r_237_5 : xfetch 237 5 = some (.iload_n 1, 1) := by decide +kernel
theorem n_237_5 : ∀ l, xpr 237 5 l = l := xpr_no (by decide +kernel)
theorem r_237_6 : xfetch 237 6 = some (.imul, 1) := by decide +kernel
theorem n_237_6 : ∀ l, xpr 237 6 l = l := xpr_no (by decide +kernel)
theorem r_237_7 : xfetch 237 7 = some (.iadd, 1) := by decide +kernel
theorem n_237_7 : ∀ l, xpr 237 7 l = l := xpr_no (by decide +kernel)
theorem r_237_8 : xfetch 237 8 = some (.istore 7, 2) := by decide +kernel
theorem n_237_8 : ∀ l, xpr 237 8 l = l := xpr_no (by decide +kernel)
theorem r_237_10 : xfetch 237 10 = some (.aload_n 0, 1) := by decide +kernel
theorem n_237_10 : ∀ l, xpr 237 10 l = l := xpr_no (by decide +kernel)
theorem r_237_11 : xfetch 237 11 = some (.getfield 7, 3) := by decide +kernel
theorem n_237_11 : ∀ l, xpr 237 11 l = l := xpr_no (by decide +kernel)
theorem r_237_14 : xfetch 237 14 = some (.iload 7, 2) := by decide +kernel
theorem n_237_14 : ∀ l, xpr 237 14 l = l := xpr_no (by decide +kernel)
theorem r_237_16 : xfetch 237 16 = some (.iload_n 2, 1) := by decide +kernel
theorem n_237_16 : ∀ l, xpr 237 16 l = l := xpr_no (by decide +kernel)
theorem r_237_17 : xfetch 237 17 = some (.iastore, 1) := by decide +kernel
theorem n_237_17 : ∀ l, xpr 237 17 l = l := xpr_no (by decide +kernel)
theorem r_237_18 : xfetch 237 18 = some (.aload_n 0, 1) := by decide +kernel
theorem n_237_18 : ∀ l, xpr 237 18 l = l := xpr_no (by decide +kernel)
theorem r_237_19 : xfetch 237 19 = some (.getfield 7, 3) := by decide +kernel
theorem n_237_19 : ∀ l, xpr 237 19 l = l := xpr_no (by decide +kernel)
theorem r_237_22 : xfetch 237 22 = some (.iload 7, 2) := by decide +kernel
theorem n_237_22 : ∀ l, xpr 237 22 l = l := xpr_no (by decide +kernel)
theorem r_237_24 : xfetch 237 24 = some (.iconst 1, 1) := by decide +kernel
theorem n_237_24 : ∀ l, xpr 237 24 l = l := xpr_no (by decide +kernel)
theorem r_237_25 : xfetch 237 25 = some (.iadd, 1) := by decide +kernel
theorem n_237_25 : ∀ l, xpr 237 25 l = l := xpr_no (by decide +kernel)
theorem r_237_26 : xfetch 237 26 = some (.iload_n 3, 1) := by decide +kernel
theorem n_237_26 : ∀ l, xpr 237 26 l = l := xpr_no (by decide +kernel)
theorem r_237_27 : xfetch 237 27 = some (.iastore, 1) := by decide +kernel
theorem n_237_27 : ∀ l, xpr 237 27 l = l := xpr_no (by decide +kernel)
theorem r_237_28 : xfetch 237 28 = some (.aload_n 0, 1) := by decide +kernel
theorem n_237_28 : ∀ l, xpr 237 28 l = l := xpr_no (by decide +kernel)
theorem r_237_29 : xfetch 237 29 = some (.getfield 7, 3) := by decide +kernel
theorem n_237_29 : ∀ l, xpr 237 29 l = l := xpr_no (by decide +kernel)
theorem r_237_32 : xfetch 237 32 = some (.iload 7, 2) := by decide +kernel
theorem n_237_32 : ∀ l, xpr 237 32 l = l := xpr_no (by decide +kernel)
theorem r_237_34 : xfetch 237 34 = some (.iconst 2, 1) := by decide +kernel
theorem n_237_34 : ∀ l, xpr 237 34 l = l := xpr_no (by decide +kernel)
theorem r_237_35 : xfetch 237 35 = some (.iadd, 1) := by decide +kernel
theorem n_237_35 : ∀ l, xpr 237 35 l = l := xpr_no (by decide +kernel)
theorem r_237_36 : xfetch 237 36 = some (.iload 4, 2) := by decide +kernel
theorem n_237_36 : ∀ l, xpr 237 36 l = l := xpr_no (by decide +kernel)
theorem r_237_38 : xfetch 237 38 = some (.iastore, 1) := by decide +kernel
theorem n_237_38 : ∀ l, xpr 237 38 l = l := xpr_no (by decide +kernel)
theorem r_237_39 : xfetch 237 39 = some (.aload_n 0, 1) := by decide +kernel
theorem n_237_39 : ∀ l, xpr 237 39 l = l := xpr_no (by decide +kernel)
theorem r_237_40 : xfetch 237 40 = some (.getfield 7, 3) := by decide +kernel
theorem n_237_40 : ∀ l, xpr 237 40 l = l := xpr_no (by decide +kernel)
theorem r_237_43 : xfetch 237 43 = some (.iload 7, 2) := by decide +kernel
theorem n_237_43 : ∀ l, xpr 237 43 l = l := xpr_no (by decide +kernel)
theorem r_237_45 : xfetch 237 45 = some (.iconst 3, 1) := by decide +kernel
theorem n_237_45 : ∀ l, xpr 237 45 l = l := xpr_no (by decide +kernel)
theorem r_237_46 : xfetch 237 46 = some (.iadd, 1) := by decide +kernel
theorem n_237_46 : ∀ l, xpr 237 46 l = l := xpr_no (by decide +kernel)
theorem r_237_47 : xfetch 237 47 = some (.iload 5, 2) := by decide +kernel
theorem n_237_47 : ∀ l, xpr 237 47 l = l := xpr_no (by decide +kernel)
theorem r_237_49 : xfetch 237 49 = some (.iastore, 1) := by decide +kernel
theorem n_237_49 : ∀ l, xpr 237 49 l = l := xpr_no (by decide +kernel)
theorem r_237_50 : xfetch 237 50 = some (.aload_n 0, 1) := by decide +kernel
theorem n_237_50 : ∀ l, xpr 237 50 l = l := xpr_no (by decide +kernel)
theorem r_237_51 : xfetch 237 51 = some (.getfield 7, 3) := by decide +kernel
theorem n_237_51 : ∀ l, xpr 237 51 l = l := xpr_no (by decide +kernel)
theorem r_237_54 : xfetch 237 54 = some (.iload 7, 2) := by decide +kernel
theorem n_237_54 : ∀ l, xpr 237 54 l = l := xpr_no (by decide +kernel)
theorem r_237_56 : xfetch 237 56 = some (.iconst 4, 1) := by decide +kernel
theorem n_237_56 : ∀ l, xpr 237 56 l = l := xpr_no (by decide +kernel)
theorem r_237_57 : xfetch 237 57 = some (.iadd, 1) := by decide +kernel
theorem n_237_57 : ∀ l, xpr 237 57 l = l := xpr_no (by decide +kernel)
theorem r_237_58 : xfetch 237 58 = some (.iload 6, 2) := by decide +kernel
theorem n_237_58 : ∀ l, xpr 237 58 l = l := xpr_no (by decide +kernel)
theorem r_237_60 : xfetch 237 60 = some (.iastore, 1) := by decide +kernel
theorem n_237_60 : ∀ l, xpr 237 60 l = l := xpr_no (by decide +kernel)
theorem r_237_61 : xfetch 237 61 = some (.aload_n 0, 1) := by decide +kernel
theorem n_237_61 : ∀ l, xpr 237 61 l = l := xpr_no (by decide +kernel)
theorem r_237_62 : xfetch 237 62 = some (.getfield 7, 3) := by decide +kernel
theorem n_237_62 : ∀ l, xpr 237 62 l = l := xpr_no (by decide +kernel)
theorem r_237_65 : xfetch 237 65 = some (.iload 7, 2) := by decide +kernel
theorem n_237_65 : ∀ l, xpr 237 65 l = l := xpr_no (by decide +kernel)
theorem r_237_67 : xfetch 237 67 = some (.iconst 5, 1) := by decide +kernel
theorem n_237_67 : ∀ l, xpr 237 67 l = l := xpr_no (by decide +kernel)
theorem r_237_68 : xfetch 237 68 = some (.iadd, 1) := by decide +kernel
theorem n_237_68 : ∀ l, xpr 237 68 l = l := xpr_no (by decide +kernel)
theorem r_237_69 : xfetch 237 69 = some (.aload_n 0, 1) := by decide +kernel
theorem n_237_69 : ∀ l, xpr 237 69 l = l := xpr_no (by decide +kernel)
theorem r_237_70 : xfetch 237 70 = some (.iload_n 2, 1) := by decide +kernel
theorem n_237_70 : ∀ l, xpr 237 70 l = l := xpr_no (by decide +kernel)
theorem r_237_71 : xfetch 237 71 = some (.iload_n 3, 1) := by decide +kernel
theorem n_237_71 : ∀ l, xpr 237 71 l = l := xpr_no (by decide +kernel)
theorem r_237_72 : xfetch 237 72 = some (.iload 4, 2) := by decide +kernel
theorem n_237_72 : ∀ l, xpr 237 72 l = l := xpr_no (by decide +kernel)
theorem r_237_74 : xfetch 237 74 = some (.invokevirtual 237, 3) := by decide +kernel
theorem n_237_74 : ∀ l, xpr 237 74 l = l := xpr_no (by decide +kernel)
theorem r_237_77 : xfetch 237 77 = some (.iastore, 1) := by decide +kernel
theorem n_237_77 : ∀ l, xpr 237 77 l = l := xpr_no (by decide +kernel)
theorem r_237_78 : xfetch 237 78 = some (.iconst 0, 1) := by decide +kernel
theorem n_237_78 : ∀ l, xpr 237 78 l = l := xpr_no (by decide +kernel)
theorem r_237_79 : xfetch 237 79 = some (.istore 8, 2) := by decide +kernel
theorem n_237_79 : ∀ l, xpr 237 79 l = l := xpr_no (by decide +kernel)
theorem r_237_81 : xfetch 237 81 = some (.iload 8, 2) := by decide +kernel
theorem r_237_83 : xfetch 237 83 = some (.aload_n 0, 1) := by decide +kernel
theorem n_237_83 : ∀ l, xpr 237 83 l = l := xpr_no (by decide +kernel)
theorem r_237_84 : xfetch 237 84 = some (.getfield 7, 3) := by decide +kernel
theorem n_237_84 : ∀ l, xpr 237 84 l = l := xpr_no (by decide +kernel)
theorem r_237_87 : xfetch 237 87 = some (.iload 7, 2) := by decide +kernel
theorem n_237_87 : ∀ l, xpr 237 87 l = l := xpr_no (by decide +kernel)
theorem r_237_89 : xfetch 237 89 = some (.iconst 5, 1) := by decide +kernel
theorem n_237_89 : ∀ l, xpr 237 89 l = l := xpr_no (by decide +kernel)
theorem r_237_90 : xfetch 237 90 = some (.iadd, 1) := by decide +kernel
theorem n_237_90 : ∀ l, xpr 237 90 l = l := xpr_no (by decide +kernel)
theorem r_237_91 : xfetch 237 91 = some (.iaload, 1) := by decide +kernel
theorem n_237_91 : ∀ l, xpr 237 91 l = l := xpr_no (by decide +kernel)
theorem r_237_92 : xfetch 237 92 = some (.if_icmp .ge 24, 3) := by decide +kernel
theorem n_237_92 : ∀ l, xpr 237 92 l = l := xpr_no (by decide +kernel)
theorem r_237_95 : xfetch 237 95 = some (.aload_n 0, 1) := by decide +kernel
theorem n_237_95 : ∀ l, xpr 237 95 l = l := xpr_no (by decide +kernel)
theorem r_237_96 : xfetch 237 96 = some (.getfield 7, 3) := by decide +kernel
theorem n_237_96 : ∀ l, xpr 237 96 l = l := xpr_no (by decide +kernel)
theorem r_237_99 : xfetch 237 99 = some (.sipush 175, 3) := by decide +kernel
theorem n_237_99 : ∀ l, xpr 237 99 l = l := xpr_no (by decide +kernel)
theorem r_237_102 : xfetch 237 102 = some (.iload 6, 2) := by decide +kernel
theorem n_237_102 : ∀ l, xpr 237 102 l = l := xpr_no (by decide +kernel)
theorem r_237_104 : xfetch 237 104 = some (.iadd, 1) := by decide +kernel
theorem n_237_104 : ∀ l, xpr 237 104 l = l := xpr_no (by decide +kernel)
theorem r_237_105 : xfetch 237 105 = some (.iload 8, 2) := by decide +kernel
theorem n_237_105 : ∀ l, xpr 237 105 l = l := xpr_no (by decide +kernel)
theorem r_237_107 : xfetch 237 107 = some (.iadd, 1) := by decide +kernel
theorem n_237_107 : ∀ l, xpr 237 107 l = l := xpr_no (by decide +kernel)
theorem r_237_108 : xfetch 237 108 = some (.iconst 0, 1) := by decide +kernel
theorem n_237_108 : ∀ l, xpr 237 108 l = l := xpr_no (by decide +kernel)
theorem r_237_109 : xfetch 237 109 = some (.iastore, 1) := by decide +kernel
theorem n_237_109 : ∀ l, xpr 237 109 l = l := xpr_no (by decide +kernel)
theorem r_237_110 : xfetch 237 110 = some (.iinc 8 1, 3) := by decide +kernel
theorem n_237_110 : ∀ l, xpr 237 110 l = l := xpr_no (by decide +kernel)
theorem r_237_113 : xfetch 237 113 = some (.goto (-32), 3) := by decide +kernel
theorem n_237_113 : ∀ l, xpr 237 113 l = l := xpr_no (by decide +kernel)
theorem r_237_116 : xfetch 237 116 = some (.return_, 1) := by decide +kernel
theorem n_237_116 : ∀ l, xpr 237 116 l = l := xpr_no (by decide +kernel)
theorem v_Model_stands_0 {S : Option (Nat × (Nat → Int32))} {s : zSt} {Q : Option Value ⊕ Nat → zSt → Prop} {x1 : Int} {x2 : Int} {x3 : Int} {x4 : Int} {x5 : Int} {x6 : Int} 
    (h : (0 ≤ (157 + (6 * x1)) ∧ (157 + (6 * x1)) < 1199) ∧ (rng x2 ∧ ((0 ≤ ((157 + (6 * x1)) + 1) ∧ ((157 + (6 * x1)) + 1) < 1199) ∧ (rng x3 ∧ ((0 ≤ ((157 + (6 * x1)) + 2) ∧ ((157 + (6 * x1)) + 2) < 1199) ∧ (rng x4 ∧ ((0 ≤ ((157 + (6 * x1)) + 3) ∧ ((157 + (6 * x1)) + 3) < 1199) ∧ (rng x5 ∧ ((0 ≤ ((157 + (6 * x1)) + 4) ∧ ((157 + (6 * x1)) + 4) < 1199) ∧ (rng x6 ∧ (wp S 230 0 [(0, rf 252), (1, iv x2), (2, iv x3), (3, iv x4)] [] (zwI (zwI (zwI (zwI (zwI s 253 (157 + (6 * x1)) x2) 253 ((157 + (6 * x1)) + 1) x3) 253 ((157 + (6 * x1)) + 2) x4) 253 ((157 + (6 * x1)) + 3) x5) 253 ((157 + (6 * x1)) + 4) x6) (fun o11 s11 => zkI (fun y11 => (0 ≤ ((157 + (6 * x1)) + 5) ∧ ((157 + (6 * x1)) + 5) < 1199) ∧ (wp S 237 81 [(0, rf 252), (6, iv x6), (7, iv (157 + (6 * x1))), (8, iv 0)] [] (zwI s11 253 ((157 + (6 * x1)) + 5) y11) Q)) (fun e11 => False) o11)))))))))))) :
    wp S 237 0 [(0, rf 252), (1, iv x1), (2, iv x2), (3, iv x3), (4, iv x4), (5, iv x5), (6, iv x6)] [] s Q := by
  refine i_sipush r_237_0 (n_237_0 _) rfl ?_
  refine i_bipush r_237_3 (n_237_3 _) rfl ?_
  refine i_iload_n (x := x1) r_237_5 (n_237_5 _) rfl ?_
  refine i_imul r_237_6 (n_237_6 _) ?_
  refine i_iadd r_237_7 (n_237_7 _) ?_
  refine i_istore (l' := [(0, rf 252), (1, iv x1), (2, iv x2), (3, iv x3), (4, iv x4), (5, iv x5), (6, iv x6), (7, iv (157 + (6 * x1)))]) r_237_8 (n_237_8 _) (by decide) rfl ?_
  refine i_aload_n (a := 252) r_237_10 (n_237_10 _) rfl ?_
  refine i_getR (a := 252) (b := 253) r_237_11 (n_237_11 _) rfl rfl rfl (by omega) lf_252 (by omega) ?_
  refine i_iload (x := 157 + (6 * x1)) r_237_14 (n_237_14 _) rfl ?_
  refine i_iload_n (x := x2) r_237_16 (n_237_16 _) rfl ?_
  obtain ⟨g1, h⟩ := h
  obtain ⟨g2, h⟩ := h
  refine i_iastore (a := 253) (j := 157 + (6 * x1)) (x := x2) r_237_17 (n_237_17 _) lf_253 ⟨by omega, by omega⟩ (by omega) (by omega) g2 ?_
  refine i_aload_n (a := 252) r_237_18 (n_237_18 _) rfl ?_
  refine i_getR (a := 252) (b := 253) r_237_19 (n_237_19 _) rfl rfl rfl (by omega) lf_252 (by omega) ?_
  refine i_iload (x := 157 + (6 * x1)) r_237_22 (n_237_22 _) rfl ?_
  refine i_iconst r_237_24 (n_237_24 _) ?_
  refine i_iadd r_237_25 (n_237_25 _) ?_
  refine i_iload_n (x := x3) r_237_26 (n_237_26 _) rfl ?_
  obtain ⟨g3, h⟩ := h
  obtain ⟨g4, h⟩ := h
  refine i_iastore (a := 253) (j := (157 + (6 * x1)) + 1) (x := x3) r_237_27 (n_237_27 _) lf_253 ⟨by omega, by omega⟩ (by omega) (by omega) g4 ?_
  refine i_aload_n (a := 252) r_237_28 (n_237_28 _) rfl ?_
  refine i_getR (a := 252) (b := 253) r_237_29 (n_237_29 _) rfl rfl rfl (by omega) lf_252 (by omega) ?_
  refine i_iload (x := 157 + (6 * x1)) r_237_32 (n_237_32 _) rfl ?_
  refine i_iconst r_237_34 (n_237_34 _) ?_
  refine i_iadd r_237_35 (n_237_35 _) ?_
  refine i_iload (x := x4) r_237_36 (n_237_36 _) rfl ?_
  obtain ⟨g5, h⟩ := h
  obtain ⟨g6, h⟩ := h
  refine i_iastore (a := 253) (j := (157 + (6 * x1)) + 2) (x := x4) r_237_38 (n_237_38 _) lf_253 ⟨by omega, by omega⟩ (by omega) (by omega) g6 ?_
  refine i_aload_n (a := 252) r_237_39 (n_237_39 _) rfl ?_
  refine i_getR (a := 252) (b := 253) r_237_40 (n_237_40 _) rfl rfl rfl (by omega) lf_252 (by omega) ?_
  refine i_iload (x := 157 + (6 * x1)) r_237_43 (n_237_43 _) rfl ?_
  refine i_iconst r_237_45 (n_237_45 _) ?_
  refine i_iadd r_237_46 (n_237_46 _) ?_
  refine i_iload (x := x5) r_237_47 (n_237_47 _) rfl ?_
  obtain ⟨g7, h⟩ := h
  obtain ⟨g8, h⟩ := h
  refine i_iastore (a := 253) (j := (157 + (6 * x1)) + 3) (x := x5) r_237_49 (n_237_49 _) lf_253 ⟨by omega, by omega⟩ (by omega) (by omega) g8 ?_
  refine i_aload_n (a := 252) r_237_50 (n_237_50 _) rfl ?_
  refine i_getR (a := 252) (b := 253) r_237_51 (n_237_51 _) rfl rfl rfl (by omega) lf_252 (by omega) ?_
  refine i_iload (x := 157 + (6 * x1)) r_237_54 (n_237_54 _) rfl ?_
  refine i_iconst r_237_56 (n_237_56 _) ?_
  refine i_iadd r_237_57 (n_237_57 _) ?_
  refine i_iload (x := x6) r_237_58 (n_237_58 _) rfl ?_
  obtain ⟨g9, h⟩ := h
  obtain ⟨g10, h⟩ := h
  refine i_iastore (a := 253) (j := (157 + (6 * x1)) + 4) (x := x6) r_237_60 (n_237_60 _) lf_253 ⟨by omega, by omega⟩ (by omega) (by omega) g10 ?_
  refine i_aload_n (a := 252) r_237_61 (n_237_61 _) rfl ?_
  refine i_getR (a := 252) (b := 253) r_237_62 (n_237_62 _) rfl rfl rfl (by omega) lf_252 (by omega) ?_
  refine i_iload (x := 157 + (6 * x1)) r_237_65 (n_237_65 _) rfl ?_
  refine i_iconst r_237_67 (n_237_67 _) ?_
  refine i_iadd r_237_68 (n_237_68 _) ?_
  refine i_aload_n (a := 252) r_237_69 (n_237_69 _) rfl ?_
  refine i_iload_n (x := x2) r_237_70 (n_237_70 _) rfl ?_
  refine i_iload_n (x := x3) r_237_71 (n_237_71 _) rfl ?_
  refine i_iload (x := x4) r_237_72 (n_237_72 _) rfl ?_
  refine wp_virt (b := 252) (rest := [iv ((157 + (6 * x1)) + 5), rf 253]) (Ls := [(0, rf 252), (1, iv x2), (2, iv x3), (3, iv x4)]) r_237_74 (n_237_74 _) rfl ⟨rfl, rfl, by decide, by decide⟩ rfl rfl lf_252 ⟨rfl, Nat.le_of_ble_eq_true rfl, Nat.le_of_ble_eq_true rfl⟩ rfl h ?_
  intro o11 s11 h
  rcases h with ⟨y11, q12, rfl, h⟩ | ⟨e11, rfl, h⟩
  · refine .inl ⟨some (iv y11), rfl, ?_⟩
    show wp S 237 77 [(0, rf 252), (1, iv x1), (2, iv x2), (3, iv x3), (4, iv x4), (5, iv x5), (6, iv x6), (7, iv (157 + (6 * x1)))] [iv y11, iv ((157 + (6 * x1)) + 5), rf 253] s11 Q
    obtain ⟨g13, h⟩ := h
    refine i_iastore (a := 253) (j := (157 + (6 * x1)) + 5) (x := y11) r_237_77 (n_237_77 _) lf_253 ⟨by omega, by omega⟩ (by omega) (by omega) q12 ?_
    refine i_iconst r_237_78 (n_237_78 _) ?_
    refine i_istore (l' := [(0, rf 252), (1, iv x1), (2, iv x2), (3, iv x3), (4, iv x4), (5, iv x5), (6, iv x6), (7, iv (157 + (6 * x1))), (8, iv 0)]) r_237_79 (n_237_79 _) (by decide) rfl ?_
    exact wp_pr (l' := [(0, rf 252), (6, iv x6), (7, iv (157 + (6 * x1))), (8, iv 0)]) rfl h
  · skip
    exact h.elim
theorem v_Model_stands_81 {S : Option (Nat × (Nat → Int32))} {s : zSt} {Q : Option Value ⊕ Nat → zSt → Prop} {x6 : Int} {x7 : Int} {x8 : Int} 
    (h : (0 ≤ (x7 + 5) ∧ (x7 + 5) < 1199) ∧ (rng x8 ∧ (((zI s 253 (x7 + 5)) ≤ x8 → Q rU s) ∧ (x8 < (zI s 253 (x7 + 5)) → (0 ≤ ((175 + x6) + x8) ∧ ((175 + x6) + x8) < 1199) ∧ (wp S 237 81 [(0, rf 252), (6, iv x6), (7, iv x7), (8, iv (x8 + 1))] [] (zwI s 253 ((175 + x6) + x8) 0) Q))))) :
    wp S 237 81 [(0, rf 252), (6, iv x6), (7, iv x7), (8, iv x8)] [] s Q := by
  refine i_iload (x := x8) r_237_81 rfl rfl ?_
  refine i_aload_n (a := 252) r_237_83 (n_237_83 _) rfl ?_
  refine i_getR (a := 252) (b := 253) r_237_84 (n_237_84 _) rfl rfl rfl (by omega) lf_252 (by omega) ?_
  refine i_iload (x := x7) r_237_87 (n_237_87 _) rfl ?_
  refine i_iconst r_237_89 (n_237_89 _) ?_
  refine i_iadd r_237_90 (n_237_90 _) ?_
  obtain ⟨g1, h⟩ := h
  refine i_iaload (a := 253) (j := x7 + 5) r_237_91 (n_237_91 _) lf_253 ⟨by omega, by omega⟩ (by omega) (by omega) (fun q2 => ?_)
  obtain ⟨g3, h⟩ := h
  refine i_icmp (t := 116) r_237_92 (n_237_92 _) rfl (T_ge g3 q2) (fun c4 => ?_) (fun c4 => ?_)
  · replace h := h.1 c4
    exact i_return r_237_116 (n_237_116 _) rfl h
  · replace h := h.2 c4
    refine i_aload_n (a := 252) r_237_95 (n_237_95 _) rfl ?_
    refine i_getR (a := 252) (b := 253) r_237_96 (n_237_96 _) rfl rfl rfl (by omega) lf_252 (by omega) ?_
    refine i_sipush r_237_99 (n_237_99 _) rfl ?_
    refine i_iload (x := x6) r_237_102 (n_237_102 _) rfl ?_
    refine i_iadd r_237_104 (n_237_104 _) ?_
    refine i_iload (x := x8) r_237_105 (n_237_105 _) rfl ?_
    refine i_iadd r_237_107 (n_237_107 _) ?_
    refine i_iconst r_237_108 (n_237_108 _) ?_
    obtain ⟨g5, h⟩ := h
    refine i_iastore (a := 253) (j := (175 + x6) + x8) (x := 0) r_237_109 (n_237_109 _) lf_253 ⟨by omega, by omega⟩ (by omega) (by omega) ⟨by omega, by omega⟩ ?_
    refine i_iinc (x := x8) (l' := [(0, rf 252), (6, iv x6), (7, iv x7), (8, iv (x8 + 1))]) r_237_110 (n_237_110 _) (by decide) rfl rfl ?_
    refine i_goto (t := 81) r_237_113 (n_237_113 _) rfl ?_
    exact wp_pr (l' := [(0, rf 252), (6, iv x6), (7, iv x7), (8, iv (x8 + 1))]) rfl h
theorem r_238_0 : xfetch 238 0 = some (.aload_n 0, 1) := by decide +kernel
theorem n_238_0 : ∀ l, xpr 238 0 l = l := xpr_no (by decide +kernel)
theorem r_238_1 : xfetch 238 1 = some (.aload_n 0, 1) := by decide +kernel
theorem n_238_1 : ∀ l, xpr 238 1 l = l := xpr_no (by decide +kernel)
theorem r_238_2 : xfetch 238 2 = some (.aload_n 0, 1) := by decide +kernel
theorem n_238_2 : ∀ l, xpr 238 2 l = l := xpr_no (by decide +kernel)
theorem r_238_3 : xfetch 238 3 = some (.iload_n 1, 1) := by decide +kernel
theorem n_238_3 : ∀ l, xpr 238 3 l = l := xpr_no (by decide +kernel)
theorem r_238_4 : xfetch 238 4 = some (.invokevirtual 225, 3) := by decide +kernel
theorem n_238_4 : ∀ l, xpr 238 4 l = l := xpr_no (by decide +kernel)
theorem r_238_7 : xfetch 238 7 = some (.invokevirtual 175, 3) := by decide +kernel
theorem n_238_7 : ∀ l, xpr 238 7 l = l := xpr_no (by decide +kernel)
theorem r_238_10 : xfetch 238 10 = some (.invokevirtual 84, 3) := by decide +kernel
theorem n_238_10 : ∀ l, xpr 238 10 l = l := xpr_no (by decide +kernel)
theorem r_238_13 : xfetch 238 13 = some (.ifCond .eq 5, 3) := by decide +kernel
theorem n_238_13 : ∀ l, xpr 238 13 l = l := xpr_no (by decide +kernel)
theorem r_238_16 : xfetch 238 16 = some (.iconst 0, 1) := by decide +kernel
theorem n_238_16 : ∀ l, xpr 238 16 l = l := xpr_no (by decide +kernel)
theorem r_238_17 : xfetch 238 17 = some (.ireturn, 1) := by decide +kernel
theorem n_238_17 : ∀ l, xpr 238 17 l = l := xpr_no (by decide +kernel)
theorem r_238_18 : xfetch 238 18 = some (.aload_n 0, 1) := by decide +kernel
theorem n_238_18 : ∀ l, xpr 238 18 l = l := xpr_no (by decide +kernel)
theorem r_238_19 : xfetch 238 19 = some (.invokevirtual 135, 3) := by decide +kernel
theorem n_238_19 : ∀ l, xpr 238 19 l = l := xpr_no (by decide +kernel)
theorem r_238_22 : xfetch 238 22 = some (.aload_n 0, 1) := by decide +kernel
theorem n_238_22 : ∀ l, xpr 238 22 l = l := xpr_no (by decide +kernel)
theorem r_238_23 : xfetch 238 23 = some (.getfield 7, 3) := by decide +kernel
theorem n_238_23 : ∀ l, xpr 238 23 l = l := xpr_no (by decide +kernel)
theorem r_238_26 : xfetch 238 26 = some (.sipush 157, 3) := by decide +kernel
theorem n_238_26 : ∀ l, xpr 238 26 l = l := xpr_no (by decide +kernel)
theorem r_238_29 : xfetch 238 29 = some (.bipush 6, 2) := by decide +kernel
theorem n_238_29 : ∀ l, xpr 238 29 l = l := xpr_no (by decide +kernel)
theorem r_238_31 : xfetch 238 31 = some (.iload_n 1, 1) := by decide +kernel
theorem n_238_31 : ∀ l, xpr 238 31 l = l := xpr_no (by decide +kernel)
theorem r_238_32 : xfetch 238 32 = some (.imul, 1) := by decide +kernel
theorem n_238_32 : ∀ l, xpr 238 32 l = l := xpr_no (by decide +kernel)
theorem r_238_33 : xfetch 238 33 = some (.iadd, 1) := by decide +kernel
theorem n_238_33 : ∀ l, xpr 238 33 l = l := xpr_no (by decide +kernel)
theorem r_238_34 : xfetch 238 34 = some (.iconst (-1), 1) := by decide +kernel
theorem n_238_34 : ∀ l, xpr 238 34 l = l := xpr_no (by decide +kernel)
theorem r_238_35 : xfetch 238 35 = some (.iastore, 1) := by decide +kernel
theorem n_238_35 : ∀ l, xpr 238 35 l = l := xpr_no (by decide +kernel)
theorem r_238_36 : xfetch 238 36 = some (.aload_n 0, 1) := by decide +kernel
theorem n_238_36 : ∀ l, xpr 238 36 l = l := xpr_no (by decide +kernel)
theorem r_238_37 : xfetch 238 37 = some (.iload_n 1, 1) := by decide +kernel
theorem n_238_37 : ∀ l, xpr 238 37 l = l := xpr_no (by decide +kernel)
theorem r_238_38 : xfetch 238 38 = some (.iconst 5, 1) := by decide +kernel
theorem n_238_38 : ∀ l, xpr 238 38 l = l := xpr_no (by decide +kernel)
theorem r_238_39 : xfetch 238 39 = some (.invokevirtual 228, 3) := by decide +kernel
theorem n_238_39 : ∀ l, xpr 238 39 l = l := xpr_no (by decide +kernel)
theorem r_238_42 : xfetch 238 42 = some (.ireturn, 1) := by decide +kernel
theorem n_238_42 : ∀ l, xpr 238 42 l = l := xpr_no (by decide +kernel)
theorem v_Model_removeTable_0 {S : Option (Nat × (Nat → Int32))} {s : zSt} {Q : Option Value ⊕ Nat → zSt → Prop} {x1 : Int} 
    (h : rng x1 ∧ (((0 ≤ x1 ∧ x1 ≤ 2 ∧ zI s 253 (157 + 6 * x1) ≠ -1) → wp S 182 0 [(0, rf 252)] [] (zwI s 252 3 (bi (¬ (0 ≤ x1 ∧ x1 ≤ 2 ∧ zI s 253 (157 + 6 * x1) ≠ -1)))) (fun o6 s6 => zkU ((0 ≤ (157 + (6 * x1)) ∧ (157 + (6 * x1)) < 1199) ∧ ((0 ≤ ((157 + (6 * x1)) + 5) ∧ ((157 + (6 * x1)) + 5) < 1199) ∧ (Q (rI (zI s6 253 ((157 + (6 * x1)) + 5))) (zwI s6 253 (157 + (6 * x1)) (-1))))) (fun e6 => False) o6)) ∧ (¬ (0 ≤ x1 ∧ x1 ≤ 2 ∧ zI s 253 (157 + 6 * x1) ≠ -1) → Q (rI 0) (zwI s 252 3 (bi (¬ (0 ≤ x1 ∧ x1 ≤ 2 ∧ zI s 253 (157 + 6 * x1) ≠ -1))))))) :
    wp S 238 0 [(0, rf 252), (1, iv x1)] [] s Q := by
  refine i_aload_n (a := 252) r_238_0 (n_238_0 _) rfl ?_
  refine i_aload_n (a := 252) r_238_1 (n_238_1 _) rfl ?_
  refine i_aload_n (a := 252) r_238_2 (n_238_2 _) rfl ?_
  refine i_iload_n (x := x1) r_238_3 (n_238_3 _) rfl ?_
  obtain ⟨g1, h⟩ := h
  refine wp_virt (b := 252) (rest := [rf 252, rf 252]) (Ls := [(0, rf 252), (1, iv x1)]) r_238_4 (n_238_4 _) rfl ⟨rfl, rfl, by decide, by decide⟩ rfl rfl lf_252 ⟨rfl, Nat.le_of_ble_eq_true rfl, Nat.le_of_ble_eq_true rfl⟩ rfl (K_Model_isTable g1) ?_
  rintro _ _ ⟨rfl, rfl⟩
  refine .inl ⟨some (iv (bi (0 ≤ x1 ∧ x1 ≤ 2 ∧ zI s 253 (157 + 6 * x1) ≠ -1))), rfl, ?_⟩
  show wp S 238 7 [(0, rf 252), (1, iv x1)] [iv (bi (0 ≤ x1 ∧ x1 ≤ 2 ∧ zI s 253 (157 + 6 * x1) ≠ -1)), rf 252, rf 252] s Q
  refine wp_virt (b := 252) (rest := [rf 252]) (Ls := [(0, rf 252), (1, iv (bi (0 ≤ x1 ∧ x1 ≤ 2 ∧ zI s 253 (157 + 6 * x1) ≠ -1)))]) r_238_7 (n_238_7 _) rfl ⟨rfl, rfl, by decide, by decide⟩ rfl rfl lf_252 ⟨rfl, Nat.le_of_ble_eq_true rfl, Nat.le_of_ble_eq_true rfl⟩ rfl K_Model_needB ?_
  rintro _ _ ⟨rfl, rfl⟩
  refine .inl ⟨some (iv (bi (¬ (0 ≤ x1 ∧ x1 ≤ 2 ∧ zI s 253 (157 + 6 * x1) ≠ -1)))), rfl, ?_⟩
  show wp S 238 10 [(0, rf 252), (1, iv x1)] [iv (bi (¬ (0 ≤ x1 ∧ x1 ≤ 2 ∧ zI s 253 (157 + 6 * x1) ≠ -1))), rf 252] s Q
  refine wp_virt (b := 252) (rest := []) (Ls := [(0, rf 252), (1, iv (bi (¬ (0 ≤ x1 ∧ x1 ≤ 2 ∧ zI s 253 (157 + 6 * x1) ≠ -1))))]) r_238_10 (n_238_10 _) rfl ⟨rfl, rfl, by decide, by decide⟩ rfl rfl lf_252 ⟨rfl, Nat.le_of_ble_eq_true rfl, Nat.le_of_ble_eq_true rfl⟩ rfl K_Model_refusedB ?_
  rintro _ _ ⟨rfl, rfl⟩
  refine .inl ⟨some (iv (bi (¬ (0 ≤ x1 ∧ x1 ≤ 2 ∧ zI s 253 (157 + 6 * x1) ≠ -1)))), rfl, ?_⟩
  show wp S 238 13 [(0, rf 252), (1, iv x1)] [iv (bi (¬ (0 ≤ x1 ∧ x1 ≤ 2 ∧ zI s 253 (157 + 6 * x1) ≠ -1)))] (zwI s 252 3 (bi (¬ (0 ≤ x1 ∧ x1 ≤ 2 ∧ zI s 253 (157 + 6 * x1) ≠ -1)))) Q
  refine i_if (t := 18) r_238_13 (n_238_13 _) rfl (TB_eqN) (fun c5 => ?_) (fun c5 => ?_)
  · replace h := h.1 c5
    refine i_aload_n (a := 252) r_238_18 (n_238_18 _) rfl ?_
    refine wp_virt (b := 252) (rest := []) (Ls := [(0, rf 252)]) r_238_19 (n_238_19 _) rfl ⟨rfl, rfl, by decide, by decide⟩ rfl rfl lf_252 ⟨rfl, Nat.le_of_ble_eq_true rfl, Nat.le_of_ble_eq_true rfl⟩ rfl h ?_
    intro o6 s6 h
    rcases h with ⟨rfl, h⟩ | ⟨e6, rfl, h⟩
    · refine .inl ⟨none, rfl, ?_⟩
      refine i_aload_n (a := 252) r_238_22 (n_238_22 _) rfl ?_
      refine i_getR (a := 252) (b := 253) r_238_23 (n_238_23 _) rfl rfl rfl (by omega) lf_252 (by omega) ?_
      refine i_sipush r_238_26 (n_238_26 _) rfl ?_
      refine i_bipush r_238_29 (n_238_29 _) rfl ?_
      refine i_iload_n (x := x1) r_238_31 (n_238_31 _) rfl ?_
      refine i_imul r_238_32 (n_238_32 _) ?_
      refine i_iadd r_238_33 (n_238_33 _) ?_
      refine i_iconst r_238_34 (n_238_34 _) ?_
      obtain ⟨g8, h⟩ := h
      refine i_iastore (a := 253) (j := 157 + (6 * x1)) (x := (-1)) r_238_35 (n_238_35 _) lf_253 ⟨by omega, by omega⟩ (by omega) (by omega) ⟨by omega, by omega⟩ ?_
      refine i_aload_n (a := 252) r_238_36 (n_238_36 _) rfl ?_
      refine i_iload_n (x := x1) r_238_37 (n_238_37 _) rfl ?_
      refine i_iconst r_238_38 (n_238_38 _) ?_
      have e9 : zI (zwI s6 253 (157 + (6 * x1)) (-1)) 253 ((157 + (6 * x1)) + 5) = zI s6 253 ((157 + (6 * x1)) + 5) := zI_nj (by omega)
      obtain ⟨g10, h⟩ := h
      refine wp_virt (b := 252) (rest := []) (Ls := [(0, rf 252), (1, iv x1), (2, iv 5)]) r_238_39 (n_238_39 _) rfl ⟨rfl, rfl, by decide, by decide⟩ rfl rfl lf_252 ⟨rfl, Nat.le_of_ble_eq_true rfl, Nat.le_of_ble_eq_true rfl⟩ rfl (K_Model_of (by (try rw [e9]); exact g10)) ?_
      rintro _ _ ⟨rfl, rfl⟩
      refine .inl ⟨some (iv (zI s6 253 ((157 + (6 * x1)) + 5))), by (try rw [e9]); (try rfl), ?_⟩
      show wp S 238 42 [(0, rf 252), (1, iv x1)] [iv (zI s6 253 ((157 + (6 * x1)) + 5))] (zwI s6 253 (157 + (6 * x1)) (-1)) Q
      exact i_ireturn r_238_42 (n_238_42 _) rfl h
    · skip
      exact h.elim
  · replace h := h.2 c5
    refine i_iconst r_238_16 (n_238_16 _) ?_
    exact i_ireturn r_238_17 (n_238_17 _) rfl h
theorem r_239_0 : xfetch 239 0 = some (.aload_n 0, 1) := by decide +kernel
theorem n_239_0 : ∀ l, xpr 239 0 l = l := xpr_no (by decide +kernel)
theorem r_239_1 : xfetch 239 1 = some (.iconst 0, 1) := by decide +kernel
theorem n_239_1 : ∀ l, xpr 239 1 l = l := xpr_no (by decide +kernel)
theorem r_239_2 : xfetch 239 2 = some (.putfield 77, 3) := by decide +kernel
theorem n_239_2 : ∀ l, xpr 239 2 l = l := xpr_no (by decide +kernel)
theorem r_239_5 : xfetch 239 5 = some (.aload_n 0, 1) := by decide +kernel
theorem n_239_5 : ∀ l, xpr 239 5 l = l := xpr_no (by decide +kernel)
theorem r_239_6 : xfetch 239 6 = some (.invokevirtual 247, 3) := by decide +kernel
theorem n_239_6 : ∀ l, xpr 239 6 l = l := xpr_no (by decide +kernel)
theorem r_239_9 : xfetch 239 9 = some (.ireturn, 1) := by decide +kernel
theorem n_239_9 : ∀ l, xpr 239 9 l = l := xpr_no (by decide +kernel)
theorem v_Model_tables_0 {S : Option (Nat × (Nat → Int32))} {s : zSt} {Q : Option Value ⊕ Nat → zSt → Prop}  
    (h : wp S 240 0 [(0, rf 252)] [] (zwI s 252 3 0) (fun o1 s1 => zkI (fun y1 => Q (rI y1) s1) (fun e1 => False) o1)) :
    wp S 239 0 [(0, rf 252)] [] s Q := by
  refine i_aload_n (a := 252) r_239_0 (n_239_0 _) rfl ?_
  refine i_iconst r_239_1 (n_239_1 _) ?_
  refine i_putI (a := 252) (x := 0) r_239_2 (n_239_2 _) rfl (.inl rfl) rfl lf_252 ⟨by omega, by omega⟩ ?_
  refine i_aload_n (a := 252) r_239_5 (n_239_5 _) rfl ?_
  refine wp_virt (b := 252) (rest := []) (Ls := [(0, rf 252)]) r_239_6 (n_239_6 _) rfl ⟨rfl, rfl, by decide, by decide⟩ rfl rfl lf_252 ⟨rfl, Nat.le_of_ble_eq_true rfl, Nat.le_of_ble_eq_true rfl⟩ rfl h ?_
  intro o1 s1 h
  rcases h with ⟨y1, q2, rfl, h⟩ | ⟨e1, rfl, h⟩
  · refine .inl ⟨some (iv y1), rfl, ?_⟩
    show wp S 239 9 [(0, rf 252)] [iv y1] s1 Q
    exact i_ireturn r_239_9 (n_239_9 _) rfl h
  · skip
    exact h.elim
theorem r_240_0 : xfetch 240 0 = some (.iconst 0, 1) := by decide +kernel
theorem n_240_0 : ∀ l, xpr 240 0 l = l := xpr_no (by decide +kernel)
theorem r_240_1 : xfetch 240 1 = some (.istore_n 1, 1) := by decide +kernel
theorem n_240_1 : ∀ l, xpr 240 1 l = l := xpr_no (by decide +kernel)
theorem r_240_2 : xfetch 240 2 = some (.iconst 0, 1) := by decide +kernel
theorem n_240_2 : ∀ l, xpr 240 2 l = l := xpr_no (by decide +kernel)
theorem r_240_3 : xfetch 240 3 = some (.istore_n 2, 1) := by decide +kernel
theorem n_240_3 : ∀ l, xpr 240 3 l = l := xpr_no (by decide +kernel)
theorem r_240_4 : xfetch 240 4 = some (.iload_n 2, 1) := by decide +kernel
theorem r_240_5 : xfetch 240 5 = some (.iconst 3, 1) := by decide +kernel
theorem n_240_5 : ∀ l, xpr 240 5 l = l := xpr_no (by decide +kernel)
theorem r_240_6 : xfetch 240 6 = some (.if_icmp .ge 27, 3) := by decide +kernel
theorem n_240_6 : ∀ l, xpr 240 6 l = l := xpr_no (by decide +kernel)
theorem r_240_9 : xfetch 240 9 = some (.iload_n 1, 1) := by decide +kernel
theorem n_240_9 : ∀ l, xpr 240 9 l = l := xpr_no (by decide +kernel)
theorem r_240_10 : xfetch 240 10 = some (.aload_n 0, 1) := by decide +kernel
theorem n_240_10 : ∀ l, xpr 240 10 l = l := xpr_no (by decide +kernel)
theorem r_240_11 : xfetch 240 11 = some (.iload_n 2, 1) := by decide +kernel
theorem n_240_11 : ∀ l, xpr 240 11 l = l := xpr_no (by decide +kernel)
theorem r_240_12 : xfetch 240 12 = some (.invokevirtual 225, 3) := by decide +kernel
theorem n_240_12 : ∀ l, xpr 240 12 l = l := xpr_no (by decide +kernel)
theorem r_240_15 : xfetch 240 15 = some (.ifCond .eq 9, 3) := by decide +kernel
theorem n_240_15 : ∀ l, xpr 240 15 l = l := xpr_no (by decide +kernel)
theorem r_240_18 : xfetch 240 18 = some (.iconst 1, 1) := by decide +kernel
theorem n_240_18 : ∀ l, xpr 240 18 l = l := xpr_no (by decide +kernel)
theorem r_240_19 : xfetch 240 19 = some (.iload_n 2, 1) := by decide +kernel
theorem n_240_19 : ∀ l, xpr 240 19 l = l := xpr_no (by decide +kernel)
theorem r_240_20 : xfetch 240 20 = some (.ishl, 1) := by decide +kernel
theorem n_240_20 : ∀ l, xpr 240 20 l = l := xpr_no (by decide +kernel)
theorem r_240_21 : xfetch 240 21 = some (.goto 4, 3) := by decide +kernel
theorem n_240_21 : ∀ l, xpr 240 21 l = l := xpr_no (by decide +kernel)
theorem r_240_24 : xfetch 240 24 = some (.iconst 0, 1) := by decide +kernel
theorem n_240_24 : ∀ l, xpr 240 24 l = l := xpr_no (by decide +kernel)
theorem r_240_25 : xfetch 240 25 = some (.ior, 1) := by decide +kernel
theorem n_240_25 : ∀ l, xpr 240 25 l = l := xpr_no (by decide +kernel)
theorem r_240_26 : xfetch 240 26 = some (.istore_n 1, 1) := by decide +kernel
theorem n_240_26 : ∀ l, xpr 240 26 l = l := xpr_no (by decide +kernel)
theorem r_240_27 : xfetch 240 27 = some (.iinc 2 1, 3) := by decide +kernel
theorem n_240_27 : ∀ l, xpr 240 27 l = l := xpr_no (by decide +kernel)
theorem r_240_30 : xfetch 240 30 = some (.goto (-26), 3) := by decide +kernel
theorem n_240_30 : ∀ l, xpr 240 30 l = l := xpr_no (by decide +kernel)
theorem r_240_33 : xfetch 240 33 = some (.iload_n 1, 1) := by decide +kernel
theorem n_240_33 : ∀ l, xpr 240 33 l = l := xpr_no (by decide +kernel)
theorem r_240_34 : xfetch 240 34 = some (.ireturn, 1) := by decide +kernel
theorem n_240_34 : ∀ l, xpr 240 34 l = l := xpr_no (by decide +kernel)
theorem v_Model_tableSet_0 {S : Option (Nat × (Nat → Int32))} {s : zSt} {Q : Option Value ⊕ Nat → zSt → Prop}  
    (h : wp S 240 4 [(0, rf 252), (1, iv 0), (2, iv 0)] [] s Q) :
    wp S 240 0 [(0, rf 252)] [] s Q := by
  refine i_iconst r_240_0 (n_240_0 _) ?_
  refine i_istore_n (l' := [(0, rf 252), (1, iv 0)]) r_240_1 (n_240_1 _) (by decide) rfl ?_
  refine i_iconst r_240_2 (n_240_2 _) ?_
  refine i_istore_n (l' := [(0, rf 252), (1, iv 0), (2, iv 0)]) r_240_3 (n_240_3 _) (by decide) rfl ?_
  exact wp_pr (l' := [(0, rf 252), (1, iv 0), (2, iv 0)]) rfl h
theorem v_Model_tableSet_4 {S : Option (Nat × (Nat → Int32))} {s : zSt} {Q : Option Value ⊕ Nat → zSt → Prop} {x1 : Int} {x2 : Int} 
    (h : rng x2 ∧ ((3 ≤ x2 → Q (rI x1) s) ∧ (x2 < 3 → (¬ (0 ≤ x2 ∧ x2 ≤ 2 ∧ zI s 253 (157 + 6 * x2) ≠ -1) → wp S 240 4 [(0, rf 252), (1, iv (zor x1 0)), (2, iv (x2 + 1))] [] s Q) ∧ (0 ≤ x2 ∧ x2 ≤ 2 ∧ zI s 253 (157 + 6 * x2) ≠ -1 → wp S 240 4 [(0, rf 252), (1, iv (zor x1 (zshl 1 x2))), (2, iv (x2 + 1))] [] s Q)))) :
    wp S 240 4 [(0, rf 252), (1, iv x1), (2, iv x2)] [] s Q := by
  refine i_iload_n (x := x2) r_240_4 rfl rfl ?_
  refine i_iconst r_240_5 (n_240_5 _) ?_
  obtain ⟨g1, h⟩ := h
  refine i_icmp (t := 33) r_240_6 (n_240_6 _) rfl (T_ge g1 ⟨by omega, by omega⟩) (fun c2 => ?_) (fun c2 => ?_)
  · replace h := h.1 c2
    refine i_iload_n (x := x1) r_240_33 (n_240_33 _) rfl ?_
    exact i_ireturn r_240_34 (n_240_34 _) rfl h
  · replace h := h.2 c2
    refine i_iload_n (x := x1) r_240_9 (n_240_9 _) rfl ?_
    refine i_aload_n (a := 252) r_240_10 (n_240_10 _) rfl ?_
    refine i_iload_n (x := x2) r_240_11 (n_240_11 _) rfl ?_
    refine wp_virt (b := 252) (rest := [iv x1]) (Ls := [(0, rf 252), (1, iv x2)]) r_240_12 (n_240_12 _) rfl ⟨rfl, rfl, by decide, by decide⟩ rfl rfl lf_252 ⟨rfl, Nat.le_of_ble_eq_true rfl, Nat.le_of_ble_eq_true rfl⟩ rfl (K_Model_isTable g1) ?_
    rintro _ _ ⟨rfl, rfl⟩
    refine .inl ⟨some (iv (bi (0 ≤ x2 ∧ x2 ≤ 2 ∧ zI s 253 (157 + 6 * x2) ≠ -1))), rfl, ?_⟩
    show wp S 240 15 [(0, rf 252), (1, iv x1), (2, iv x2)] [iv (bi (0 ≤ x2 ∧ x2 ≤ 2 ∧ zI s 253 (157 + 6 * x2) ≠ -1)), iv x1] s Q
    refine i_if (t := 24) r_240_15 (n_240_15 _) rfl (TB_eq) (fun c4 => ?_) (fun c4 => ?_)
    · replace h := h.1 c4
      refine i_iconst r_240_24 (n_240_24 _) ?_
      refine i_ior r_240_25 (n_240_25 _) ?_
      refine i_istore_n (l' := [(0, rf 252), (1, iv (zor x1 0)), (2, iv x2)]) r_240_26 (n_240_26 _) (by decide) rfl ?_
      refine i_iinc (x := x2) (l' := [(0, rf 252), (1, iv (zor x1 0)), (2, iv (x2 + 1))]) r_240_27 (n_240_27 _) (by decide) rfl rfl ?_
      refine i_goto (t := 4) r_240_30 (n_240_30 _) rfl ?_
      exact wp_pr (l' := [(0, rf 252), (1, iv (zor x1 0)), (2, iv (x2 + 1))]) rfl h
    · replace h := h.2 c4
      refine i_iconst r_240_18 (n_240_18 _) ?_
      refine i_iload_n (x := x2) r_240_19 (n_240_19 _) rfl ?_
      refine i_ishl r_240_20 (n_240_20 _) ?_
      refine i_goto (t := 25) r_240_21 (n_240_21 _) rfl ?_
      refine i_ior r_240_25 (n_240_25 _) ?_
      refine i_istore_n (l' := [(0, rf 252), (1, iv (zor x1 (zshl 1 x2))), (2, iv x2)]) r_240_26 (n_240_26 _) (by decide) rfl ?_
      refine i_iinc (x := x2) (l' := [(0, rf 252), (1, iv (zor x1 (zshl 1 x2))), (2, iv (x2 + 1))]) r_240_27 (n_240_27 _) (by decide) rfl rfl ?_
      refine i_goto (t := 4) r_240_30 (n_240_30 _) rfl ?_
      exact wp_pr (l' := [(0, rf 252), (1, iv (zor x1 (zshl 1 x2))), (2, iv (x2 + 1))]) rfl h
theorem r_241_0 : xfetch 241 0 = some (.aload_n 0, 1) := by decide +kernel
theorem n_241_0 : ∀ l, xpr 241 0 l = l := xpr_no (by decide +kernel)
theorem r_241_1 : xfetch 241 1 = some (.aload_n 0, 1) := by decide +kernel
theorem n_241_1 : ∀ l, xpr 241 1 l = l := xpr_no (by decide +kernel)
theorem r_241_2 : xfetch 241 2 = some (.iload_n 1, 1) := by decide +kernel
theorem n_241_2 : ∀ l, xpr 241 2 l = l := xpr_no (by decide +kernel)
theorem r_241_3 : xfetch 241 3 = some (.invokevirtual 225, 3) := by decide +kernel
theorem n_241_3 : ∀ l, xpr 241 3 l = l := xpr_no (by decide +kernel)
theorem r_241_6 : xfetch 241 6 = some (.ifCond .ne 7, 3) := by decide +kernel
theorem n_241_6 : ∀ l, xpr 241 6 l = l := xpr_no (by decide +kernel)
theorem r_241_9 : xfetch 241 9 = some (.iconst 1, 1) := by decide +kernel
theorem n_241_9 : ∀ l, xpr 241 9 l = l := xpr_no (by decide +kernel)
theorem r_241_10 : xfetch 241 10 = some (.goto 17, 3) := by decide +kernel
theorem n_241_10 : ∀ l, xpr 241 10 l = l := xpr_no (by decide +kernel)
theorem r_241_13 : xfetch 241 13 = some (.iload_n 2, 1) := by decide +kernel
theorem n_241_13 : ∀ l, xpr 241 13 l = l := xpr_no (by decide +kernel)
theorem r_241_14 : xfetch 241 14 = some (.iconst 0, 1) := by decide +kernel
theorem n_241_14 : ∀ l, xpr 241 14 l = l := xpr_no (by decide +kernel)
theorem r_241_15 : xfetch 241 15 = some (.iconst 5, 1) := by decide +kernel
theorem n_241_15 : ∀ l, xpr 241 15 l = l := xpr_no (by decide +kernel)
theorem r_241_16 : xfetch 241 16 = some (.invokestatic 88, 3) := by decide +kernel
theorem n_241_16 : ∀ l, xpr 241 16 l = l := xpr_no (by decide +kernel)
theorem r_241_19 : xfetch 241 19 = some (.ifCond .ne 7, 3) := by decide +kernel
theorem n_241_19 : ∀ l, xpr 241 19 l = l := xpr_no (by decide +kernel)
theorem r_241_22 : xfetch 241 22 = some (.iconst 2, 1) := by decide +kernel
theorem n_241_22 : ∀ l, xpr 241 22 l = l := xpr_no (by decide +kernel)
theorem r_241_23 : xfetch 241 23 = some (.goto 4, 3) := by decide +kernel
theorem n_241_23 : ∀ l, xpr 241 23 l = l := xpr_no (by decide +kernel)
theorem r_241_26 : xfetch 241 26 = some (.iconst 0, 1) := by decide +kernel
theorem n_241_26 : ∀ l, xpr 241 26 l = l := xpr_no (by decide +kernel)
theorem r_241_27 : xfetch 241 27 = some (.invokevirtual 84, 3) := by decide +kernel
theorem n_241_27 : ∀ l, xpr 241 27 l = l := xpr_no (by decide +kernel)
theorem r_241_30 : xfetch 241 30 = some (.ifCond .eq 7, 3) := by decide +kernel
theorem n_241_30 : ∀ l, xpr 241 30 l = l := xpr_no (by decide +kernel)
theorem r_241_33 : xfetch 241 33 = some (.iconst 0, 1) := by decide +kernel
theorem n_241_33 : ∀ l, xpr 241 33 l = l := xpr_no (by decide +kernel)
theorem r_241_34 : xfetch 241 34 = some (.goto 9, 3) := by decide +kernel
theorem n_241_34 : ∀ l, xpr 241 34 l = l := xpr_no (by decide +kernel)
theorem r_241_37 : xfetch 241 37 = some (.aload_n 0, 1) := by decide +kernel
theorem n_241_37 : ∀ l, xpr 241 37 l = l := xpr_no (by decide +kernel)
theorem r_241_38 : xfetch 241 38 = some (.iload_n 1, 1) := by decide +kernel
theorem n_241_38 : ∀ l, xpr 241 38 l = l := xpr_no (by decide +kernel)
theorem r_241_39 : xfetch 241 39 = some (.iload_n 2, 1) := by decide +kernel
theorem n_241_39 : ∀ l, xpr 241 39 l = l := xpr_no (by decide +kernel)
theorem r_241_40 : xfetch 241 40 = some (.invokevirtual 228, 3) := by decide +kernel
theorem n_241_40 : ∀ l, xpr 241 40 l = l := xpr_no (by decide +kernel)
theorem r_241_43 : xfetch 241 43 = some (.ireturn, 1) := by decide +kernel
theorem n_241_43 : ∀ l, xpr 241 43 l = l := xpr_no (by decide +kernel)
theorem v_Model_tableInfo_0 {S : Option (Nat × (Nat → Int32))} {s : zSt} {Q : Option Value ⊕ Nat → zSt → Prop} {x1 : Int} {x2 : Int} 
    (h : rng x1 ∧ ((0 ≤ x1 ∧ x1 ≤ 2 ∧ zI s 253 (157 + 6 * x1) ≠ -1 → rng x2 ∧ ((0 ≤ x2 ∧ x2 ≤ 5 → (0 ≤ ((157 + (6 * x1)) + x2) ∧ ((157 + (6 * x1)) + x2) < 1199) ∧ (Q (rI (zI s 253 ((157 + (6 * x1)) + x2))) (zwI s 252 3 0))) ∧ (¬ (0 ≤ x2 ∧ x2 ≤ 5) → Q (rI 0) (zwI s 252 3 2)))) ∧ (¬ (0 ≤ x1 ∧ x1 ≤ 2 ∧ zI s 253 (157 + 6 * x1) ≠ -1) → Q (rI 0) (zwI s 252 3 1)))) :
    wp S 241 0 [(0, rf 252), (1, iv x1), (2, iv x2)] [] s Q := by
  refine i_aload_n (a := 252) r_241_0 (n_241_0 _) rfl ?_
  refine i_aload_n (a := 252) r_241_1 (n_241_1 _) rfl ?_
  refine i_iload_n (x := x1) r_241_2 (n_241_2 _) rfl ?_
  obtain ⟨g1, h⟩ := h
  refine wp_virt (b := 252) (rest := [rf 252]) (Ls := [(0, rf 252), (1, iv x1)]) r_241_3 (n_241_3 _) rfl ⟨rfl, rfl, by decide, by decide⟩ rfl rfl lf_252 ⟨rfl, Nat.le_of_ble_eq_true rfl, Nat.le_of_ble_eq_true rfl⟩ rfl (K_Model_isTable g1) ?_
  rintro _ _ ⟨rfl, rfl⟩
  refine .inl ⟨some (iv (bi (0 ≤ x1 ∧ x1 ≤ 2 ∧ zI s 253 (157 + 6 * x1) ≠ -1))), rfl, ?_⟩
  show wp S 241 6 [(0, rf 252), (1, iv x1), (2, iv x2)] [iv (bi (0 ≤ x1 ∧ x1 ≤ 2 ∧ zI s 253 (157 + 6 * x1) ≠ -1)), rf 252] s Q
  refine i_if (t := 13) r_241_6 (n_241_6 _) rfl (TB_ne) (fun c3 => ?_) (fun c3 => ?_)
  · replace h := h.1 c3
    refine i_iload_n (x := x2) r_241_13 (n_241_13 _) rfl ?_
    refine i_iconst r_241_14 (n_241_14 _) ?_
    refine i_iconst r_241_15 (n_241_15 _) ?_
    obtain ⟨g4, h⟩ := h
    refine wp_stat (rest := [rf 252]) (Ls := [(0, iv x2), (1, iv 0), (2, iv 5)]) r_241_16 (n_241_16 _) rfl ⟨rfl, by decide, by decide, by decide⟩ rfl rfl ⟨rfl, Nat.le_of_ble_eq_true rfl, Nat.le_of_ble_eq_true rfl⟩ rfl (K_Model_within g4 ⟨by omega, by omega⟩ ⟨by omega, by omega⟩) ?_
    rintro _ _ ⟨rfl, rfl⟩
    refine .inl ⟨some (iv (bi (0 ≤ x2 ∧ x2 ≤ 5))), rfl, ?_⟩
    show wp S 241 19 [(0, rf 252), (1, iv x1), (2, iv x2)] [iv (bi (0 ≤ x2 ∧ x2 ≤ 5)), rf 252] s Q
    refine i_if (t := 26) r_241_19 (n_241_19 _) rfl (TB_ne) (fun c6 => ?_) (fun c6 => ?_)
    · replace h := h.1 c6
      refine i_iconst r_241_26 (n_241_26 _) ?_
      refine wp_virt (b := 252) (rest := []) (Ls := [(0, rf 252), (1, iv 0)]) r_241_27 (n_241_27 _) rfl ⟨rfl, rfl, by decide, by decide⟩ rfl rfl lf_252 ⟨rfl, Nat.le_of_ble_eq_true rfl, Nat.le_of_ble_eq_true rfl⟩ rfl K_Model_refused0 ?_
      rintro _ _ ⟨rfl, rfl⟩
      refine .inl ⟨some (iv 0), rfl, ?_⟩
      show wp S 241 30 [(0, rf 252), (1, iv x1), (2, iv x2)] [iv 0] (zwI s 252 3 0) Q
      refine i_if (t := 37) r_241_30 (n_241_30 _) rfl (T_eq ⟨by omega, by omega⟩ ⟨by omega, by omega⟩) (fun _ => ?_) (fun z => absurd z (by omega))
      refine i_aload_n (a := 252) r_241_37 (n_241_37 _) rfl ?_
      refine i_iload_n (x := x1) r_241_38 (n_241_38 _) rfl ?_
      refine i_iload_n (x := x2) r_241_39 (n_241_39 _) rfl ?_
      have e8 : zI (zwI s 252 3 0) 253 ((157 + (6 * x1)) + x2) = zI s 253 ((157 + (6 * x1)) + x2) := zI_ne (by omega)
      obtain ⟨g9, h⟩ := h
      refine wp_virt (b := 252) (rest := []) (Ls := [(0, rf 252), (1, iv x1), (2, iv x2)]) r_241_40 (n_241_40 _) rfl ⟨rfl, rfl, by decide, by decide⟩ rfl rfl lf_252 ⟨rfl, Nat.le_of_ble_eq_true rfl, Nat.le_of_ble_eq_true rfl⟩ rfl (K_Model_of (by (try rw [e8]); exact g9)) ?_
      rintro _ _ ⟨rfl, rfl⟩
      refine .inl ⟨some (iv (zI s 253 ((157 + (6 * x1)) + x2))), by (try rw [e8]); (try rfl), ?_⟩
      show wp S 241 43 [(0, rf 252), (1, iv x1), (2, iv x2)] [iv (zI s 253 ((157 + (6 * x1)) + x2))] (zwI s 252 3 0) Q
      exact i_ireturn r_241_43 (n_241_43 _) rfl h
    · replace h := h.2 c6
      refine i_iconst r_241_22 (n_241_22 _) ?_
      refine i_goto (t := 27) r_241_23 (n_241_23 _) rfl ?_
      refine wp_virt (b := 252) (rest := []) (Ls := [(0, rf 252), (1, iv 2)]) r_241_27 (n_241_27 _) rfl ⟨rfl, rfl, by decide, by decide⟩ rfl rfl lf_252 ⟨rfl, Nat.le_of_ble_eq_true rfl, Nat.le_of_ble_eq_true rfl⟩ rfl (K_Model_refused1 ⟨by omega, by omega⟩ (by omega)) ?_
      rintro _ _ ⟨rfl, rfl⟩
      refine .inl ⟨some (iv 1), rfl, ?_⟩
      show wp S 241 30 [(0, rf 252), (1, iv x1), (2, iv x2)] [iv 1] (zwI s 252 3 2) Q
      refine i_if (t := 37) r_241_30 (n_241_30 _) rfl (T_eq ⟨by omega, by omega⟩ ⟨by omega, by omega⟩) (fun z => absurd z (by omega)) (fun _ => ?_)
      refine i_iconst r_241_33 (n_241_33 _) ?_
      refine i_goto (t := 43) r_241_34 (n_241_34 _) rfl ?_
      exact i_ireturn r_241_43 (n_241_43 _) rfl h
  · replace h := h.2 c3
    refine i_iconst r_241_9 (n_241_9 _) ?_
    refine i_goto (t := 27) r_241_10 (n_241_10 _) rfl ?_
    refine wp_virt (b := 252) (rest := []) (Ls := [(0, rf 252), (1, iv 1)]) r_241_27 (n_241_27 _) rfl ⟨rfl, rfl, by decide, by decide⟩ rfl rfl lf_252 ⟨rfl, Nat.le_of_ble_eq_true rfl, Nat.le_of_ble_eq_true rfl⟩ rfl (K_Model_refused1 ⟨by omega, by omega⟩ (by omega)) ?_
    rintro _ _ ⟨rfl, rfl⟩
    refine .inl ⟨some (iv 1), rfl, ?_⟩
    show wp S 241 30 [(0, rf 252), (1, iv x1), (2, iv x2)] [iv 1] (zwI s 252 3 1) Q
    refine i_if (t := 37) r_241_30 (n_241_30 _) rfl (T_eq ⟨by omega, by omega⟩ ⟨by omega, by omega⟩) (fun z => absurd z (by omega)) (fun _ => ?_)
    refine i_iconst r_241_33 (n_241_33 _) ?_
    refine i_goto (t := 43) r_241_34 (n_241_34 _) rfl ?_
    exact i_ireturn r_241_43 (n_241_43 _) rfl h
theorem r_242_0 : xfetch 242 0 = some (.aload_n 0, 1) := by decide +kernel
theorem n_242_0 : ∀ l, xpr 242 0 l = l := xpr_no (by decide +kernel)
theorem r_242_1 : xfetch 242 1 = some (.aload_n 0, 1) := by decide +kernel
theorem n_242_1 : ∀ l, xpr 242 1 l = l := xpr_no (by decide +kernel)
theorem r_242_2 : xfetch 242 2 = some (.aload_n 0, 1) := by decide +kernel
theorem n_242_2 : ∀ l, xpr 242 2 l = l := xpr_no (by decide +kernel)
theorem r_242_3 : xfetch 242 3 = some (.iload_n 1, 1) := by decide +kernel
theorem n_242_3 : ∀ l, xpr 242 3 l = l := xpr_no (by decide +kernel)
theorem r_242_4 : xfetch 242 4 = some (.iload_n 3, 1) := by decide +kernel
theorem n_242_4 : ∀ l, xpr 242 4 l = l := xpr_no (by decide +kernel)
theorem r_242_5 : xfetch 242 5 = some (.invokevirtual 254, 3) := by decide +kernel
theorem n_242_5 : ∀ l, xpr 242 5 l = l := xpr_no (by decide +kernel)
theorem r_242_8 : xfetch 242 8 = some (.ifCond .eq 16, 3) := by decide +kernel
theorem n_242_8 : ∀ l, xpr 242 8 l = l := xpr_no (by decide +kernel)
theorem r_242_11 : xfetch 242 11 = some (.aload_n 0, 1) := by decide +kernel
theorem n_242_11 : ∀ l, xpr 242 11 l = l := xpr_no (by decide +kernel)
theorem r_242_12 : xfetch 242 12 = some (.iload_n 1, 1) := by decide +kernel
theorem n_242_12 : ∀ l, xpr 242 12 l = l := xpr_no (by decide +kernel)
theorem r_242_13 : xfetch 242 13 = some (.iload_n 2, 1) := by decide +kernel
theorem n_242_13 : ∀ l, xpr 242 13 l = l := xpr_no (by decide +kernel)
theorem r_242_14 : xfetch 242 14 = some (.invokevirtual 257, 3) := by decide +kernel
theorem n_242_14 : ∀ l, xpr 242 14 l = l := xpr_no (by decide +kernel)
theorem r_242_17 : xfetch 242 17 = some (.ifCond .eq 7, 3) := by decide +kernel
theorem n_242_17 : ∀ l, xpr 242 17 l = l := xpr_no (by decide +kernel)
theorem r_242_20 : xfetch 242 20 = some (.iconst 1, 1) := by decide +kernel
theorem n_242_20 : ∀ l, xpr 242 20 l = l := xpr_no (by decide +kernel)
theorem r_242_21 : xfetch 242 21 = some (.goto 4, 3) := by decide +kernel
theorem n_242_21 : ∀ l, xpr 242 21 l = l := xpr_no (by decide +kernel)
theorem r_242_24 : xfetch 242 24 = some (.iconst 0, 1) := by decide +kernel
theorem n_242_24 : ∀ l, xpr 242 24 l = l := xpr_no (by decide +kernel)
theorem r_242_25 : xfetch 242 25 = some (.invokevirtual 175, 3) := by decide +kernel
theorem n_242_25 : ∀ l, xpr 242 25 l = l := xpr_no (by decide +kernel)
theorem r_242_28 : xfetch 242 28 = some (.invokevirtual 84, 3) := by decide +kernel
theorem n_242_28 : ∀ l, xpr 242 28 l = l := xpr_no (by decide +kernel)
theorem r_242_31 : xfetch 242 31 = some (.ifCond .eq 7, 3) := by decide +kernel
theorem n_242_31 : ∀ l, xpr 242 31 l = l := xpr_no (by decide +kernel)
theorem r_242_34 : xfetch 242 34 = some (.iconst 0, 1) := by decide +kernel
theorem n_242_34 : ∀ l, xpr 242 34 l = l := xpr_no (by decide +kernel)
theorem r_242_35 : xfetch 242 35 = some (.goto 10, 3) := by decide +kernel
theorem n_242_35 : ∀ l, xpr 242 35 l = l := xpr_no (by decide +kernel)
theorem r_242_38 : xfetch 242 38 = some (.aload_n 0, 1) := by decide +kernel
theorem n_242_38 : ∀ l, xpr 242 38 l = l := xpr_no (by decide +kernel)
theorem r_242_39 : xfetch 242 39 = some (.iload_n 1, 1) := by decide +kernel
theorem n_242_39 : ∀ l, xpr 242 39 l = l := xpr_no (by decide +kernel)
theorem r_242_40 : xfetch 242 40 = some (.iload_n 2, 1) := by decide +kernel
theorem n_242_40 : ∀ l, xpr 242 40 l = l := xpr_no (by decide +kernel)
theorem r_242_41 : xfetch 242 41 = some (.iload_n 3, 1) := by decide +kernel
theorem n_242_41 : ∀ l, xpr 242 41 l = l := xpr_no (by decide +kernel)
theorem r_242_42 : xfetch 242 42 = some (.invokevirtual 260, 3) := by decide +kernel
theorem n_242_42 : ∀ l, xpr 242 42 l = l := xpr_no (by decide +kernel)
theorem r_242_45 : xfetch 242 45 = some (.ireturn, 1) := by decide +kernel
theorem n_242_45 : ∀ l, xpr 242 45 l = l := xpr_no (by decide +kernel)
theorem v_Model_address_0 {S : Option (Nat × (Nat → Int32))} {s : zSt} {Q : Option Value ⊕ Nat → zSt → Prop} {x1 : Int} {x2 : Int} {x3 : Int} 
    (h : wp S 243 0 [(0, rf 252), (1, iv x1), (2, iv x3)] [] s (fun o1 s1 => zkI (fun y1 => (y1 = 0 → Q (rI 0) (zwI s1 252 3 1)) ∧ (y1 ≠ 0 → (0 ≤ ((157 + (6 * x1)) + 1) ∧ ((157 + (6 * x1)) + 1) < 1199) ∧ (rng x2 ∧ (rng ((zI s1 253 ((157 + (6 * x1)) + 1)) - 1) ∧ ((¬ (0 ≤ x2 ∧ x2 ≤ ((zI s1 253 ((157 + (6 * x1)) + 1)) - 1)) → Q (rI 0) (zwI s1 252 3 1)) ∧ (0 ≤ x2 ∧ x2 ≤ ((zI s1 253 ((157 + (6 * x1)) + 1)) - 1) → wp S 245 0 [(0, rf 252), (1, iv x1), (2, iv x2), (3, iv x3)] [] (zwI s1 252 3 0) (fun o15 s15 => zkI (fun y15 => Q (rI y15) s15) (fun e15 => False) o15))))))) (fun e1 => False) o1)) :
    wp S 242 0 [(0, rf 252), (1, iv x1), (2, iv x2), (3, iv x3)] [] s Q := by
  refine i_aload_n (a := 252) r_242_0 (n_242_0 _) rfl ?_
  refine i_aload_n (a := 252) r_242_1 (n_242_1 _) rfl ?_
  refine i_aload_n (a := 252) r_242_2 (n_242_2 _) rfl ?_
  refine i_iload_n (x := x1) r_242_3 (n_242_3 _) rfl ?_
  refine i_iload_n (x := x3) r_242_4 (n_242_4 _) rfl ?_
  refine wp_virt (b := 252) (rest := [rf 252, rf 252]) (Ls := [(0, rf 252), (1, iv x1), (2, iv x3)]) r_242_5 (n_242_5 _) rfl ⟨rfl, rfl, by decide, by decide⟩ rfl rfl lf_252 ⟨rfl, Nat.le_of_ble_eq_true rfl, Nat.le_of_ble_eq_true rfl⟩ rfl h ?_
  intro o1 s1 h
  rcases h with ⟨y1, q2, rfl, h⟩ | ⟨e1, rfl, h⟩
  · refine .inl ⟨some (iv y1), rfl, ?_⟩
    show wp S 242 8 [(0, rf 252), (1, iv x1), (2, iv x2), (3, iv x3)] [iv y1, rf 252, rf 252] s1 Q
    refine i_if (t := 24) r_242_8 (n_242_8 _) rfl (T_eq q2 ⟨by omega, by omega⟩) (fun c3 => ?_) (fun c3 => ?_)
    · replace h := h.1 c3
      refine i_iconst r_242_24 (n_242_24 _) ?_
      refine wp_virt (b := 252) (rest := [rf 252]) (Ls := [(0, rf 252), (1, iv 0)]) r_242_25 (n_242_25 _) rfl ⟨rfl, rfl, by decide, by decide⟩ rfl rfl lf_252 ⟨rfl, Nat.le_of_ble_eq_true rfl, Nat.le_of_ble_eq_true rfl⟩ rfl K_Model_need0 ?_
      rintro _ _ ⟨rfl, rfl⟩
      refine .inl ⟨some (iv 1), rfl, ?_⟩
      show wp S 242 28 [(0, rf 252), (1, iv x1), (2, iv x2), (3, iv x3)] [iv 1, rf 252] s1 Q
      refine wp_virt (b := 252) (rest := []) (Ls := [(0, rf 252), (1, iv 1)]) r_242_28 (n_242_28 _) rfl ⟨rfl, rfl, by decide, by decide⟩ rfl rfl lf_252 ⟨rfl, Nat.le_of_ble_eq_true rfl, Nat.le_of_ble_eq_true rfl⟩ rfl (K_Model_refused1 ⟨by omega, by omega⟩ (by omega)) ?_
      rintro _ _ ⟨rfl, rfl⟩
      refine .inl ⟨some (iv 1), rfl, ?_⟩
      show wp S 242 31 [(0, rf 252), (1, iv x1), (2, iv x2), (3, iv x3)] [iv 1] (zwI s1 252 3 1) Q
      refine i_if (t := 38) r_242_31 (n_242_31 _) rfl (T_eq ⟨by omega, by omega⟩ ⟨by omega, by omega⟩) (fun z => absurd z (by omega)) (fun _ => ?_)
      refine i_iconst r_242_34 (n_242_34 _) ?_
      refine i_goto (t := 45) r_242_35 (n_242_35 _) rfl ?_
      exact i_ireturn r_242_45 (n_242_45 _) rfl h
    · replace h := h.2 c3
      refine i_aload_n (a := 252) r_242_11 (n_242_11 _) rfl ?_
      refine i_iload_n (x := x1) r_242_12 (n_242_12 _) rfl ?_
      refine i_iload_n (x := x2) r_242_13 (n_242_13 _) rfl ?_
      obtain ⟨g6, h⟩ := h
      obtain ⟨g7, h⟩ := h
      obtain ⟨g8, h⟩ := h
      refine wp_virt (b := 252) (rest := [rf 252, rf 252]) (Ls := [(0, rf 252), (1, iv x1), (2, iv x2)]) r_242_14 (n_242_14 _) rfl ⟨rfl, rfl, by decide, by decide⟩ rfl rfl lf_252 ⟨rfl, Nat.le_of_ble_eq_true rfl, Nat.le_of_ble_eq_true rfl⟩ rfl (K_Model_isRow g6 g7 g8) ?_
      rintro _ _ ⟨rfl, rfl⟩
      refine .inl ⟨some (iv (bi (0 ≤ x2 ∧ x2 ≤ ((zI s1 253 ((157 + (6 * x1)) + 1)) - 1)))), rfl, ?_⟩
      show wp S 242 17 [(0, rf 252), (1, iv x1), (2, iv x2), (3, iv x3)] [iv (bi (0 ≤ x2 ∧ x2 ≤ ((zI s1 253 ((157 + (6 * x1)) + 1)) - 1))), rf 252, rf 252] s1 Q
      refine i_if (t := 24) r_242_17 (n_242_17 _) rfl (TB_eq) (fun c10 => ?_) (fun c10 => ?_)
      · replace h := h.1 c10
        refine i_iconst r_242_24 (n_242_24 _) ?_
        refine wp_virt (b := 252) (rest := [rf 252]) (Ls := [(0, rf 252), (1, iv 0)]) r_242_25 (n_242_25 _) rfl ⟨rfl, rfl, by decide, by decide⟩ rfl rfl lf_252 ⟨rfl, Nat.le_of_ble_eq_true rfl, Nat.le_of_ble_eq_true rfl⟩ rfl K_Model_need0 ?_
        rintro _ _ ⟨rfl, rfl⟩
        refine .inl ⟨some (iv 1), rfl, ?_⟩
        show wp S 242 28 [(0, rf 252), (1, iv x1), (2, iv x2), (3, iv x3)] [iv 1, rf 252] s1 Q
        refine wp_virt (b := 252) (rest := []) (Ls := [(0, rf 252), (1, iv 1)]) r_242_28 (n_242_28 _) rfl ⟨rfl, rfl, by decide, by decide⟩ rfl rfl lf_252 ⟨rfl, Nat.le_of_ble_eq_true rfl, Nat.le_of_ble_eq_true rfl⟩ rfl (K_Model_refused1 ⟨by omega, by omega⟩ (by omega)) ?_
        rintro _ _ ⟨rfl, rfl⟩
        refine .inl ⟨some (iv 1), rfl, ?_⟩
        show wp S 242 31 [(0, rf 252), (1, iv x1), (2, iv x2), (3, iv x3)] [iv 1] (zwI s1 252 3 1) Q
        refine i_if (t := 38) r_242_31 (n_242_31 _) rfl (T_eq ⟨by omega, by omega⟩ ⟨by omega, by omega⟩) (fun z => absurd z (by omega)) (fun _ => ?_)
        refine i_iconst r_242_34 (n_242_34 _) ?_
        refine i_goto (t := 45) r_242_35 (n_242_35 _) rfl ?_
        exact i_ireturn r_242_45 (n_242_45 _) rfl h
      · replace h := h.2 c10
        refine i_iconst r_242_20 (n_242_20 _) ?_
        refine i_goto (t := 25) r_242_21 (n_242_21 _) rfl ?_
        refine wp_virt (b := 252) (rest := [rf 252]) (Ls := [(0, rf 252), (1, iv 1)]) r_242_25 (n_242_25 _) rfl ⟨rfl, rfl, by decide, by decide⟩ rfl rfl lf_252 ⟨rfl, Nat.le_of_ble_eq_true rfl, Nat.le_of_ble_eq_true rfl⟩ rfl (K_Model_need1 ⟨by omega, by omega⟩ (by omega)) ?_
        rintro _ _ ⟨rfl, rfl⟩
        refine .inl ⟨some (iv 0), rfl, ?_⟩
        show wp S 242 28 [(0, rf 252), (1, iv x1), (2, iv x2), (3, iv x3)] [iv 0, rf 252] s1 Q
        refine wp_virt (b := 252) (rest := []) (Ls := [(0, rf 252), (1, iv 0)]) r_242_28 (n_242_28 _) rfl ⟨rfl, rfl, by decide, by decide⟩ rfl rfl lf_252 ⟨rfl, Nat.le_of_ble_eq_true rfl, Nat.le_of_ble_eq_true rfl⟩ rfl K_Model_refused0 ?_
        rintro _ _ ⟨rfl, rfl⟩
        refine .inl ⟨some (iv 0), rfl, ?_⟩
        show wp S 242 31 [(0, rf 252), (1, iv x1), (2, iv x2), (3, iv x3)] [iv 0] (zwI s1 252 3 0) Q
        refine i_if (t := 38) r_242_31 (n_242_31 _) rfl (T_eq ⟨by omega, by omega⟩ ⟨by omega, by omega⟩) (fun _ => ?_) (fun z => absurd z (by omega))
        refine i_aload_n (a := 252) r_242_38 (n_242_38 _) rfl ?_
        refine i_iload_n (x := x1) r_242_39 (n_242_39 _) rfl ?_
        refine i_iload_n (x := x2) r_242_40 (n_242_40 _) rfl ?_
        refine i_iload_n (x := x3) r_242_41 (n_242_41 _) rfl ?_
        refine wp_virt (b := 252) (rest := []) (Ls := [(0, rf 252), (1, iv x1), (2, iv x2), (3, iv x3)]) r_242_42 (n_242_42 _) rfl ⟨rfl, rfl, by decide, by decide⟩ rfl rfl lf_252 ⟨rfl, Nat.le_of_ble_eq_true rfl, Nat.le_of_ble_eq_true rfl⟩ rfl h ?_
        intro o15 s15 h
        rcases h with ⟨y15, q16, rfl, h⟩ | ⟨e15, rfl, h⟩
        · refine .inl ⟨some (iv y15), rfl, ?_⟩
          show wp S 242 45 [(0, rf 252), (1, iv x1), (2, iv x2), (3, iv x3)] [iv y15] s15 Q
          exact i_ireturn r_242_45 (n_242_45 _) rfl h
        · skip
          exact h.elim
  · skip
    exact h.elim
theorem r_243_0 : xfetch 243 0 = some (.aload_n 0, 1) := by decide +kernel
theorem n_243_0 : ∀ l, xpr 243 0 l = l := xpr_no (by decide +kernel)
theorem r_243_1 : xfetch 243 1 = some (.iload_n 1, 1) := by decide +kernel
theorem n_243_1 : ∀ l, xpr 243 1 l = l := xpr_no (by decide +kernel)
theorem r_243_2 : xfetch 243 2 = some (.invokevirtual 225, 3) := by decide +kernel
theorem n_243_2 : ∀ l, xpr 243 2 l = l := xpr_no (by decide +kernel)
theorem r_243_5 : xfetch 243 5 = some (.ifCond .ne 5, 3) := by decide +kernel
theorem n_243_5 : ∀ l, xpr 243 5 l = l := xpr_no (by decide +kernel)
theorem r_243_8 : xfetch 243 8 = some (.iconst 0, 1) := by decide +kernel
theorem n_243_8 : ∀ l, xpr 243 8 l = l := xpr_no (by decide +kernel)
theorem r_243_9 : xfetch 243 9 = some (.ireturn, 1) := by decide +kernel
theorem n_243_9 : ∀ l, xpr 243 9 l = l := xpr_no (by decide +kernel)
theorem r_243_10 : xfetch 243 10 = some (.aload_n 0, 1) := by decide +kernel
theorem n_243_10 : ∀ l, xpr 243 10 l = l := xpr_no (by decide +kernel)
theorem r_243_11 : xfetch 243 11 = some (.invokevirtual 152, 3) := by decide +kernel
theorem n_243_11 : ∀ l, xpr 243 11 l = l := xpr_no (by decide +kernel)
theorem r_243_14 : xfetch 243 14 = some (.aload_n 0, 1) := by decide +kernel
theorem n_243_14 : ∀ l, xpr 243 14 l = l := xpr_no (by decide +kernel)
theorem r_243_15 : xfetch 243 15 = some (.aload_n 0, 1) := by decide +kernel
theorem n_243_15 : ∀ l, xpr 243 15 l = l := xpr_no (by decide +kernel)
theorem r_243_16 : xfetch 243 16 = some (.iload_n 1, 1) := by decide +kernel
theorem n_243_16 : ∀ l, xpr 243 16 l = l := xpr_no (by decide +kernel)
theorem r_243_17 : xfetch 243 17 = some (.iconst 0, 1) := by decide +kernel
theorem n_243_17 : ∀ l, xpr 243 17 l = l := xpr_no (by decide +kernel)
theorem r_243_18 : xfetch 243 18 = some (.invokevirtual 228, 3) := by decide +kernel
theorem n_243_18 : ∀ l, xpr 243 18 l = l := xpr_no (by decide +kernel)
theorem r_243_21 : xfetch 243 21 = some (.iload_n 2, 1) := by decide +kernel
theorem n_243_21 : ∀ l, xpr 243 21 l = l := xpr_no (by decide +kernel)
theorem r_243_22 : xfetch 243 22 = some (.invokevirtual 172, 3) := by decide +kernel
theorem n_243_22 : ∀ l, xpr 243 22 l = l := xpr_no (by decide +kernel)
theorem r_243_25 : xfetch 243 25 = some (.ireturn, 1) := by decide +kernel
theorem n_243_25 : ∀ l, xpr 243 25 l = l := xpr_no (by decide +kernel)
theorem v_Model_hasLeaf_0 {S : Option (Nat × (Nat → Int32))} {s : zSt} {Q : Option Value ⊕ Nat → zSt → Prop} {x1 : Int} {x2 : Int} 
    (h : rng x1 ∧ ((0 ≤ x1 ∧ x1 ≤ 2 ∧ zI s 253 (157 + 6 * x1) ≠ -1 → wp S 193 0 [(0, rf 252)] [] s (fun o4 s4 => zkU ((0 ≤ ((157 + (6 * x1)) + 0) ∧ ((157 + (6 * x1)) + 0) < 1199) ∧ ((0 ≤ (zI s4 253 ((157 + (6 * x1)) + 0)) ∧ (zI s4 253 ((157 + (6 * x1)) + 0)) < 6) ∧ (rng x2 ∧ (rng ((zI s4 256 (zI s4 253 ((157 + (6 * x1)) + 0))) - 1) ∧ (Q (rI (bi (0 ≤ x2 ∧ x2 ≤ ((zI s4 256 (zI s4 253 ((157 + (6 * x1)) + 0))) - 1)))) s4))))) (fun e4 => False) o4)) ∧ (¬ (0 ≤ x1 ∧ x1 ≤ 2 ∧ zI s 253 (157 + 6 * x1) ≠ -1) → Q (rI 0) s))) :
    wp S 243 0 [(0, rf 252), (1, iv x1), (2, iv x2)] [] s Q := by
  refine i_aload_n (a := 252) r_243_0 (n_243_0 _) rfl ?_
  refine i_iload_n (x := x1) r_243_1 (n_243_1 _) rfl ?_
  obtain ⟨g1, h⟩ := h
  refine wp_virt (b := 252) (rest := []) (Ls := [(0, rf 252), (1, iv x1)]) r_243_2 (n_243_2 _) rfl ⟨rfl, rfl, by decide, by decide⟩ rfl rfl lf_252 ⟨rfl, Nat.le_of_ble_eq_true rfl, Nat.le_of_ble_eq_true rfl⟩ rfl (K_Model_isTable g1) ?_
  rintro _ _ ⟨rfl, rfl⟩
  refine .inl ⟨some (iv (bi (0 ≤ x1 ∧ x1 ≤ 2 ∧ zI s 253 (157 + 6 * x1) ≠ -1))), rfl, ?_⟩
  show wp S 243 5 [(0, rf 252), (1, iv x1), (2, iv x2)] [iv (bi (0 ≤ x1 ∧ x1 ≤ 2 ∧ zI s 253 (157 + 6 * x1) ≠ -1))] s Q
  refine i_if (t := 10) r_243_5 (n_243_5 _) rfl (TB_ne) (fun c3 => ?_) (fun c3 => ?_)
  · replace h := h.1 c3
    refine i_aload_n (a := 252) r_243_10 (n_243_10 _) rfl ?_
    refine wp_virt (b := 252) (rest := []) (Ls := [(0, rf 252)]) r_243_11 (n_243_11 _) rfl ⟨rfl, rfl, by decide, by decide⟩ rfl rfl lf_252 ⟨rfl, Nat.le_of_ble_eq_true rfl, Nat.le_of_ble_eq_true rfl⟩ rfl h ?_
    intro o4 s4 h
    rcases h with ⟨rfl, h⟩ | ⟨e4, rfl, h⟩
    · refine .inl ⟨none, rfl, ?_⟩
      refine i_aload_n (a := 252) r_243_14 (n_243_14 _) rfl ?_
      refine i_aload_n (a := 252) r_243_15 (n_243_15 _) rfl ?_
      refine i_iload_n (x := x1) r_243_16 (n_243_16 _) rfl ?_
      refine i_iconst r_243_17 (n_243_17 _) ?_
      obtain ⟨g6, h⟩ := h
      refine wp_virt (b := 252) (rest := [rf 252]) (Ls := [(0, rf 252), (1, iv x1), (2, iv 0)]) r_243_18 (n_243_18 _) rfl ⟨rfl, rfl, by decide, by decide⟩ rfl rfl lf_252 ⟨rfl, Nat.le_of_ble_eq_true rfl, Nat.le_of_ble_eq_true rfl⟩ rfl (K_Model_of g6) ?_
      rintro _ _ ⟨rfl, rfl⟩
      refine .inl ⟨some (iv (zI s4 253 ((157 + (6 * x1)) + 0))), rfl, ?_⟩
      show wp S 243 21 [(0, rf 252), (1, iv x1), (2, iv x2)] [iv (zI s4 253 ((157 + (6 * x1)) + 0)), rf 252] s4 Q
      refine wp_rd (a := 253) (j := ((157 + (6 * x1)) + 0)) (fun q8 => ?_)
      refine i_iload_n (x := x2) r_243_21 (n_243_21 _) rfl ?_
      obtain ⟨g9, h⟩ := h
      obtain ⟨g10, h⟩ := h
      obtain ⟨g11, h⟩ := h
      refine wp_virt (b := 252) (rest := []) (Ls := [(0, rf 252), (1, iv (zI s4 253 ((157 + (6 * x1)) + 0))), (2, iv x2)]) r_243_22 (n_243_22 _) rfl ⟨rfl, rfl, by decide, by decide⟩ rfl rfl lf_252 ⟨rfl, Nat.le_of_ble_eq_true rfl, Nat.le_of_ble_eq_true rfl⟩ rfl (K_Model_isLeaf g9 g10 g11) ?_
      rintro _ _ ⟨rfl, rfl⟩
      refine .inl ⟨some (iv (bi (0 ≤ x2 ∧ x2 ≤ ((zI s4 256 (zI s4 253 ((157 + (6 * x1)) + 0))) - 1)))), rfl, ?_⟩
      show wp S 243 25 [(0, rf 252), (1, iv x1), (2, iv x2)] [iv (bi (0 ≤ x2 ∧ x2 ≤ ((zI s4 256 (zI s4 253 ((157 + (6 * x1)) + 0))) - 1)))] s4 Q
      exact i_zreturn r_243_25 (n_243_25 _) rfl (bi_01 _) h
    · skip
      exact h.elim
  · replace h := h.2 c3
    refine i_iconst r_243_8 (n_243_8 _) ?_
    exact i_zreturn r_243_9 (n_243_9 _) rfl (by decide) h
theorem r_245_0 : xfetch 245 0 = some (.aload_n 0, 1) := by decide +kernel
theorem n_245_0 : ∀ l, xpr 245 0 l = l := xpr_no (by decide +kernel)
theorem r_245_1 : xfetch 245 1 = some (.iload_n 1, 1) := by decide +kernel
theorem n_245_1 : ∀ l, xpr 245 1 l = l := xpr_no (by decide +kernel)
theorem r_245_2 : xfetch 245 2 = some (.iconst 4, 1) := by decide +kernel
theorem n_245_2 : ∀ l, xpr 245 2 l = l := xpr_no (by decide +kernel)
theorem r_245_3 : xfetch 245 3 = some (.invokevirtual 228, 3) := by decide +kernel
theorem n_245_3 : ∀ l, xpr 245 3 l = l := xpr_no (by decide +kernel)
theorem r_245_6 : xfetch 245 6 = some (.aload_n 0, 1) := by decide +kernel
theorem n_245_6 : ∀ l, xpr 245 6 l = l := xpr_no (by decide +kernel)
theorem r_245_7 : xfetch 245 7 = some (.aload_n 0, 1) := by decide +kernel
theorem n_245_7 : ∀ l, xpr 245 7 l = l := xpr_no (by decide +kernel)
theorem r_245_8 : xfetch 245 8 = some (.iload_n 1, 1) := by decide +kernel
theorem n_245_8 : ∀ l, xpr 245 8 l = l := xpr_no (by decide +kernel)
theorem r_245_9 : xfetch 245 9 = some (.iconst 0, 1) := by decide +kernel
theorem n_245_9 : ∀ l, xpr 245 9 l = l := xpr_no (by decide +kernel)
theorem r_245_10 : xfetch 245 10 = some (.invokevirtual 228, 3) := by decide +kernel
theorem n_245_10 : ∀ l, xpr 245 10 l = l := xpr_no (by decide +kernel)
theorem r_245_13 : xfetch 245 13 = some (.aload_n 0, 1) := by decide +kernel
theorem n_245_13 : ∀ l, xpr 245 13 l = l := xpr_no (by decide +kernel)
theorem r_245_14 : xfetch 245 14 = some (.iload_n 1, 1) := by decide +kernel
theorem n_245_14 : ∀ l, xpr 245 14 l = l := xpr_no (by decide +kernel)
theorem r_245_15 : xfetch 245 15 = some (.iconst 1, 1) := by decide +kernel
theorem n_245_15 : ∀ l, xpr 245 15 l = l := xpr_no (by decide +kernel)
theorem r_245_16 : xfetch 245 16 = some (.invokevirtual 228, 3) := by decide +kernel
theorem n_245_16 : ∀ l, xpr 245 16 l = l := xpr_no (by decide +kernel)
theorem r_245_19 : xfetch 245 19 = some (.aload_n 0, 1) := by decide +kernel
theorem n_245_19 : ∀ l, xpr 245 19 l = l := xpr_no (by decide +kernel)
theorem r_245_20 : xfetch 245 20 = some (.iload_n 1, 1) := by decide +kernel
theorem n_245_20 : ∀ l, xpr 245 20 l = l := xpr_no (by decide +kernel)
theorem r_245_21 : xfetch 245 21 = some (.iconst 2, 1) := by decide +kernel
theorem n_245_21 : ∀ l, xpr 245 21 l = l := xpr_no (by decide +kernel)
theorem r_245_22 : xfetch 245 22 = some (.invokevirtual 228, 3) := by decide +kernel
theorem n_245_22 : ∀ l, xpr 245 22 l = l := xpr_no (by decide +kernel)
theorem r_245_25 : xfetch 245 25 = some (.iload_n 2, 1) := by decide +kernel
theorem n_245_25 : ∀ l, xpr 245 25 l = l := xpr_no (by decide +kernel)
theorem r_245_26 : xfetch 245 26 = some (.iload_n 3, 1) := by decide +kernel
theorem n_245_26 : ∀ l, xpr 245 26 l = l := xpr_no (by decide +kernel)
theorem r_245_27 : xfetch 245 27 = some (.invokevirtual 250, 3) := by decide +kernel
theorem n_245_27 : ∀ l, xpr 245 27 l = l := xpr_no (by decide +kernel)
theorem r_245_30 : xfetch 245 30 = some (.iadd, 1) := by decide +kernel
theorem n_245_30 : ∀ l, xpr 245 30 l = l := xpr_no (by decide +kernel)
theorem r_245_31 : xfetch 245 31 = some (.ireturn, 1) := by decide +kernel
theorem n_245_31 : ∀ l, xpr 245 31 l = l := xpr_no (by decide +kernel)
theorem v_Model_addressOf_0 {S : Option (Nat × (Nat → Int32))} {s : zSt} {Q : Option Value ⊕ Nat → zSt → Prop} {x1 : Int} {x2 : Int} {x3 : Int} 
    (h : (0 ≤ ((157 + (6 * x1)) + 4) ∧ ((157 + (6 * x1)) + 4) < 1199) ∧ ((0 ≤ ((157 + (6 * x1)) + 0) ∧ ((157 + (6 * x1)) + 0) < 1199) ∧ ((0 ≤ ((157 + (6 * x1)) + 1) ∧ ((157 + (6 * x1)) + 1) < 1199) ∧ ((0 ≤ ((157 + (6 * x1)) + 2) ∧ ((157 + (6 * x1)) + 2) < 1199) ∧ (wp S 246 0 [(0, rf 252), (1, iv (zI s 253 ((157 + (6 * x1)) + 0))), (2, iv (zI s 253 ((157 + (6 * x1)) + 1))), (3, iv (zI s 253 ((157 + (6 * x1)) + 2))), (4, iv x2), (5, iv x3)] [] s (fun o13 s13 => zkI (fun y13 => Q (rI ((zI s 253 ((157 + (6 * x1)) + 4)) + y13)) s13) (fun e13 => False) o13)))))) :
    wp S 245 0 [(0, rf 252), (1, iv x1), (2, iv x2), (3, iv x3)] [] s Q := by
  refine i_aload_n (a := 252) r_245_0 (n_245_0 _) rfl ?_
  refine i_iload_n (x := x1) r_245_1 (n_245_1 _) rfl ?_
  refine i_iconst r_245_2 (n_245_2 _) ?_
  obtain ⟨g1, h⟩ := h
  refine wp_virt (b := 252) (rest := []) (Ls := [(0, rf 252), (1, iv x1), (2, iv 4)]) r_245_3 (n_245_3 _) rfl ⟨rfl, rfl, by decide, by decide⟩ rfl rfl lf_252 ⟨rfl, Nat.le_of_ble_eq_true rfl, Nat.le_of_ble_eq_true rfl⟩ rfl (K_Model_of g1) ?_
  rintro _ _ ⟨rfl, rfl⟩
  refine .inl ⟨some (iv (zI s 253 ((157 + (6 * x1)) + 4))), rfl, ?_⟩
  show wp S 245 6 [(0, rf 252), (1, iv x1), (2, iv x2), (3, iv x3)] [iv (zI s 253 ((157 + (6 * x1)) + 4))] s Q
  refine wp_rd (a := 253) (j := ((157 + (6 * x1)) + 4)) (fun q3 => ?_)
  refine i_aload_n (a := 252) r_245_6 (n_245_6 _) rfl ?_
  refine i_aload_n (a := 252) r_245_7 (n_245_7 _) rfl ?_
  refine i_iload_n (x := x1) r_245_8 (n_245_8 _) rfl ?_
  refine i_iconst r_245_9 (n_245_9 _) ?_
  obtain ⟨g4, h⟩ := h
  refine wp_virt (b := 252) (rest := [rf 252, iv (zI s 253 ((157 + (6 * x1)) + 4))]) (Ls := [(0, rf 252), (1, iv x1), (2, iv 0)]) r_245_10 (n_245_10 _) rfl ⟨rfl, rfl, by decide, by decide⟩ rfl rfl lf_252 ⟨rfl, Nat.le_of_ble_eq_true rfl, Nat.le_of_ble_eq_true rfl⟩ rfl (K_Model_of g4) ?_
  rintro _ _ ⟨rfl, rfl⟩
  refine .inl ⟨some (iv (zI s 253 ((157 + (6 * x1)) + 0))), rfl, ?_⟩
  show wp S 245 13 [(0, rf 252), (1, iv x1), (2, iv x2), (3, iv x3)] [iv (zI s 253 ((157 + (6 * x1)) + 0)), rf 252, iv (zI s 253 ((157 + (6 * x1)) + 4))] s Q
  refine wp_rd (a := 253) (j := ((157 + (6 * x1)) + 0)) (fun q6 => ?_)
  refine i_aload_n (a := 252) r_245_13 (n_245_13 _) rfl ?_
  refine i_iload_n (x := x1) r_245_14 (n_245_14 _) rfl ?_
  refine i_iconst r_245_15 (n_245_15 _) ?_
  obtain ⟨g7, h⟩ := h
  refine wp_virt (b := 252) (rest := [iv (zI s 253 ((157 + (6 * x1)) + 0)), rf 252, iv (zI s 253 ((157 + (6 * x1)) + 4))]) (Ls := [(0, rf 252), (1, iv x1), (2, iv 1)]) r_245_16 (n_245_16 _) rfl ⟨rfl, rfl, by decide, by decide⟩ rfl rfl lf_252 ⟨rfl, Nat.le_of_ble_eq_true rfl, Nat.le_of_ble_eq_true rfl⟩ rfl (K_Model_of g7) ?_
  rintro _ _ ⟨rfl, rfl⟩
  refine .inl ⟨some (iv (zI s 253 ((157 + (6 * x1)) + 1))), rfl, ?_⟩
  show wp S 245 19 [(0, rf 252), (1, iv x1), (2, iv x2), (3, iv x3)] [iv (zI s 253 ((157 + (6 * x1)) + 1)), iv (zI s 253 ((157 + (6 * x1)) + 0)), rf 252, iv (zI s 253 ((157 + (6 * x1)) + 4))] s Q
  refine wp_rd (a := 253) (j := ((157 + (6 * x1)) + 1)) (fun q9 => ?_)
  refine i_aload_n (a := 252) r_245_19 (n_245_19 _) rfl ?_
  refine i_iload_n (x := x1) r_245_20 (n_245_20 _) rfl ?_
  refine i_iconst r_245_21 (n_245_21 _) ?_
  obtain ⟨g10, h⟩ := h
  refine wp_virt (b := 252) (rest := [iv (zI s 253 ((157 + (6 * x1)) + 1)), iv (zI s 253 ((157 + (6 * x1)) + 0)), rf 252, iv (zI s 253 ((157 + (6 * x1)) + 4))]) (Ls := [(0, rf 252), (1, iv x1), (2, iv 2)]) r_245_22 (n_245_22 _) rfl ⟨rfl, rfl, by decide, by decide⟩ rfl rfl lf_252 ⟨rfl, Nat.le_of_ble_eq_true rfl, Nat.le_of_ble_eq_true rfl⟩ rfl (K_Model_of g10) ?_
  rintro _ _ ⟨rfl, rfl⟩
  refine .inl ⟨some (iv (zI s 253 ((157 + (6 * x1)) + 2))), rfl, ?_⟩
  show wp S 245 25 [(0, rf 252), (1, iv x1), (2, iv x2), (3, iv x3)] [iv (zI s 253 ((157 + (6 * x1)) + 2)), iv (zI s 253 ((157 + (6 * x1)) + 1)), iv (zI s 253 ((157 + (6 * x1)) + 0)), rf 252, iv (zI s 253 ((157 + (6 * x1)) + 4))] s Q
  refine wp_rd (a := 253) (j := ((157 + (6 * x1)) + 2)) (fun q12 => ?_)
  refine i_iload_n (x := x2) r_245_25 (n_245_25 _) rfl ?_
  refine i_iload_n (x := x3) r_245_26 (n_245_26 _) rfl ?_
  refine wp_virt (b := 252) (rest := [iv (zI s 253 ((157 + (6 * x1)) + 4))]) (Ls := [(0, rf 252), (1, iv (zI s 253 ((157 + (6 * x1)) + 0))), (2, iv (zI s 253 ((157 + (6 * x1)) + 1))), (3, iv (zI s 253 ((157 + (6 * x1)) + 2))), (4, iv x2), (5, iv x3)]) r_245_27 (n_245_27 _) rfl ⟨rfl, rfl, by decide, by decide⟩ rfl rfl lf_252 ⟨rfl, Nat.le_of_ble_eq_true rfl, Nat.le_of_ble_eq_true rfl⟩ rfl h ?_
  intro o13 s13 h
  rcases h with ⟨y13, q14, rfl, h⟩ | ⟨e13, rfl, h⟩
  · refine .inl ⟨some (iv y13), rfl, ?_⟩
    show wp S 245 30 [(0, rf 252), (1, iv x1), (2, iv x2), (3, iv x3)] [iv y13, iv (zI s 253 ((157 + (6 * x1)) + 4))] s13 Q
    refine i_iadd r_245_30 (n_245_30 _) ?_
    exact i_ireturn r_245_31 (n_245_31 _) rfl h
  · skip
    exact h.elim
theorem r_246_0 : xfetch 246 0 = some (.iload_n 3, 1) := by decide +kernel
theorem n_246_0 : ∀ l, xpr 246 0 l = l := xpr_no (by decide +kernel)
theorem r_246_1 : xfetch 246 1 = some (.ifCond .ne 26, 3) := by decide +kernel
theorem n_246_1 : ∀ l, xpr 246 1 l = l := xpr_no (by decide +kernel)
theorem r_246_4 : xfetch 246 4 = some (.iload 4, 2) := by decide +kernel
theorem n_246_4 : ∀ l, xpr 246 4 l = l := xpr_no (by decide +kernel)
theorem r_246_6 : xfetch 246 6 = some (.aload_n 0, 1) := by decide +kernel
theorem n_246_6 : ∀ l, xpr 246 6 l = l := xpr_no (by decide +kernel)
theorem r_246_7 : xfetch 246 7 = some (.getfield 22, 3) := by decide +kernel
theorem n_246_7 : ∀ l, xpr 246 7 l = l := xpr_no (by decide +kernel)
theorem r_246_10 : xfetch 246 10 = some (.iload_n 1, 1) := by decide +kernel
theorem n_246_10 : ∀ l, xpr 246 10 l = l := xpr_no (by decide +kernel)
theorem r_246_11 : xfetch 246 11 = some (.iaload, 1) := by decide +kernel
theorem n_246_11 : ∀ l, xpr 246 11 l = l := xpr_no (by decide +kernel)
theorem r_246_12 : xfetch 246 12 = some (.imul, 1) := by decide +kernel
theorem n_246_12 : ∀ l, xpr 246 12 l = l := xpr_no (by decide +kernel)
theorem r_246_13 : xfetch 246 13 = some (.aload_n 0, 1) := by decide +kernel
theorem n_246_13 : ∀ l, xpr 246 13 l = l := xpr_no (by decide +kernel)
theorem r_246_14 : xfetch 246 14 = some (.getfield 31, 3) := by decide +kernel
theorem n_246_14 : ∀ l, xpr 246 14 l = l := xpr_no (by decide +kernel)
theorem r_246_17 : xfetch 246 17 = some (.bipush 40, 2) := by decide +kernel
theorem n_246_17 : ∀ l, xpr 246 17 l = l := xpr_no (by decide +kernel)
theorem r_246_19 : xfetch 246 19 = some (.iload_n 1, 1) := by decide +kernel
theorem n_246_19 : ∀ l, xpr 246 19 l = l := xpr_no (by decide +kernel)
theorem r_246_20 : xfetch 246 20 = some (.imul, 1) := by decide +kernel
theorem n_246_20 : ∀ l, xpr 246 20 l = l := xpr_no (by decide +kernel)
theorem r_246_21 : xfetch 246 21 = some (.iload 5, 2) := by decide +kernel
theorem n_246_21 : ∀ l, xpr 246 21 l = l := xpr_no (by decide +kernel)
theorem r_246_23 : xfetch 246 23 = some (.iadd, 1) := by decide +kernel
theorem n_246_23 : ∀ l, xpr 246 23 l = l := xpr_no (by decide +kernel)
theorem r_246_24 : xfetch 246 24 = some (.iaload, 1) := by decide +kernel
theorem n_246_24 : ∀ l, xpr 246 24 l = l := xpr_no (by decide +kernel)
theorem r_246_25 : xfetch 246 25 = some (.iadd, 1) := by decide +kernel
theorem n_246_25 : ∀ l, xpr 246 25 l = l := xpr_no (by decide +kernel)
theorem r_246_26 : xfetch 246 26 = some (.ireturn, 1) := by decide +kernel
theorem n_246_26 : ∀ l, xpr 246 26 l = l := xpr_no (by decide +kernel)
theorem r_246_27 : xfetch 246 27 = some (.iload_n 3, 1) := by decide +kernel
theorem n_246_27 : ∀ l, xpr 246 27 l = l := xpr_no (by decide +kernel)
theorem r_246_28 : xfetch 246 28 = some (.iconst 1, 1) := by decide +kernel
theorem n_246_28 : ∀ l, xpr 246 28 l = l := xpr_no (by decide +kernel)
theorem r_246_29 : xfetch 246 29 = some (.if_icmp .ne 7, 3) := by decide +kernel
theorem n_246_29 : ∀ l, xpr 246 29 l = l := xpr_no (by decide +kernel)
theorem r_246_32 : xfetch 246 32 = some (.iload_n 2, 1) := by decide +kernel
theorem n_246_32 : ∀ l, xpr 246 32 l = l := xpr_no (by decide +kernel)
theorem r_246_33 : xfetch 246 33 = some (.goto 4, 3) := by decide +kernel
theorem n_246_33 : ∀ l, xpr 246 33 l = l := xpr_no (by decide +kernel)
theorem r_246_36 : xfetch 246 36 = some (.iload_n 3, 1) := by decide +kernel
theorem n_246_36 : ∀ l, xpr 246 36 l = l := xpr_no (by decide +kernel)
theorem r_246_37 : xfetch 246 37 = some (.istore 6, 2) := by decide +kernel
theorem n_246_37 : ∀ l, xpr 246 37 l = l := xpr_no (by decide +kernel)
theorem r_246_39 : xfetch 246 39 = some (.iload 4, 2) := by decide +kernel
theorem n_246_39 : ∀ l, xpr 246 39 l = l := xpr_no (by decide +kernel)
theorem r_246_41 : xfetch 246 41 = some (.iload 6, 2) := by decide +kernel
theorem n_246_41 : ∀ l, xpr 246 41 l = l := xpr_no (by decide +kernel)
theorem r_246_43 : xfetch 246 43 = some (.idiv, 1) := by decide +kernel
theorem n_246_43 : ∀ l, xpr 246 43 l = l := xpr_no (by decide +kernel)
theorem r_246_44 : xfetch 246 44 = some (.aload_n 0, 1) := by decide +kernel
theorem n_246_44 : ∀ l, xpr 246 44 l = l := xpr_no (by decide +kernel)
theorem r_246_45 : xfetch 246 45 = some (.iload_n 1, 1) := by decide +kernel
theorem n_246_45 : ∀ l, xpr 246 45 l = l := xpr_no (by decide +kernel)
theorem r_246_46 : xfetch 246 46 = some (.iload 6, 2) := by decide +kernel
theorem n_246_46 : ∀ l, xpr 246 46 l = l := xpr_no (by decide +kernel)
theorem r_246_48 : xfetch 246 48 = some (.invokevirtual 222, 3) := by decide +kernel
theorem n_246_48 : ∀ l, xpr 246 48 l = l := xpr_no (by decide +kernel)
theorem r_246_51 : xfetch 246 51 = some (.imul, 1) := by decide +kernel
theorem n_246_51 : ∀ l, xpr 246 51 l = l := xpr_no (by decide +kernel)
theorem r_246_52 : xfetch 246 52 = some (.aload_n 0, 1) := by decide +kernel
theorem n_246_52 : ∀ l, xpr 246 52 l = l := xpr_no (by decide +kernel)
theorem r_246_53 : xfetch 246 53 = some (.iload_n 1, 1) := by decide +kernel
theorem n_246_53 : ∀ l, xpr 246 53 l = l := xpr_no (by decide +kernel)
theorem r_246_54 : xfetch 246 54 = some (.iload 6, 2) := by decide +kernel
theorem n_246_54 : ∀ l, xpr 246 54 l = l := xpr_no (by decide +kernel)
theorem r_246_56 : xfetch 246 56 = some (.iload 5, 2) := by decide +kernel
theorem n_246_56 : ∀ l, xpr 246 56 l = l := xpr_no (by decide +kernel)
theorem r_246_58 : xfetch 246 58 = some (.invokevirtual 219, 3) := by decide +kernel
theorem n_246_58 : ∀ l, xpr 246 58 l = l := xpr_no (by decide +kernel)
theorem r_246_61 : xfetch 246 61 = some (.iadd, 1) := by decide +kernel
theorem n_246_61 : ∀ l, xpr 246 61 l = l := xpr_no (by decide +kernel)
theorem r_246_62 : xfetch 246 62 = some (.iload 4, 2) := by decide +kernel
theorem n_246_62 : ∀ l, xpr 246 62 l = l := xpr_no (by decide +kernel)
theorem r_246_64 : xfetch 246 64 = some (.iload 6, 2) := by decide +kernel
theorem n_246_64 : ∀ l, xpr 246 64 l = l := xpr_no (by decide +kernel)
theorem r_246_66 : xfetch 246 66 = some (.irem, 1) := by decide +kernel
theorem n_246_66 : ∀ l, xpr 246 66 l = l := xpr_no (by decide +kernel)
theorem r_246_67 : xfetch 246 67 = some (.aload_n 0, 1) := by decide +kernel
theorem n_246_67 : ∀ l, xpr 246 67 l = l := xpr_no (by decide +kernel)
theorem r_246_68 : xfetch 246 68 = some (.getfield 28, 3) := by decide +kernel
theorem n_246_68 : ∀ l, xpr 246 68 l = l := xpr_no (by decide +kernel)
theorem r_246_71 : xfetch 246 71 = some (.bipush 40, 2) := by decide +kernel
theorem n_246_71 : ∀ l, xpr 246 71 l = l := xpr_no (by decide +kernel)
theorem r_246_73 : xfetch 246 73 = some (.iload_n 1, 1) := by decide +kernel
theorem n_246_73 : ∀ l, xpr 246 73 l = l := xpr_no (by decide +kernel)
theorem r_246_74 : xfetch 246 74 = some (.imul, 1) := by decide +kernel
theorem n_246_74 : ∀ l, xpr 246 74 l = l := xpr_no (by decide +kernel)
theorem r_246_75 : xfetch 246 75 = some (.iload 5, 2) := by decide +kernel
theorem n_246_75 : ∀ l, xpr 246 75 l = l := xpr_no (by decide +kernel)
theorem r_246_77 : xfetch 246 77 = some (.iadd, 1) := by decide +kernel
theorem n_246_77 : ∀ l, xpr 246 77 l = l := xpr_no (by decide +kernel)
theorem r_246_78 : xfetch 246 78 = some (.iaload, 1) := by decide +kernel
theorem n_246_78 : ∀ l, xpr 246 78 l = l := xpr_no (by decide +kernel)
theorem r_246_79 : xfetch 246 79 = some (.invokestatic 96, 3) := by decide +kernel
theorem n_246_79 : ∀ l, xpr 246 79 l = l := xpr_no (by decide +kernel)
theorem r_246_82 : xfetch 246 82 = some (.imul, 1) := by decide +kernel
theorem n_246_82 : ∀ l, xpr 246 82 l = l := xpr_no (by decide +kernel)
theorem r_246_83 : xfetch 246 83 = some (.iadd, 1) := by decide +kernel
theorem n_246_83 : ∀ l, xpr 246 83 l = l := xpr_no (by decide +kernel)
theorem r_246_84 : xfetch 246 84 = some (.ireturn, 1) := by decide +kernel
theorem n_246_84 : ∀ l, xpr 246 84 l = l := xpr_no (by decide +kernel)
theorem v_Model_distance_0 {S : Option (Nat × (Nat → Int32))} {s : zSt} {Q : Option Value ⊕ Nat → zSt → Prop} {x1 : Int} {x2 : Int} {x3 : Int} {x4 : Int} {x5 : Int} 
    (h : rng x3 ∧ ((x3 ≠ 0 → (x3 ≠ 1 → rng x4 ∧ (0 ≤ x4 ∧ (0 < x3 ∧ (wp S 231 0 [(0, rf 252), (1, iv x1), (2, iv x3)] [] s (fun o7 s7 => zkI (fun y7 => wp S 232 0 [(0, rf 252), (1, iv x1), (2, iv x3), (3, iv x5)] [] s7 (fun o9 s9 => zkI (fun y9 => (0 ≤ ((40 * x1) + x5) ∧ ((40 * x1) + x5) < 240) ∧ (Q (rI ((((x4 / x3) * y7) + y9) + ((x4 % x3) * (zby (zI s9 259 ((40 * x1) + x5)))))) s9)) (fun e9 => False) o9)) (fun e7 => False) o7))))) ∧ (x3 = 1 → rng x4 ∧ (rng x2 ∧ (0 ≤ x4 ∧ (0 < x2 ∧ (wp S 231 0 [(0, rf 252), (1, iv x1), (2, iv x2)] [] s (fun o18 s18 => zkI (fun y18 => wp S 232 0 [(0, rf 252), (1, iv x1), (2, iv x2), (3, iv x5)] [] s18 (fun o20 s20 => zkI (fun y20 => (0 ≤ ((40 * x1) + x5) ∧ ((40 * x1) + x5) < 240) ∧ (Q (rI ((((x4 / x2) * y18) + y20) + ((x4 % x2) * (zby (zI s20 259 ((40 * x1) + x5)))))) s20)) (fun e20 => False) o20)) (fun e18 => False) o18))))))) ∧ (x3 = 0 → (0 ≤ x1 ∧ x1 < 6) ∧ ((0 ≤ ((40 * x1) + x5) ∧ ((40 * x1) + x5) < 240) ∧ (Q (rI ((x4 * (zI s 257 x1)) + (zI s 260 ((40 * x1) + x5)))) s))))) :
    wp S 246 0 [(0, rf 252), (1, iv x1), (2, iv x2), (3, iv x3), (4, iv x4), (5, iv x5)] [] s Q := by
  refine i_iload_n (x := x3) r_246_0 (n_246_0 _) rfl ?_
  obtain ⟨g1, h⟩ := h
  refine i_if (t := 27) r_246_1 (n_246_1 _) rfl (T_ne g1 ⟨by omega, by omega⟩) (fun c2 => ?_) (fun c2 => ?_)
  · replace h := h.1 c2
    refine i_iload_n (x := x3) r_246_27 (n_246_27 _) rfl ?_
    refine i_iconst r_246_28 (n_246_28 _) ?_
    refine i_icmp (t := 36) r_246_29 (n_246_29 _) rfl (T_ne g1 ⟨by omega, by omega⟩) (fun c3 => ?_) (fun c3 => ?_)
    · replace h := h.1 c3
      refine i_iload_n (x := x3) r_246_36 (n_246_36 _) rfl ?_
      refine i_istore (l' := [(0, rf 252), (1, iv x1), (2, iv x2), (3, iv x3), (4, iv x4), (5, iv x5), (6, iv x3)]) r_246_37 (n_246_37 _) (by decide) rfl ?_
      refine i_iload (x := x4) r_246_39 (n_246_39 _) rfl ?_
      refine i_iload (x := x3) r_246_41 (n_246_41 _) rfl ?_
      obtain ⟨g4, h⟩ := h
      obtain ⟨g5, h⟩ := h
      obtain ⟨g6, h⟩ := h
      refine i_idiv r_246_43 (n_246_43 _) g4 g1 (by omega) (by omega) ?_
      refine i_aload_n (a := 252) r_246_44 (n_246_44 _) rfl ?_
      refine i_iload_n (x := x1) r_246_45 (n_246_45 _) rfl ?_
      refine i_iload (x := x3) r_246_46 (n_246_46 _) rfl ?_
      refine wp_virt (b := 252) (rest := [iv (x4 / x3)]) (Ls := [(0, rf 252), (1, iv x1), (2, iv x3)]) r_246_48 (n_246_48 _) rfl ⟨rfl, rfl, by decide, by decide⟩ rfl rfl lf_252 ⟨rfl, Nat.le_of_ble_eq_true rfl, Nat.le_of_ble_eq_true rfl⟩ rfl h ?_
      intro o7 s7 h
      rcases h with ⟨y7, q8, rfl, h⟩ | ⟨e7, rfl, h⟩
      · refine .inl ⟨some (iv y7), rfl, ?_⟩
        show wp S 246 51 [(0, rf 252), (1, iv x1), (2, iv x2), (3, iv x3), (4, iv x4), (5, iv x5), (6, iv x3)] [iv y7, iv (x4 / x3)] s7 Q
        refine i_imul r_246_51 (n_246_51 _) ?_
        refine i_aload_n (a := 252) r_246_52 (n_246_52 _) rfl ?_
        refine i_iload_n (x := x1) r_246_53 (n_246_53 _) rfl ?_
        refine i_iload (x := x3) r_246_54 (n_246_54 _) rfl ?_
        refine i_iload (x := x5) r_246_56 (n_246_56 _) rfl ?_
        refine wp_virt (b := 252) (rest := [iv ((x4 / x3) * y7)]) (Ls := [(0, rf 252), (1, iv x1), (2, iv x3), (3, iv x5)]) r_246_58 (n_246_58 _) rfl ⟨rfl, rfl, by decide, by decide⟩ rfl rfl lf_252 ⟨rfl, Nat.le_of_ble_eq_true rfl, Nat.le_of_ble_eq_true rfl⟩ rfl h ?_
        intro o9 s9 h
        rcases h with ⟨y9, q10, rfl, h⟩ | ⟨e9, rfl, h⟩
        · refine .inl ⟨some (iv y9), rfl, ?_⟩
          show wp S 246 61 [(0, rf 252), (1, iv x1), (2, iv x2), (3, iv x3), (4, iv x4), (5, iv x5), (6, iv x3)] [iv y9, iv ((x4 / x3) * y7)] s9 Q
          refine i_iadd r_246_61 (n_246_61 _) ?_
          refine i_iload (x := x4) r_246_62 (n_246_62 _) rfl ?_
          refine i_iload (x := x3) r_246_64 (n_246_64 _) rfl ?_
          refine i_irem r_246_66 (n_246_66 _) g4 g1 (by omega) (by omega) ?_
          refine i_aload_n (a := 252) r_246_67 (n_246_67 _) rfl ?_
          refine i_getR (a := 252) (b := 259) r_246_68 (n_246_68 _) rfl rfl rfl (by omega) lf_252 (by omega) ?_
          refine i_bipush r_246_71 (n_246_71 _) rfl ?_
          refine i_iload_n (x := x1) r_246_73 (n_246_73 _) rfl ?_
          refine i_imul r_246_74 (n_246_74 _) ?_
          refine i_iload (x := x5) r_246_75 (n_246_75 _) rfl ?_
          refine i_iadd r_246_77 (n_246_77 _) ?_
          obtain ⟨g11, h⟩ := h
          refine i_iaload (a := 259) (j := (40 * x1) + x5) r_246_78 (n_246_78 _) lf_259 ⟨by omega, by omega⟩ (by omega) (by omega) (fun q12 => ?_)
          refine wp_stat (rest := [iv (x4 % x3), iv (((x4 / x3) * y7) + y9)]) (Ls := [(0, iv (zI s9 259 ((40 * x1) + x5)))]) r_246_79 (n_246_79 _) rfl ⟨rfl, by decide, by decide, by decide⟩ rfl rfl ⟨rfl, Nat.le_of_ble_eq_true rfl, Nat.le_of_ble_eq_true rfl⟩ rfl (K_Model_bytesOf q12) ?_
          rintro _ _ ⟨rfl, rfl⟩
          refine .inl ⟨some (iv (zby (zI s9 259 ((40 * x1) + x5)))), rfl, ?_⟩
          show wp S 246 82 [(0, rf 252), (1, iv x1), (2, iv x2), (3, iv x3), (4, iv x4), (5, iv x5), (6, iv x3)] [iv (zby (zI s9 259 ((40 * x1) + x5))), iv (x4 % x3), iv (((x4 / x3) * y7) + y9)] s9 Q
          refine i_imul r_246_82 (n_246_82 _) ?_
          refine i_iadd r_246_83 (n_246_83 _) ?_
          exact i_ireturn r_246_84 (n_246_84 _) rfl h
        · skip
          exact h.elim
      · skip
        exact h.elim
    · replace h := h.2 c3
      refine i_iload_n (x := x2) r_246_32 (n_246_32 _) rfl ?_
      refine i_goto (t := 37) r_246_33 (n_246_33 _) rfl ?_
      refine i_istore (l' := [(0, rf 252), (1, iv x1), (2, iv x2), (3, iv x3), (4, iv x4), (5, iv x5), (6, iv x2)]) r_246_37 (n_246_37 _) (by decide) rfl ?_
      refine i_iload (x := x4) r_246_39 (n_246_39 _) rfl ?_
      refine i_iload (x := x2) r_246_41 (n_246_41 _) rfl ?_
      obtain ⟨g14, h⟩ := h
      obtain ⟨g15, h⟩ := h
      obtain ⟨g16, h⟩ := h
      obtain ⟨g17, h⟩ := h
      refine i_idiv r_246_43 (n_246_43 _) g14 g15 (by omega) (by omega) ?_
      refine i_aload_n (a := 252) r_246_44 (n_246_44 _) rfl ?_
      refine i_iload_n (x := x1) r_246_45 (n_246_45 _) rfl ?_
      refine i_iload (x := x2) r_246_46 (n_246_46 _) rfl ?_
      refine wp_virt (b := 252) (rest := [iv (x4 / x2)]) (Ls := [(0, rf 252), (1, iv x1), (2, iv x2)]) r_246_48 (n_246_48 _) rfl ⟨rfl, rfl, by decide, by decide⟩ rfl rfl lf_252 ⟨rfl, Nat.le_of_ble_eq_true rfl, Nat.le_of_ble_eq_true rfl⟩ rfl h ?_
      intro o18 s18 h
      rcases h with ⟨y18, q19, rfl, h⟩ | ⟨e18, rfl, h⟩
      · refine .inl ⟨some (iv y18), rfl, ?_⟩
        show wp S 246 51 [(0, rf 252), (1, iv x1), (2, iv x2), (3, iv x3), (4, iv x4), (5, iv x5), (6, iv x2)] [iv y18, iv (x4 / x2)] s18 Q
        refine i_imul r_246_51 (n_246_51 _) ?_
        refine i_aload_n (a := 252) r_246_52 (n_246_52 _) rfl ?_
        refine i_iload_n (x := x1) r_246_53 (n_246_53 _) rfl ?_
        refine i_iload (x := x2) r_246_54 (n_246_54 _) rfl ?_
        refine i_iload (x := x5) r_246_56 (n_246_56 _) rfl ?_
        refine wp_virt (b := 252) (rest := [iv ((x4 / x2) * y18)]) (Ls := [(0, rf 252), (1, iv x1), (2, iv x2), (3, iv x5)]) r_246_58 (n_246_58 _) rfl ⟨rfl, rfl, by decide, by decide⟩ rfl rfl lf_252 ⟨rfl, Nat.le_of_ble_eq_true rfl, Nat.le_of_ble_eq_true rfl⟩ rfl h ?_
        intro o20 s20 h
        rcases h with ⟨y20, q21, rfl, h⟩ | ⟨e20, rfl, h⟩
        · refine .inl ⟨some (iv y20), rfl, ?_⟩
          show wp S 246 61 [(0, rf 252), (1, iv x1), (2, iv x2), (3, iv x3), (4, iv x4), (5, iv x5), (6, iv x2)] [iv y20, iv ((x4 / x2) * y18)] s20 Q
          refine i_iadd r_246_61 (n_246_61 _) ?_
          refine i_iload (x := x4) r_246_62 (n_246_62 _) rfl ?_
          refine i_iload (x := x2) r_246_64 (n_246_64 _) rfl ?_
          refine i_irem r_246_66 (n_246_66 _) g14 g15 (by omega) (by omega) ?_
          refine i_aload_n (a := 252) r_246_67 (n_246_67 _) rfl ?_
          refine i_getR (a := 252) (b := 259) r_246_68 (n_246_68 _) rfl rfl rfl (by omega) lf_252 (by omega) ?_
          refine i_bipush r_246_71 (n_246_71 _) rfl ?_
          refine i_iload_n (x := x1) r_246_73 (n_246_73 _) rfl ?_
          refine i_imul r_246_74 (n_246_74 _) ?_
          refine i_iload (x := x5) r_246_75 (n_246_75 _) rfl ?_
          refine i_iadd r_246_77 (n_246_77 _) ?_
          obtain ⟨g22, h⟩ := h
          refine i_iaload (a := 259) (j := (40 * x1) + x5) r_246_78 (n_246_78 _) lf_259 ⟨by omega, by omega⟩ (by omega) (by omega) (fun q23 => ?_)
          refine wp_stat (rest := [iv (x4 % x2), iv (((x4 / x2) * y18) + y20)]) (Ls := [(0, iv (zI s20 259 ((40 * x1) + x5)))]) r_246_79 (n_246_79 _) rfl ⟨rfl, by decide, by decide, by decide⟩ rfl rfl ⟨rfl, Nat.le_of_ble_eq_true rfl, Nat.le_of_ble_eq_true rfl⟩ rfl (K_Model_bytesOf q23) ?_
          rintro _ _ ⟨rfl, rfl⟩
          refine .inl ⟨some (iv (zby (zI s20 259 ((40 * x1) + x5)))), rfl, ?_⟩
          show wp S 246 82 [(0, rf 252), (1, iv x1), (2, iv x2), (3, iv x3), (4, iv x4), (5, iv x5), (6, iv x2)] [iv (zby (zI s20 259 ((40 * x1) + x5))), iv (x4 % x2), iv (((x4 / x2) * y18) + y20)] s20 Q
          refine i_imul r_246_82 (n_246_82 _) ?_
          refine i_iadd r_246_83 (n_246_83 _) ?_
          exact i_ireturn r_246_84 (n_246_84 _) rfl h
        · skip
          exact h.elim
      · skip
        exact h.elim
  · replace h := h.2 c2
    refine i_iload (x := x4) r_246_4 (n_246_4 _) rfl ?_
    refine i_aload_n (a := 252) r_246_6 (n_246_6 _) rfl ?_
    refine i_getR (a := 252) (b := 257) r_246_7 (n_246_7 _) rfl rfl rfl (by omega) lf_252 (by omega) ?_
    refine i_iload_n (x := x1) r_246_10 (n_246_10 _) rfl ?_
    obtain ⟨g25, h⟩ := h
    refine i_iaload (a := 257) (j := x1) r_246_11 (n_246_11 _) lf_257 ⟨by omega, by omega⟩ (by omega) (by omega) (fun q26 => ?_)
    refine i_imul r_246_12 (n_246_12 _) ?_
    refine i_aload_n (a := 252) r_246_13 (n_246_13 _) rfl ?_
    refine i_getR (a := 252) (b := 260) r_246_14 (n_246_14 _) rfl rfl rfl (by omega) lf_252 (by omega) ?_
    refine i_bipush r_246_17 (n_246_17 _) rfl ?_
    refine i_iload_n (x := x1) r_246_19 (n_246_19 _) rfl ?_
    refine i_imul r_246_20 (n_246_20 _) ?_
    refine i_iload (x := x5) r_246_21 (n_246_21 _) rfl ?_
    refine i_iadd r_246_23 (n_246_23 _) ?_
    obtain ⟨g27, h⟩ := h
    refine i_iaload (a := 260) (j := (40 * x1) + x5) r_246_24 (n_246_24 _) lf_260 ⟨by omega, by omega⟩ (by omega) (by omega) (fun q28 => ?_)
    refine i_iadd r_246_25 (n_246_25 _) ?_
    exact i_ireturn r_246_26 (n_246_26 _) rfl h
theorem r_247_0 : xfetch 247 0 = some (.aload_n 0, 1) := by decide +kernel
theorem n_247_0 : ∀ l, xpr 247 0 l = l := xpr_no (by decide +kernel)
theorem r_247_1 : xfetch 247 1 = some (.aload_n 0, 1) := by decide +kernel
theorem n_247_1 : ∀ l, xpr 247 1 l = l := xpr_no (by decide +kernel)
theorem r_247_2 : xfetch 247 2 = some (.aload_n 0, 1) := by decide +kernel
theorem n_247_2 : ∀ l, xpr 247 2 l = l := xpr_no (by decide +kernel)
theorem r_247_3 : xfetch 247 3 = some (.iload_n 1, 1) := by decide +kernel
theorem n_247_3 : ∀ l, xpr 247 3 l = l := xpr_no (by decide +kernel)
theorem r_247_4 : xfetch 247 4 = some (.iload_n 3, 1) := by decide +kernel
theorem n_247_4 : ∀ l, xpr 247 4 l = l := xpr_no (by decide +kernel)
theorem r_247_5 : xfetch 247 5 = some (.invokevirtual 254, 3) := by decide +kernel
theorem n_247_5 : ∀ l, xpr 247 5 l = l := xpr_no (by decide +kernel)
theorem r_247_8 : xfetch 247 8 = some (.ifCond .eq 16, 3) := by decide +kernel
theorem n_247_8 : ∀ l, xpr 247 8 l = l := xpr_no (by decide +kernel)
theorem r_247_11 : xfetch 247 11 = some (.aload_n 0, 1) := by decide +kernel
theorem n_247_11 : ∀ l, xpr 247 11 l = l := xpr_no (by decide +kernel)
theorem r_247_12 : xfetch 247 12 = some (.iload_n 1, 1) := by decide +kernel
theorem n_247_12 : ∀ l, xpr 247 12 l = l := xpr_no (by decide +kernel)
theorem r_247_13 : xfetch 247 13 = some (.iload_n 2, 1) := by decide +kernel
theorem n_247_13 : ∀ l, xpr 247 13 l = l := xpr_no (by decide +kernel)
theorem r_247_14 : xfetch 247 14 = some (.invokevirtual 257, 3) := by decide +kernel
theorem n_247_14 : ∀ l, xpr 247 14 l = l := xpr_no (by decide +kernel)
theorem r_247_17 : xfetch 247 17 = some (.ifCond .eq 7, 3) := by decide +kernel
theorem n_247_17 : ∀ l, xpr 247 17 l = l := xpr_no (by decide +kernel)
theorem r_247_20 : xfetch 247 20 = some (.iconst 1, 1) := by decide +kernel
theorem n_247_20 : ∀ l, xpr 247 20 l = l := xpr_no (by decide +kernel)
theorem r_247_21 : xfetch 247 21 = some (.goto 4, 3) := by decide +kernel
theorem n_247_21 : ∀ l, xpr 247 21 l = l := xpr_no (by decide +kernel)
theorem r_247_24 : xfetch 247 24 = some (.iconst 0, 1) := by decide +kernel
theorem n_247_24 : ∀ l, xpr 247 24 l = l := xpr_no (by decide +kernel)
theorem r_247_25 : xfetch 247 25 = some (.invokevirtual 175, 3) := by decide +kernel
theorem n_247_25 : ∀ l, xpr 247 25 l = l := xpr_no (by decide +kernel)
theorem r_247_28 : xfetch 247 28 = some (.invokevirtual 84, 3) := by decide +kernel
theorem n_247_28 : ∀ l, xpr 247 28 l = l := xpr_no (by decide +kernel)
theorem r_247_31 : xfetch 247 31 = some (.ifCond .eq 7, 3) := by decide +kernel
theorem n_247_31 : ∀ l, xpr 247 31 l = l := xpr_no (by decide +kernel)
theorem r_247_34 : xfetch 247 34 = some (.lconst 0, 1) := by decide +kernel
theorem n_247_34 : ∀ l, xpr 247 34 l = l := xpr_no (by decide +kernel)
theorem r_247_35 : xfetch 247 35 = some (.goto 10, 3) := by decide +kernel
theorem n_247_35 : ∀ l, xpr 247 35 l = l := xpr_no (by decide +kernel)
theorem r_247_38 : xfetch 247 38 = some (.aload_n 0, 1) := by decide +kernel
theorem n_247_38 : ∀ l, xpr 247 38 l = l := xpr_no (by decide +kernel)
theorem r_247_39 : xfetch 247 39 = some (.iload_n 1, 1) := by decide +kernel
theorem n_247_39 : ∀ l, xpr 247 39 l = l := xpr_no (by decide +kernel)
theorem r_247_40 : xfetch 247 40 = some (.iload_n 2, 1) := by decide +kernel
theorem n_247_40 : ∀ l, xpr 247 40 l = l := xpr_no (by decide +kernel)
theorem r_247_41 : xfetch 247 41 = some (.iload_n 3, 1) := by decide +kernel
theorem n_247_41 : ∀ l, xpr 247 41 l = l := xpr_no (by decide +kernel)
theorem r_247_42 : xfetch 247 42 = some (.invokevirtual 278, 3) := by decide +kernel
theorem n_247_42 : ∀ l, xpr 247 42 l = l := xpr_no (by decide +kernel)
theorem r_247_45 : xfetch 247 45 = some (.lreturn, 1) := by decide +kernel
theorem n_247_45 : ∀ l, xpr 247 45 l = l := xpr_no (by decide +kernel)
theorem v_Model_get_0 {S : Option (Nat × (Nat → Int32))} {s : zSt} {Q : Option Value ⊕ Nat → zSt → Prop} {x1 : Int} {x2 : Int} {x3 : Int} 
    (h : wp S 243 0 [(0, rf 252), (1, iv x1), (2, iv x3)] [] s (fun o1 s1 => zkI (fun y1 => (y1 = 0 → Q (rL 0) (zwI s1 252 3 1)) ∧ (y1 ≠ 0 → (0 ≤ ((157 + (6 * x1)) + 1) ∧ ((157 + (6 * x1)) + 1) < 1199) ∧ (rng x2 ∧ (rng ((zI s1 253 ((157 + (6 * x1)) + 1)) - 1) ∧ ((¬ (0 ≤ x2 ∧ x2 ≤ ((zI s1 253 ((157 + (6 * x1)) + 1)) - 1)) → Q (rL 0) (zwI s1 252 3 1)) ∧ (0 ≤ x2 ∧ x2 ≤ ((zI s1 253 ((157 + (6 * x1)) + 1)) - 1) → wp S 248 0 [(0, rf 252), (1, iv x1), (2, iv x2), (3, iv x3)] [] (zwI s1 252 3 0) (fun o15 s15 => zkL (fun y15 => Q (rL y15) s15) (fun e15 => False) o15))))))) (fun e1 => False) o1)) :
    wp S 247 0 [(0, rf 252), (1, iv x1), (2, iv x2), (3, iv x3)] [] s Q := by
  refine i_aload_n (a := 252) r_247_0 (n_247_0 _) rfl ?_
  refine i_aload_n (a := 252) r_247_1 (n_247_1 _) rfl ?_
  refine i_aload_n (a := 252) r_247_2 (n_247_2 _) rfl ?_
  refine i_iload_n (x := x1) r_247_3 (n_247_3 _) rfl ?_
  refine i_iload_n (x := x3) r_247_4 (n_247_4 _) rfl ?_
  refine wp_virt (b := 252) (rest := [rf 252, rf 252]) (Ls := [(0, rf 252), (1, iv x1), (2, iv x3)]) r_247_5 (n_247_5 _) rfl ⟨rfl, rfl, by decide, by decide⟩ rfl rfl lf_252 ⟨rfl, Nat.le_of_ble_eq_true rfl, Nat.le_of_ble_eq_true rfl⟩ rfl h ?_
  intro o1 s1 h
  rcases h with ⟨y1, q2, rfl, h⟩ | ⟨e1, rfl, h⟩
  · refine .inl ⟨some (iv y1), rfl, ?_⟩
    show wp S 247 8 [(0, rf 252), (1, iv x1), (2, iv x2), (3, iv x3)] [iv y1, rf 252, rf 252] s1 Q
    refine i_if (t := 24) r_247_8 (n_247_8 _) rfl (T_eq q2 ⟨by omega, by omega⟩) (fun c3 => ?_) (fun c3 => ?_)
    · replace h := h.1 c3
      refine i_iconst r_247_24 (n_247_24 _) ?_
      refine wp_virt (b := 252) (rest := [rf 252]) (Ls := [(0, rf 252), (1, iv 0)]) r_247_25 (n_247_25 _) rfl ⟨rfl, rfl, by decide, by decide⟩ rfl rfl lf_252 ⟨rfl, Nat.le_of_ble_eq_true rfl, Nat.le_of_ble_eq_true rfl⟩ rfl K_Model_need0 ?_
      rintro _ _ ⟨rfl, rfl⟩
      refine .inl ⟨some (iv 1), rfl, ?_⟩
      show wp S 247 28 [(0, rf 252), (1, iv x1), (2, iv x2), (3, iv x3)] [iv 1, rf 252] s1 Q
      refine wp_virt (b := 252) (rest := []) (Ls := [(0, rf 252), (1, iv 1)]) r_247_28 (n_247_28 _) rfl ⟨rfl, rfl, by decide, by decide⟩ rfl rfl lf_252 ⟨rfl, Nat.le_of_ble_eq_true rfl, Nat.le_of_ble_eq_true rfl⟩ rfl (K_Model_refused1 ⟨by omega, by omega⟩ (by omega)) ?_
      rintro _ _ ⟨rfl, rfl⟩
      refine .inl ⟨some (iv 1), rfl, ?_⟩
      show wp S 247 31 [(0, rf 252), (1, iv x1), (2, iv x2), (3, iv x3)] [iv 1] (zwI s1 252 3 1) Q
      refine i_if (t := 38) r_247_31 (n_247_31 _) rfl (T_eq ⟨by omega, by omega⟩ ⟨by omega, by omega⟩) (fun z => absurd z (by omega)) (fun _ => ?_)
      refine i_lconst r_247_34 (n_247_34 _) ?_
      refine i_goto (t := 45) r_247_35 (n_247_35 _) rfl ?_
      exact i_lreturn r_247_45 (n_247_45 _) rfl h
    · replace h := h.2 c3
      refine i_aload_n (a := 252) r_247_11 (n_247_11 _) rfl ?_
      refine i_iload_n (x := x1) r_247_12 (n_247_12 _) rfl ?_
      refine i_iload_n (x := x2) r_247_13 (n_247_13 _) rfl ?_
      obtain ⟨g6, h⟩ := h
      obtain ⟨g7, h⟩ := h
      obtain ⟨g8, h⟩ := h
      refine wp_virt (b := 252) (rest := [rf 252, rf 252]) (Ls := [(0, rf 252), (1, iv x1), (2, iv x2)]) r_247_14 (n_247_14 _) rfl ⟨rfl, rfl, by decide, by decide⟩ rfl rfl lf_252 ⟨rfl, Nat.le_of_ble_eq_true rfl, Nat.le_of_ble_eq_true rfl⟩ rfl (K_Model_isRow g6 g7 g8) ?_
      rintro _ _ ⟨rfl, rfl⟩
      refine .inl ⟨some (iv (bi (0 ≤ x2 ∧ x2 ≤ ((zI s1 253 ((157 + (6 * x1)) + 1)) - 1)))), rfl, ?_⟩
      show wp S 247 17 [(0, rf 252), (1, iv x1), (2, iv x2), (3, iv x3)] [iv (bi (0 ≤ x2 ∧ x2 ≤ ((zI s1 253 ((157 + (6 * x1)) + 1)) - 1))), rf 252, rf 252] s1 Q
      refine i_if (t := 24) r_247_17 (n_247_17 _) rfl (TB_eq) (fun c10 => ?_) (fun c10 => ?_)
      · replace h := h.1 c10
        refine i_iconst r_247_24 (n_247_24 _) ?_
        refine wp_virt (b := 252) (rest := [rf 252]) (Ls := [(0, rf 252), (1, iv 0)]) r_247_25 (n_247_25 _) rfl ⟨rfl, rfl, by decide, by decide⟩ rfl rfl lf_252 ⟨rfl, Nat.le_of_ble_eq_true rfl, Nat.le_of_ble_eq_true rfl⟩ rfl K_Model_need0 ?_
        rintro _ _ ⟨rfl, rfl⟩
        refine .inl ⟨some (iv 1), rfl, ?_⟩
        show wp S 247 28 [(0, rf 252), (1, iv x1), (2, iv x2), (3, iv x3)] [iv 1, rf 252] s1 Q
        refine wp_virt (b := 252) (rest := []) (Ls := [(0, rf 252), (1, iv 1)]) r_247_28 (n_247_28 _) rfl ⟨rfl, rfl, by decide, by decide⟩ rfl rfl lf_252 ⟨rfl, Nat.le_of_ble_eq_true rfl, Nat.le_of_ble_eq_true rfl⟩ rfl (K_Model_refused1 ⟨by omega, by omega⟩ (by omega)) ?_
        rintro _ _ ⟨rfl, rfl⟩
        refine .inl ⟨some (iv 1), rfl, ?_⟩
        show wp S 247 31 [(0, rf 252), (1, iv x1), (2, iv x2), (3, iv x3)] [iv 1] (zwI s1 252 3 1) Q
        refine i_if (t := 38) r_247_31 (n_247_31 _) rfl (T_eq ⟨by omega, by omega⟩ ⟨by omega, by omega⟩) (fun z => absurd z (by omega)) (fun _ => ?_)
        refine i_lconst r_247_34 (n_247_34 _) ?_
        refine i_goto (t := 45) r_247_35 (n_247_35 _) rfl ?_
        exact i_lreturn r_247_45 (n_247_45 _) rfl h
      · replace h := h.2 c10
        refine i_iconst r_247_20 (n_247_20 _) ?_
        refine i_goto (t := 25) r_247_21 (n_247_21 _) rfl ?_
        refine wp_virt (b := 252) (rest := [rf 252]) (Ls := [(0, rf 252), (1, iv 1)]) r_247_25 (n_247_25 _) rfl ⟨rfl, rfl, by decide, by decide⟩ rfl rfl lf_252 ⟨rfl, Nat.le_of_ble_eq_true rfl, Nat.le_of_ble_eq_true rfl⟩ rfl (K_Model_need1 ⟨by omega, by omega⟩ (by omega)) ?_
        rintro _ _ ⟨rfl, rfl⟩
        refine .inl ⟨some (iv 0), rfl, ?_⟩
        show wp S 247 28 [(0, rf 252), (1, iv x1), (2, iv x2), (3, iv x3)] [iv 0, rf 252] s1 Q
        refine wp_virt (b := 252) (rest := []) (Ls := [(0, rf 252), (1, iv 0)]) r_247_28 (n_247_28 _) rfl ⟨rfl, rfl, by decide, by decide⟩ rfl rfl lf_252 ⟨rfl, Nat.le_of_ble_eq_true rfl, Nat.le_of_ble_eq_true rfl⟩ rfl K_Model_refused0 ?_
        rintro _ _ ⟨rfl, rfl⟩
        refine .inl ⟨some (iv 0), rfl, ?_⟩
        show wp S 247 31 [(0, rf 252), (1, iv x1), (2, iv x2), (3, iv x3)] [iv 0] (zwI s1 252 3 0) Q
        refine i_if (t := 38) r_247_31 (n_247_31 _) rfl (T_eq ⟨by omega, by omega⟩ ⟨by omega, by omega⟩) (fun _ => ?_) (fun z => absurd z (by omega))
        refine i_aload_n (a := 252) r_247_38 (n_247_38 _) rfl ?_
        refine i_iload_n (x := x1) r_247_39 (n_247_39 _) rfl ?_
        refine i_iload_n (x := x2) r_247_40 (n_247_40 _) rfl ?_
        refine i_iload_n (x := x3) r_247_41 (n_247_41 _) rfl ?_
        refine wp_virt (b := 252) (rest := []) (Ls := [(0, rf 252), (1, iv x1), (2, iv x2), (3, iv x3)]) r_247_42 (n_247_42 _) rfl ⟨rfl, rfl, by decide, by decide⟩ rfl rfl lf_252 ⟨rfl, Nat.le_of_ble_eq_true rfl, Nat.le_of_ble_eq_true rfl⟩ rfl h ?_
        intro o15 s15 h
        rcases h with ⟨y15, rfl, h⟩ | ⟨e15, rfl, h⟩
        · refine .inl ⟨some (.long y15), rfl, ?_⟩
          show wp S 247 45 [(0, rf 252), (1, iv x1), (2, iv x2), (3, iv x3)] [.long y15] s15 Q
          exact i_lreturn r_247_45 (n_247_45 _) rfl h
        · skip
          exact h.elim
  · skip
    exact h.elim
theorem r_248_0 : xfetch 248 0 = some (.aload_n 0, 1) := by decide +kernel
theorem n_248_0 : ∀ l, xpr 248 0 l = l := xpr_no (by decide +kernel)
theorem r_248_1 : xfetch 248 1 = some (.getfield 28, 3) := by decide +kernel
theorem n_248_1 : ∀ l, xpr 248 1 l = l := xpr_no (by decide +kernel)
theorem r_248_4 : xfetch 248 4 = some (.bipush 40, 2) := by decide +kernel
theorem n_248_4 : ∀ l, xpr 248 4 l = l := xpr_no (by decide +kernel)
theorem r_248_6 : xfetch 248 6 = some (.aload_n 0, 1) := by decide +kernel
theorem n_248_6 : ∀ l, xpr 248 6 l = l := xpr_no (by decide +kernel)
theorem r_248_7 : xfetch 248 7 = some (.iload_n 1, 1) := by decide +kernel
theorem n_248_7 : ∀ l, xpr 248 7 l = l := xpr_no (by decide +kernel)
theorem r_248_8 : xfetch 248 8 = some (.iconst 0, 1) := by decide +kernel
theorem n_248_8 : ∀ l, xpr 248 8 l = l := xpr_no (by decide +kernel)
theorem r_248_9 : xfetch 248 9 = some (.invokevirtual 228, 3) := by decide +kernel
theorem n_248_9 : ∀ l, xpr 248 9 l = l := xpr_no (by decide +kernel)
theorem r_248_12 : xfetch 248 12 = some (.imul, 1) := by decide +kernel
theorem n_248_12 : ∀ l, xpr 248 12 l = l := xpr_no (by decide +kernel)
theorem r_248_13 : xfetch 248 13 = some (.iload_n 3, 1) := by decide +kernel
theorem n_248_13 : ∀ l, xpr 248 13 l = l := xpr_no (by decide +kernel)
theorem r_248_14 : xfetch 248 14 = some (.iadd, 1) := by decide +kernel
theorem n_248_14 : ∀ l, xpr 248 14 l = l := xpr_no (by decide +kernel)
theorem r_248_15 : xfetch 248 15 = some (.iaload, 1) := by decide +kernel
theorem n_248_15 : ∀ l, xpr 248 15 l = l := xpr_no (by decide +kernel)
theorem r_248_16 : xfetch 248 16 = some (.istore 4, 2) := by decide +kernel
theorem n_248_16 : ∀ l, xpr 248 16 l = l := xpr_no (by decide +kernel)
theorem r_248_18 : xfetch 248 18 = some (.aload_n 0, 1) := by decide +kernel
theorem n_248_18 : ∀ l, xpr 248 18 l = l := xpr_no (by decide +kernel)
theorem r_248_19 : xfetch 248 19 = some (.aload_n 0, 1) := by decide +kernel
theorem n_248_19 : ∀ l, xpr 248 19 l = l := xpr_no (by decide +kernel)
theorem r_248_20 : xfetch 248 20 = some (.iload_n 1, 1) := by decide +kernel
theorem n_248_20 : ∀ l, xpr 248 20 l = l := xpr_no (by decide +kernel)
theorem r_248_21 : xfetch 248 21 = some (.iload_n 2, 1) := by decide +kernel
theorem n_248_21 : ∀ l, xpr 248 21 l = l := xpr_no (by decide +kernel)
theorem r_248_22 : xfetch 248 22 = some (.iload_n 3, 1) := by decide +kernel
theorem n_248_22 : ∀ l, xpr 248 22 l = l := xpr_no (by decide +kernel)
theorem r_248_23 : xfetch 248 23 = some (.invokevirtual 260, 3) := by decide +kernel
theorem n_248_23 : ∀ l, xpr 248 23 l = l := xpr_no (by decide +kernel)
theorem r_248_26 : xfetch 248 26 = some (.iload 4, 2) := by decide +kernel
theorem n_248_26 : ∀ l, xpr 248 26 l = l := xpr_no (by decide +kernel)
theorem r_248_28 : xfetch 248 28 = some (.invokestatic 96, 3) := by decide +kernel
theorem n_248_28 : ∀ l, xpr 248 28 l = l := xpr_no (by decide +kernel)
theorem r_248_31 : xfetch 248 31 = some (.aload_n 0, 1) := by decide +kernel
theorem n_248_31 : ∀ l, xpr 248 31 l = l := xpr_no (by decide +kernel)
theorem r_248_32 : xfetch 248 32 = some (.iload_n 1, 1) := by decide +kernel
theorem n_248_32 : ∀ l, xpr 248 32 l = l := xpr_no (by decide +kernel)
theorem r_248_33 : xfetch 248 33 = some (.iconst 3, 1) := by decide +kernel
theorem n_248_33 : ∀ l, xpr 248 33 l = l := xpr_no (by decide +kernel)
theorem r_248_34 : xfetch 248 34 = some (.invokevirtual 228, 3) := by decide +kernel
theorem n_248_34 : ∀ l, xpr 248 34 l = l := xpr_no (by decide +kernel)
theorem r_248_37 : xfetch 248 37 = some (.invokevirtual 265, 3) := by decide +kernel
theorem n_248_37 : ∀ l, xpr 248 37 l = l := xpr_no (by decide +kernel)
theorem r_248_40 : xfetch 248 40 = some (.lstore 5, 2) := by decide +kernel
theorem n_248_40 : ∀ l, xpr 248 40 l = l := xpr_no (by decide +kernel)
theorem r_248_42 : xfetch 248 42 = some (.iload 4, 2) := by decide +kernel
theorem n_248_42 : ∀ l, xpr 248 42 l = l := xpr_no (by decide +kernel)
theorem r_248_44 : xfetch 248 44 = some (.invokestatic 109, 3) := by decide +kernel
theorem n_248_44 : ∀ l, xpr 248 44 l = l := xpr_no (by decide +kernel)
theorem r_248_47 : xfetch 248 47 = some (.ifCond .eq 23, 3) := by decide +kernel
theorem n_248_47 : ∀ l, xpr 248 47 l = l := xpr_no (by decide +kernel)
theorem r_248_50 : xfetch 248 50 = some (.lload 5, 2) := by decide +kernel
theorem n_248_50 : ∀ l, xpr 248 50 l = l := xpr_no (by decide +kernel)
theorem r_248_52 : xfetch 248 52 = some (.aload_n 0, 1) := by decide +kernel
theorem n_248_52 : ∀ l, xpr 248 52 l = l := xpr_no (by decide +kernel)
theorem r_248_53 : xfetch 248 53 = some (.iload_n 1, 1) := by decide +kernel
theorem n_248_53 : ∀ l, xpr 248 53 l = l := xpr_no (by decide +kernel)
theorem r_248_54 : xfetch 248 54 = some (.iload_n 3, 1) := by decide +kernel
theorem n_248_54 : ∀ l, xpr 248 54 l = l := xpr_no (by decide +kernel)
theorem r_248_55 : xfetch 248 55 = some (.invokevirtual 269, 3) := by decide +kernel
theorem n_248_55 : ∀ l, xpr 248 55 l = l := xpr_no (by decide +kernel)
theorem r_248_58 : xfetch 248 58 = some (.lshr, 1) := by decide +kernel
theorem n_248_58 : ∀ l, xpr 248 58 l = l := xpr_no (by decide +kernel)
theorem r_248_59 : xfetch 248 59 = some (.lconst 1, 1) := by decide +kernel
theorem n_248_59 : ∀ l, xpr 248 59 l = l := xpr_no (by decide +kernel)
theorem r_248_60 : xfetch 248 60 = some (.iload 4, 2) := by decide +kernel
theorem n_248_60 : ∀ l, xpr 248 60 l = l := xpr_no (by decide +kernel)
theorem r_248_62 : xfetch 248 62 = some (.bipush 20, 2) := by decide +kernel
theorem n_248_62 : ∀ l, xpr 248 62 l = l := xpr_no (by decide +kernel)
theorem r_248_64 : xfetch 248 64 = some (.isub, 1) := by decide +kernel
theorem n_248_64 : ∀ l, xpr 248 64 l = l := xpr_no (by decide +kernel)
theorem r_248_65 : xfetch 248 65 = some (.lshl, 1) := by decide +kernel
theorem n_248_65 : ∀ l, xpr 248 65 l = l := xpr_no (by decide +kernel)
theorem r_248_66 : xfetch 248 66 = some (.lconst 1, 1) := by decide +kernel
theorem n_248_66 : ∀ l, xpr 248 66 l = l := xpr_no (by decide +kernel)
theorem r_248_67 : xfetch 248 67 = some (.lsub, 1) := by decide +kernel
theorem n_248_67 : ∀ l, xpr 248 67 l = l := xpr_no (by decide +kernel)
theorem r_248_68 : xfetch 248 68 = some (.land, 1) := by decide +kernel
theorem n_248_68 : ∀ l, xpr 248 68 l = l := xpr_no (by decide +kernel)
theorem r_248_69 : xfetch 248 69 = some (.lreturn, 1) := by decide +kernel
theorem n_248_69 : ∀ l, xpr 248 69 l = l := xpr_no (by decide +kernel)
theorem r_248_70 : xfetch 248 70 = some (.iload 4, 2) := by decide +kernel
theorem n_248_70 : ∀ l, xpr 248 70 l = l := xpr_no (by decide +kernel)
theorem r_248_72 : xfetch 248 72 = some (.tableswitch 78 0 7 #[48, 78, 54, 78, 60, 78, 78, 65], 48) := by decide +kernel
theorem n_248_72 : ∀ l, xpr 248 72 l = l := xpr_no (by decide +kernel)
theorem r_248_120 : xfetch 248 120 = some (.lload 5, 2) := by decide +kernel
theorem n_248_120 : ∀ l, xpr 248 120 l = l := xpr_no (by decide +kernel)
theorem r_248_122 : xfetch 248 122 = some (.l2i, 1) := by decide +kernel
theorem n_248_122 : ∀ l, xpr 248 122 l = l := xpr_no (by decide +kernel)
theorem r_248_123 : xfetch 248 123 = some (.i2b, 1) := by decide +kernel
theorem n_248_123 : ∀ l, xpr 248 123 l = l := xpr_no (by decide +kernel)
theorem r_248_124 : xfetch 248 124 = some (.i2l, 1) := by decide +kernel
theorem n_248_124 : ∀ l, xpr 248 124 l = l := xpr_no (by decide +kernel)
theorem r_248_125 : xfetch 248 125 = some (.lreturn, 1) := by decide +kernel
theorem n_248_125 : ∀ l, xpr 248 125 l = l := xpr_no (by decide +kernel)
theorem r_248_126 : xfetch 248 126 = some (.lload 5, 2) := by decide +kernel
theorem n_248_126 : ∀ l, xpr 248 126 l = l := xpr_no (by decide +kernel)
theorem r_248_128 : xfetch 248 128 = some (.l2i, 1) := by decide +kernel
theorem n_248_128 : ∀ l, xpr 248 128 l = l := xpr_no (by decide +kernel)
theorem r_248_129 : xfetch 248 129 = some (.i2s, 1) := by decide +kernel
theorem n_248_129 : ∀ l, xpr 248 129 l = l := xpr_no (by decide +kernel)
theorem r_248_130 : xfetch 248 130 = some (.i2l, 1) := by decide +kernel
theorem n_248_130 : ∀ l, xpr 248 130 l = l := xpr_no (by decide +kernel)
theorem r_248_131 : xfetch 248 131 = some (.lreturn, 1) := by decide +kernel
theorem n_248_131 : ∀ l, xpr 248 131 l = l := xpr_no (by decide +kernel)
theorem r_248_132 : xfetch 248 132 = some (.lload 5, 2) := by decide +kernel
theorem n_248_132 : ∀ l, xpr 248 132 l = l := xpr_no (by decide +kernel)
theorem r_248_134 : xfetch 248 134 = some (.l2i, 1) := by decide +kernel
theorem n_248_134 : ∀ l, xpr 248 134 l = l := xpr_no (by decide +kernel)
theorem r_248_135 : xfetch 248 135 = some (.i2l, 1) := by decide +kernel
theorem n_248_135 : ∀ l, xpr 248 135 l = l := xpr_no (by decide +kernel)
theorem r_248_136 : xfetch 248 136 = some (.lreturn, 1) := by decide +kernel
theorem n_248_136 : ∀ l, xpr 248 136 l = l := xpr_no (by decide +kernel)
theorem r_248_137 : xfetch 248 137 = some (.lload 5, 2) := by decide +kernel
theorem n_248_137 : ∀ l, xpr 248 137 l = l := xpr_no (by decide +kernel)
theorem r_248_139 : xfetch 248 139 = some (.lconst 0, 1) := by decide +kernel
theorem n_248_139 : ∀ l, xpr 248 139 l = l := xpr_no (by decide +kernel)
theorem r_248_140 : xfetch 248 140 = some (.lcmp, 1) := by decide +kernel
theorem n_248_140 : ∀ l, xpr 248 140 l = l := xpr_no (by decide +kernel)
theorem r_248_141 : xfetch 248 141 = some (.ifCond .ne 7, 3) := by decide +kernel
theorem n_248_141 : ∀ l, xpr 248 141 l = l := xpr_no (by decide +kernel)
theorem r_248_144 : xfetch 248 144 = some (.lconst 0, 1) := by decide +kernel
theorem n_248_144 : ∀ l, xpr 248 144 l = l := xpr_no (by decide +kernel)
theorem r_248_145 : xfetch 248 145 = some (.goto 4, 3) := by decide +kernel
theorem n_248_145 : ∀ l, xpr 248 145 l = l := xpr_no (by decide +kernel)
theorem r_248_148 : xfetch 248 148 = some (.lconst 1, 1) := by decide +kernel
theorem n_248_148 : ∀ l, xpr 248 148 l = l := xpr_no (by decide +kernel)
theorem r_248_149 : xfetch 248 149 = some (.lreturn, 1) := by decide +kernel
theorem n_248_149 : ∀ l, xpr 248 149 l = l := xpr_no (by decide +kernel)
theorem r_248_150 : xfetch 248 150 = some (.lload 5, 2) := by decide +kernel
theorem n_248_150 : ∀ l, xpr 248 150 l = l := xpr_no (by decide +kernel)
theorem r_248_152 : xfetch 248 152 = some (.lreturn, 1) := by decide +kernel
theorem n_248_152 : ∀ l, xpr 248 152 l = l := xpr_no (by decide +kernel)
theorem v_Model_value_0 {S : Option (Nat × (Nat → Int32))} {s : zSt} {Q : Option Value ⊕ Nat → zSt → Prop} {x1 : Int} {x2 : Int} {x3 : Int} 
    (h : (0 ≤ ((157 + (6 * x1)) + 0) ∧ ((157 + (6 * x1)) + 0) < 1199) ∧ ((0 ≤ ((40 * (zI s 253 ((157 + (6 * x1)) + 0))) + x3) ∧ ((40 * (zI s 253 ((157 + (6 * x1)) + 0))) + x3) < 240) ∧ (wp S 245 0 [(0, rf 252), (1, iv x1), (2, iv x2), (3, iv x3)] [] s (fun o6 s6 => zkI (fun y6 => (0 ≤ ((157 + (6 * x1)) + 3) ∧ ((157 + (6 * x1)) + 3) < 1199) ∧ (wp S 249 0 [(0, rf 252), (1, iv y6), (2, iv (zby (zI s 259 ((40 * (zI s 253 ((157 + (6 * x1)) + 0))) + x3)))), (3, iv (zI s6 253 ((157 + (6 * x1)) + 3)))] [] s6 (fun o12 s12 => zkL (fun y12 => (¬ (21 ≤ (zI s 259 ((40 * (zI s 253 ((157 + (6 * x1)) + 0))) + x3)) ∧ (zI s 259 ((40 * (zI s 253 ((157 + (6 * x1)) + 0))) + x3)) ≤ 36) → ((zI s 259 ((40 * (zI s 253 ((157 + (6 * x1)) + 0))) + x3)) = 0 → Q (rL (zi2l (zi2b (zl2i y12)))) s12) ∧ (((zI s 259 ((40 * (zI s 253 ((157 + (6 * x1)) + 0))) + x3)) = 1 → Q (rL y12) s12) ∧ (((zI s 259 ((40 * (zI s 253 ((157 + (6 * x1)) + 0))) + x3)) = 2 → Q (rL (zi2l (zi2s (zl2i y12)))) s12) ∧ (((zI s 259 ((40 * (zI s 253 ((157 + (6 * x1)) + 0))) + x3)) = 3 → Q (rL y12) s12) ∧ (((zI s 259 ((40 * (zI s 253 ((157 + (6 * x1)) + 0))) + x3)) = 4 → Q (rL (zi2l (zl2i y12))) s12) ∧ (((zI s 259 ((40 * (zI s 253 ((157 + (6 * x1)) + 0))) + x3)) = 5 → Q (rL y12) s12) ∧ (((zI s 259 ((40 * (zI s 253 ((157 + (6 * x1)) + 0))) + x3)) = 6 → Q (rL y12) s12) ∧ (((zI s 259 ((40 * (zI s 253 ((157 + (6 * x1)) + 0))) + x3)) = 7 → ((zcmp y12 0) ≠ 0 → Q (rL 1) s12) ∧ ((zcmp y12 0) = 0 → Q (rL 0) s12)) ∧ ((((zI s 259 ((40 * (zI s 253 ((157 + (6 * x1)) + 0))) + x3)) < 0 ∨ 7 < (zI s 259 ((40 * (zI s 253 ((157 + (6 * x1)) + 0))) + x3))) → Q (rL y12) s12)))))))))) ∧ (21 ≤ (zI s 259 ((40 * (zI s 253 ((157 + (6 * x1)) + 0))) + x3)) ∧ (zI s 259 ((40 * (zI s 253 ((157 + (6 * x1)) + 0))) + x3)) ≤ 36 → (0 ≤ 157 + 6 * x1 + 2 ∧ 157 + 6 * x1 + 2 < 1199) ∧ ((0 ≤ 157 + 6 * x1 + 0 ∧ 157 + 6 * x1 + 0 < 1199) ∧ ((0 ≤ 40 * zI s12 253 (157 + 6 * x1 + 0) + x3 ∧ 40 * zI s12 253 (157 + 6 * x1 + 0) + x3 < 240) ∧ (Q (rL ((zshrL y12 (zlw (zI s12 253 (157 + 6 * x1 + 2)) (zI s12 261 (40 * zI s12 253 (157 + 6 * x1 + 0) + x3)))) &&& ((zshlL 1 ((zI s 259 ((40 * (zI s 253 ((157 + (6 * x1)) + 0))) + x3)) - 20)) - 1))) s12))))) (fun e12 => False) o12))) (fun e6 => False) o6)))) :
    wp S 248 0 [(0, rf 252), (1, iv x1), (2, iv x2), (3, iv x3)] [] s Q := by
  refine i_aload_n (a := 252) r_248_0 (n_248_0 _) rfl ?_
  refine i_getR (a := 252) (b := 259) r_248_1 (n_248_1 _) rfl rfl rfl (by omega) lf_252 (by omega) ?_
  refine i_bipush r_248_4 (n_248_4 _) rfl ?_
  refine i_aload_n (a := 252) r_248_6 (n_248_6 _) rfl ?_
  refine i_iload_n (x := x1) r_248_7 (n_248_7 _) rfl ?_
  refine i_iconst r_248_8 (n_248_8 _) ?_
  obtain ⟨g1, h⟩ := h
  refine wp_virt (b := 252) (rest := [iv 40, rf 259]) (Ls := [(0, rf 252), (1, iv x1), (2, iv 0)]) r_248_9 (n_248_9 _) rfl ⟨rfl, rfl, by decide, by decide⟩ rfl rfl lf_252 ⟨rfl, Nat.le_of_ble_eq_true rfl, Nat.le_of_ble_eq_true rfl⟩ rfl (K_Model_of g1) ?_
  rintro _ _ ⟨rfl, rfl⟩
  refine .inl ⟨some (iv (zI s 253 ((157 + (6 * x1)) + 0))), rfl, ?_⟩
  show wp S 248 12 [(0, rf 252), (1, iv x1), (2, iv x2), (3, iv x3)] [iv (zI s 253 ((157 + (6 * x1)) + 0)), iv 40, rf 259] s Q
  refine wp_rd (a := 253) (j := ((157 + (6 * x1)) + 0)) (fun q3 => ?_)
  refine i_imul r_248_12 (n_248_12 _) ?_
  refine i_iload_n (x := x3) r_248_13 (n_248_13 _) rfl ?_
  refine i_iadd r_248_14 (n_248_14 _) ?_
  obtain ⟨g4, h⟩ := h
  refine i_iaload (a := 259) (j := (40 * (zI s 253 ((157 + (6 * x1)) + 0))) + x3) r_248_15 (n_248_15 _) lf_259 ⟨by omega, by omega⟩ (by omega) (by omega) (fun q5 => ?_)
  refine i_istore (l' := [(0, rf 252), (1, iv x1), (2, iv x2), (3, iv x3), (4, iv (zI s 259 ((40 * (zI s 253 ((157 + (6 * x1)) + 0))) + x3)))]) r_248_16 (n_248_16 _) (by decide) rfl ?_
  refine i_aload_n (a := 252) r_248_18 (n_248_18 _) rfl ?_
  refine i_aload_n (a := 252) r_248_19 (n_248_19 _) rfl ?_
  refine i_iload_n (x := x1) r_248_20 (n_248_20 _) rfl ?_
  refine i_iload_n (x := x2) r_248_21 (n_248_21 _) rfl ?_
  refine i_iload_n (x := x3) r_248_22 (n_248_22 _) rfl ?_
  refine wp_virt (b := 252) (rest := [rf 252]) (Ls := [(0, rf 252), (1, iv x1), (2, iv x2), (3, iv x3)]) r_248_23 (n_248_23 _) rfl ⟨rfl, rfl, by decide, by decide⟩ rfl rfl lf_252 ⟨rfl, Nat.le_of_ble_eq_true rfl, Nat.le_of_ble_eq_true rfl⟩ rfl h ?_
  intro o6 s6 h
  rcases h with ⟨y6, q7, rfl, h⟩ | ⟨e6, rfl, h⟩
  · refine .inl ⟨some (iv y6), rfl, ?_⟩
    show wp S 248 26 [(0, rf 252), (1, iv x1), (2, iv x2), (3, iv x3), (4, iv (zI s 259 ((40 * (zI s 253 ((157 + (6 * x1)) + 0))) + x3)))] [iv y6, rf 252] s6 Q
    refine i_iload (x := zI s 259 ((40 * (zI s 253 ((157 + (6 * x1)) + 0))) + x3)) r_248_26 (n_248_26 _) rfl ?_
    refine wp_stat (rest := [iv y6, rf 252]) (Ls := [(0, iv (zI s 259 ((40 * (zI s 253 ((157 + (6 * x1)) + 0))) + x3)))]) r_248_28 (n_248_28 _) rfl ⟨rfl, by decide, by decide, by decide⟩ rfl rfl ⟨rfl, Nat.le_of_ble_eq_true rfl, Nat.le_of_ble_eq_true rfl⟩ rfl (K_Model_bytesOf q5) ?_
    rintro _ _ ⟨rfl, rfl⟩
    refine .inl ⟨some (iv (zby (zI s 259 ((40 * (zI s 253 ((157 + (6 * x1)) + 0))) + x3)))), rfl, ?_⟩
    show wp S 248 31 [(0, rf 252), (1, iv x1), (2, iv x2), (3, iv x3), (4, iv (zI s 259 ((40 * (zI s 253 ((157 + (6 * x1)) + 0))) + x3)))] [iv (zby (zI s 259 ((40 * (zI s 253 ((157 + (6 * x1)) + 0))) + x3))), iv y6, rf 252] s6 Q
    refine i_aload_n (a := 252) r_248_31 (n_248_31 _) rfl ?_
    refine i_iload_n (x := x1) r_248_32 (n_248_32 _) rfl ?_
    refine i_iconst r_248_33 (n_248_33 _) ?_
    obtain ⟨g9, h⟩ := h
    refine wp_virt (b := 252) (rest := [iv (zby (zI s 259 ((40 * (zI s 253 ((157 + (6 * x1)) + 0))) + x3))), iv y6, rf 252]) (Ls := [(0, rf 252), (1, iv x1), (2, iv 3)]) r_248_34 (n_248_34 _) rfl ⟨rfl, rfl, by decide, by decide⟩ rfl rfl lf_252 ⟨rfl, Nat.le_of_ble_eq_true rfl, Nat.le_of_ble_eq_true rfl⟩ rfl (K_Model_of g9) ?_
    rintro _ _ ⟨rfl, rfl⟩
    refine .inl ⟨some (iv (zI s6 253 ((157 + (6 * x1)) + 3))), rfl, ?_⟩
    show wp S 248 37 [(0, rf 252), (1, iv x1), (2, iv x2), (3, iv x3), (4, iv (zI s 259 ((40 * (zI s 253 ((157 + (6 * x1)) + 0))) + x3)))] [iv (zI s6 253 ((157 + (6 * x1)) + 3)), iv (zby (zI s 259 ((40 * (zI s 253 ((157 + (6 * x1)) + 0))) + x3))), iv y6, rf 252] s6 Q
    refine wp_rd (a := 253) (j := ((157 + (6 * x1)) + 3)) (fun q11 => ?_)
    refine wp_virt (b := 252) (rest := []) (Ls := [(0, rf 252), (1, iv y6), (2, iv (zby (zI s 259 ((40 * (zI s 253 ((157 + (6 * x1)) + 0))) + x3)))), (3, iv (zI s6 253 ((157 + (6 * x1)) + 3)))]) r_248_37 (n_248_37 _) rfl ⟨rfl, rfl, by decide, by decide⟩ rfl rfl lf_252 ⟨rfl, Nat.le_of_ble_eq_true rfl, Nat.le_of_ble_eq_true rfl⟩ rfl h ?_
    intro o12 s12 h
    rcases h with ⟨y12, rfl, h⟩ | ⟨e12, rfl, h⟩
    · refine .inl ⟨some (.long y12), rfl, ?_⟩
      show wp S 248 40 [(0, rf 252), (1, iv x1), (2, iv x2), (3, iv x3), (4, iv (zI s 259 ((40 * (zI s 253 ((157 + (6 * x1)) + 0))) + x3)))] [.long y12] s12 Q
      refine i_lstore (l' := [(0, rf 252), (1, iv x1), (2, iv x2), (3, iv x3), (4, iv (zI s 259 ((40 * (zI s 253 ((157 + (6 * x1)) + 0))) + x3))), (5, .long y12)]) r_248_40 (n_248_40 _) (by decide) rfl ?_
      refine i_iload (x := zI s 259 ((40 * (zI s 253 ((157 + (6 * x1)) + 0))) + x3)) r_248_42 (n_248_42 _) rfl ?_
      refine wp_stat (rest := []) (Ls := [(0, iv (zI s 259 ((40 * (zI s 253 ((157 + (6 * x1)) + 0))) + x3)))]) r_248_44 (n_248_44 _) rfl ⟨rfl, by decide, by decide, by decide⟩ rfl rfl ⟨rfl, Nat.le_of_ble_eq_true rfl, Nat.le_of_ble_eq_true rfl⟩ rfl (K_Model_isBits q5) ?_
      rintro _ _ ⟨rfl, rfl⟩
      refine .inl ⟨some (iv (bi (21 ≤ (zI s 259 ((40 * (zI s 253 ((157 + (6 * x1)) + 0))) + x3)) ∧ (zI s 259 ((40 * (zI s 253 ((157 + (6 * x1)) + 0))) + x3)) ≤ 36))), rfl, ?_⟩
      show wp S 248 47 [(0, rf 252), (1, iv x1), (2, iv x2), (3, iv x3), (4, iv (zI s 259 ((40 * (zI s 253 ((157 + (6 * x1)) + 0))) + x3))), (5, .long y12)] [iv (bi (21 ≤ (zI s 259 ((40 * (zI s 253 ((157 + (6 * x1)) + 0))) + x3)) ∧ (zI s 259 ((40 * (zI s 253 ((157 + (6 * x1)) + 0))) + x3)) ≤ 36))] s12 Q
      refine i_if (t := 70) r_248_47 (n_248_47 _) rfl (TB_eq) (fun c15 => ?_) (fun c15 => ?_)
      · replace h := h.1 c15
        refine i_iload (x := zI s 259 ((40 * (zI s 253 ((157 + (6 * x1)) + 0))) + x3)) r_248_70 (n_248_70 _) rfl ?_
        rcases (by omega : (zI s 259 ((40 * (zI s 253 ((157 + (6 * x1)) + 0))) + x3)) = 0 ∨ (zI s 259 ((40 * (zI s 253 ((157 + (6 * x1)) + 0))) + x3)) = 1 ∨ (zI s 259 ((40 * (zI s 253 ((157 + (6 * x1)) + 0))) + x3)) = 2 ∨ (zI s 259 ((40 * (zI s 253 ((157 + (6 * x1)) + 0))) + x3)) = 3 ∨ (zI s 259 ((40 * (zI s 253 ((157 + (6 * x1)) + 0))) + x3)) = 4 ∨ (zI s 259 ((40 * (zI s 253 ((157 + (6 * x1)) + 0))) + x3)) = 5 ∨ (zI s 259 ((40 * (zI s 253 ((157 + (6 * x1)) + 0))) + x3)) = 6 ∨ (zI s 259 ((40 * (zI s 253 ((157 + (6 * x1)) + 0))) + x3)) = 7 ∨ ((zI s 259 ((40 * (zI s 253 ((157 + (6 * x1)) + 0))) + x3)) < 0 ∨ 7 < (zI s 259 ((40 * (zI s 253 ((157 + (6 * x1)) + 0))) + x3)))) with c16 | c16 | c16 | c16 | c16 | c16 | c16 | c16 | c16
        · replace h := h.1 c16
          refine i_sw_hit (kk := 0) (t := 120) r_248_72 (n_248_72 _) (by omega) q5 (by omega) rfl rfl ?_
          refine i_lload (u := y12) r_248_120 (n_248_120 _) rfl ?_
          refine i_l2i r_248_122 (n_248_122 _) ?_
          refine i_i2b r_248_123 (n_248_123 _) ?_
          refine i_i2l r_248_124 (n_248_124 _) ?_
          exact i_lreturn r_248_125 (n_248_125 _) rfl h
        · replace h := h.2.1 c16
          refine i_sw_hit (kk := 1) (t := 150) r_248_72 (n_248_72 _) (by omega) q5 (by omega) rfl rfl ?_
          refine i_lload (u := y12) r_248_150 (n_248_150 _) rfl ?_
          exact i_lreturn r_248_152 (n_248_152 _) rfl h
        · replace h := h.2.2.1 c16
          refine i_sw_hit (kk := 2) (t := 126) r_248_72 (n_248_72 _) (by omega) q5 (by omega) rfl rfl ?_
          refine i_lload (u := y12) r_248_126 (n_248_126 _) rfl ?_
          refine i_l2i r_248_128 (n_248_128 _) ?_
          refine i_i2s r_248_129 (n_248_129 _) ?_
          refine i_i2l r_248_130 (n_248_130 _) ?_
          exact i_lreturn r_248_131 (n_248_131 _) rfl h
        · replace h := h.2.2.2.1 c16
          refine i_sw_hit (kk := 3) (t := 150) r_248_72 (n_248_72 _) (by omega) q5 (by omega) rfl rfl ?_
          refine i_lload (u := y12) r_248_150 (n_248_150 _) rfl ?_
          exact i_lreturn r_248_152 (n_248_152 _) rfl h
        · replace h := h.2.2.2.2.1 c16
          refine i_sw_hit (kk := 4) (t := 132) r_248_72 (n_248_72 _) (by omega) q5 (by omega) rfl rfl ?_
          refine i_lload (u := y12) r_248_132 (n_248_132 _) rfl ?_
          refine i_l2i r_248_134 (n_248_134 _) ?_
          refine i_i2l r_248_135 (n_248_135 _) ?_
          exact i_lreturn r_248_136 (n_248_136 _) rfl h
        · replace h := h.2.2.2.2.2.1 c16
          refine i_sw_hit (kk := 5) (t := 150) r_248_72 (n_248_72 _) (by omega) q5 (by omega) rfl rfl ?_
          refine i_lload (u := y12) r_248_150 (n_248_150 _) rfl ?_
          exact i_lreturn r_248_152 (n_248_152 _) rfl h
        · replace h := h.2.2.2.2.2.2.1 c16
          refine i_sw_hit (kk := 6) (t := 150) r_248_72 (n_248_72 _) (by omega) q5 (by omega) rfl rfl ?_
          refine i_lload (u := y12) r_248_150 (n_248_150 _) rfl ?_
          exact i_lreturn r_248_152 (n_248_152 _) rfl h
        · replace h := h.2.2.2.2.2.2.2.1 c16
          refine i_sw_hit (kk := 7) (t := 137) r_248_72 (n_248_72 _) (by omega) q5 (by omega) rfl rfl ?_
          refine i_lload (u := y12) r_248_137 (n_248_137 _) rfl ?_
          refine i_lconst r_248_139 (n_248_139 _) ?_
          refine i_lcmp r_248_140 (n_248_140 _) ?_
          refine i_if (t := 148) r_248_141 (n_248_141 _) rfl (T_ne (zcmp_rng _ _) ⟨by omega, by omega⟩) (fun c17 => ?_) (fun c17 => ?_)
          · replace h := h.1 c17
            refine i_lconst r_248_148 (n_248_148 _) ?_
            exact i_lreturn r_248_149 (n_248_149 _) rfl h
          · replace h := h.2 c17
            refine i_lconst r_248_144 (n_248_144 _) ?_
            refine i_goto (t := 149) r_248_145 (n_248_145 _) rfl ?_
            exact i_lreturn r_248_149 (n_248_149 _) rfl h
        · replace h := h.2.2.2.2.2.2.2.2 c16
          refine i_sw_out (t := 150) r_248_72 (n_248_72 _) c16 q5 rfl ?_
          refine i_lload (u := y12) r_248_150 (n_248_150 _) rfl ?_
          exact i_lreturn r_248_152 (n_248_152 _) rfl h
      · replace h := h.2 c15
        refine i_lload (u := y12) r_248_50 (n_248_50 _) rfl ?_
        refine i_aload_n (a := 252) r_248_52 (n_248_52 _) rfl ?_
        refine i_iload_n (x := x1) r_248_53 (n_248_53 _) rfl ?_
        refine i_iload_n (x := x3) r_248_54 (n_248_54 _) rfl ?_
        obtain ⟨g18, h⟩ := h
        obtain ⟨g19, h⟩ := h
        obtain ⟨g20, h⟩ := h
        refine wp_virt (b := 252) (rest := [.long y12]) (Ls := [(0, rf 252), (1, iv x1), (2, iv x3)]) r_248_55 (n_248_55 _) rfl ⟨rfl, rfl, by decide, by decide⟩ rfl rfl lf_252 ⟨rfl, Nat.le_of_ble_eq_true rfl, Nat.le_of_ble_eq_true rfl⟩ rfl (K_Model_lowest g18 g19 g20) ?_
        rintro _ _ ⟨rfl, rfl⟩
        refine .inl ⟨some (iv (zlw (zI s12 253 (157 + 6 * x1 + 2)) (zI s12 261 (40 * zI s12 253 (157 + 6 * x1 + 0) + x3)))), rfl, ?_⟩
        show wp S 248 58 [(0, rf 252), (1, iv x1), (2, iv x2), (3, iv x3), (4, iv (zI s 259 ((40 * (zI s 253 ((157 + (6 * x1)) + 0))) + x3))), (5, .long y12)] [iv (zlw (zI s12 253 (157 + 6 * x1 + 2)) (zI s12 261 (40 * zI s12 253 (157 + 6 * x1 + 0) + x3))), .long y12] s12 Q
        refine i_lshr r_248_58 (n_248_58 _) ?_
        refine i_lconst r_248_59 (n_248_59 _) ?_
        refine i_iload (x := zI s 259 ((40 * (zI s 253 ((157 + (6 * x1)) + 0))) + x3)) r_248_60 (n_248_60 _) rfl ?_
        refine i_bipush r_248_62 (n_248_62 _) rfl ?_
        refine i_isub r_248_64 (n_248_64 _) ?_
        refine i_lshl r_248_65 (n_248_65 _) ?_
        refine i_lconst r_248_66 (n_248_66 _) ?_
        refine i_lsub r_248_67 (n_248_67 _) ?_
        refine i_land r_248_68 (n_248_68 _) ?_
        exact i_lreturn r_248_69 (n_248_69 _) rfl h
    · skip
      exact h.elim
  · skip
    exact h.elim

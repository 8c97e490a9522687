theorem r_238_0 : xfetch 238 0 = some (.aload_n 0, 1) := by decide +kernel
theorem n_238_0 : ∀ l, xpr 238 0 l = l := xpr_no (by decide +kernel)
theorem r_238_1 : xfetch 238 1 = some (.aload_n 0, 1) := by decide +kernel
theorem n_238_1 : ∀ l, xpr 238 1 l = l := xpr_no (by decide +kernel)
theorem r_238_2 : xfetch 238 2 = some (.aload_n 0, 1) := by decide +kernel
theorem n_238_2 : ∀ l, xpr 238 2 l = l := xpr_no (by decide +kernel)
theorem r_238_3 : xfetch 238 3 = some (.iload_n 1, 1) := by decide +kernel
theorem n_238_3 : ∀ l, xpr 238 3 l = l := xpr_no (by decide +kernel)
theorem r_238_4 : xfetch 238 4 = some (.invokevirtual 225, 3) := by decide +kernel
theorem n_238_4 : ∀ l, xpr 238 4 l = l := xpr_no (by decide +kernel)
theorem r_238_7 : xfetch 238 7 = some (.invokevirtual 175, 3) := by decide +kernel
theorem n_238_7 : ∀ l, xpr 238 7 l = l := xpr_no (by decide +kernel)
theorem r_238_10 : xfetch 238 10 = some (.invokevirtual 84, 3) := by decide +kernel
theorem n_238_10 : ∀ l, xpr 238 10 l = l := xpr_no (by decide +kernel)
theorem r_238_13 : xfetch 238 13 = some (.ifCond .eq 5, 3) := by decide +kernel
theorem n_238_13 : ∀ l, xpr 238 13 l = l := xpr_no (by decide +kernel)
theorem r_238_16 : xfetch 238 16 = some (.iconst 0, 1) := by decide +kernel
theorem n_238_16 : ∀ l, xpr 238 16 l = l := xpr_no (by decide +kernel)
theorem r_238_17 : xfetch 238 17 = some (.ireturn, 1) := by decide +kernel
theorem n_238_17 : ∀ l, xpr 238 17 l = l := xpr_no (by decide +kernel)
theorem r_238_18 : xfetch 238 18 = some (.aload_n 0, 1) := by decide +kernel
theorem n_238_18 : ∀ l, xpr 238 18 l = l := xpr_no (by decide +kernel)
theorem r_238_19 : xfetch 238 19 = some (.invokevirtual 135, 3) := by decide +kernel
theorem n_238_19 : ∀ l, xpr 238 19 l = l := xpr_no (by decide +kernel)
theorem r_238_22 : xfetch 238 22 = some (.aload_n 0, 1) := by decide +kernel
theorem n_238_22 : ∀ l, xpr 238 22 l = l := xpr_no (by decide +kernel)
theorem r_238_23 : xfetch 238 23 = some (.getfield 7, 3) := by decide +kernel
theorem n_238_23 : ∀ l, xpr 238 23 l = l := xpr_no (by decide +kernel)
theorem r_238_26 : xfetch 238 26 = some (.sipush 157, 3) := by decide +kernel
theorem n_238_26 : ∀ l, xpr 238 26 l = l := xpr_no (by decide +kernel)
theorem r_238_29 : xfetch 238 29 = some (.bipush 6, 2) := by decide +kernel
theorem n_238_29 : ∀ l, xpr 238 29 l = l := xpr_no (by decide +kernel)
theorem r_238_31 : xfetch 238 31 = some (.iload_n 1, 1) := by decide +kernel
theorem n_238_31 : ∀ l, xpr 238 31 l = l := xpr_no (by decide +kernel)
theorem r_238_32 : xfetch 238 32 = some (.imul, 1) := by decide +kernel
theorem n_238_32 : ∀ l, xpr 238 32 l = l := xpr_no (by decide +kernel)
theorem r_238_33 : xfetch 238 33 = some (.iadd, 1) := by decide +kernel
theorem n_238_33 : ∀ l, xpr 238 33 l = l := xpr_no (by decide +kernel)
theorem r_238_34 : xfetch 238 34 = some (.iconst (-1), 1) := by decide +kernel
theorem n_238_34 : ∀ l, xpr 238 34 l = l := xpr_no (by decide +kernel)
theorem r_238_35 : xfetch 238 35 = some (.iastore, 1) := by decide +kernel
theorem n_238_35 : ∀ l, xpr 238 35 l = l := xpr_no (by decide +kernel)
theorem r_238_36 : xfetch 238 36 = some (.aload_n 0, 1) := by decide +kernel
theorem n_238_36 : ∀ l, xpr 238 36 l = l := xpr_no (by decide +kernel)
theorem r_238_37 : xfetch 238 37 = some (.iload_n 1, 1) := by decide +kernel
theorem n_238_37 : ∀ l, xpr 238 37 l = l := xpr_no (by decide +kernel)
theorem r_238_38 : xfetch 238 38 = some (.iconst 5, 1) := by decide +kernel
theorem n_238_38 : ∀ l, xpr 238 38 l = l := xpr_no (by decide +kernel)
theorem r_238_39 : xfetch 238 39 = some (.invokevirtual 228, 3) := by decide +kernel
theorem n_238_39 : ∀ l, xpr 238 39 l = l := xpr_no (by decide +kernel)
theorem r_238_42 : xfetch 238 42 = some (.ireturn, 1) := by decide +kernel
theorem n_238_42 : ∀ l, xpr 238 42 l = l := xpr_no (by decide +kernel)
theorem v_Model_removeTable_0 {S : Option (Nat × (Nat → Int32))} {s : zSt} {Q : Option Value ⊕ Nat → zSt → Prop} {x1 : Int} 
    (h : wp S 229 0 [(0, rf 252), (1, iv x1)] [] s (fun o1 s1 => zkI (fun y1 => wp S 213 0 [(0, rf 252), (1, iv y1)] [] s1 (fun o3 s3 => zkI (fun y3 => wp S 179 0 [(0, rf 252), (1, iv y3)] [] s3 (fun o5 s5 => zkI (fun y5 => (y5 = 0 → wp S 182 0 [(0, rf 252)] [] s5 (fun o8 s8 => zkU ((0 ≤ (157 + (6 * x1)) ∧ (157 + (6 * x1)) < 1199) ∧ (wp S 236 0 [(0, rf 252), (1, iv x1), (2, iv 5)] [] (zwI s8 253 (157 + (6 * x1)) (-1)) (fun o11 s11 => zkI (fun y11 => Q (rI y11) s11) (fun e11 => False) o11))) (fun e8 => False) o8)) ∧ (y5 ≠ 0 → Q (rI 0) s5)) (fun e5 => False) o5)) (fun e3 => False) o3)) (fun e1 => False) o1)) :
    wp S 238 0 [(0, rf 252), (1, iv x1)] [] s Q := by
  refine i_aload_n (a := 252) r_238_0 (n_238_0 _) rfl ?_
  refine i_aload_n (a := 252) r_238_1 (n_238_1 _) rfl ?_
  refine i_aload_n (a := 252) r_238_2 (n_238_2 _) rfl ?_
  refine i_iload_n (x := x1) r_238_3 (n_238_3 _) rfl ?_
  refine wp_virt (b := 252) (rest := [rf 252, rf 252]) (Ls := [(0, rf 252), (1, iv x1)]) r_238_4 (n_238_4 _) rfl ⟨rfl, rfl, by decide, by decide⟩ rfl rfl lf_252 ⟨rfl, Nat.le_of_ble_eq_true rfl, Nat.le_of_ble_eq_true rfl⟩ rfl h ?_
  intro o1 s1 h
  rcases h with ⟨y1, q2, rfl, h⟩ | ⟨e1, rfl, h⟩
  · refine .inl ⟨some (iv y1), rfl, ?_⟩
    show wp S 238 7 [(0, rf 252), (1, iv x1)] [iv y1, rf 252, rf 252] s1 Q
    refine wp_virt (b := 252) (rest := [rf 252]) (Ls := [(0, rf 252), (1, iv y1)]) r_238_7 (n_238_7 _) rfl ⟨rfl, rfl, by decide, by decide⟩ rfl rfl lf_252 ⟨rfl, Nat.le_of_ble_eq_true rfl, Nat.le_of_ble_eq_true rfl⟩ rfl h ?_
    intro o3 s3 h
    rcases h with ⟨y3, q4, rfl, h⟩ | ⟨e3, rfl, h⟩
    · refine .inl ⟨some (iv y3), rfl, ?_⟩
      show wp S 238 10 [(0, rf 252), (1, iv x1)] [iv y3, rf 252] s3 Q
      refine wp_virt (b := 252) (rest := []) (Ls := [(0, rf 252), (1, iv y3)]) r_238_10 (n_238_10 _) rfl ⟨rfl, rfl, by decide, by decide⟩ rfl rfl lf_252 ⟨rfl, Nat.le_of_ble_eq_true rfl, Nat.le_of_ble_eq_true rfl⟩ rfl h ?_
      intro o5 s5 h
      rcases h with ⟨y5, q6, rfl, h⟩ | ⟨e5, rfl, h⟩
      · refine .inl ⟨some (iv y5), rfl, ?_⟩
        show wp S 238 13 [(0, rf 252), (1, iv x1)] [iv y5] s5 Q
        refine i_if (t := 18) r_238_13 (n_238_13 _) rfl (T_eq q6 ⟨by omega, by omega⟩) (fun c7 => ?_) (fun c7 => ?_)
        · replace h := h.1 c7
          refine i_aload_n (a := 252) r_238_18 (n_238_18 _) rfl ?_
          refine wp_virt (b := 252) (rest := []) (Ls := [(0, rf 252)]) r_238_19 (n_238_19 _) rfl ⟨rfl, rfl, by decide, by decide⟩ rfl rfl lf_252 ⟨rfl, Nat.le_of_ble_eq_true rfl, Nat.le_of_ble_eq_true rfl⟩ rfl h ?_
          intro o8 s8 h
          rcases h with ⟨rfl, h⟩ | ⟨e8, rfl, h⟩
          · refine .inl ⟨none, rfl, ?_⟩
            refine i_aload_n (a := 252) r_238_22 (n_238_22 _) rfl ?_
            refine i_getR (a := 252) (b := 253) r_238_23 (n_238_23 _) rfl rfl rfl (by omega) lf_252 (by omega) ?_
            refine i_sipush r_238_26 (n_238_26 _) rfl ?_
            refine i_bipush r_238_29 (n_238_29 _) rfl ?_
            refine i_iload_n (x := x1) r_238_31 (n_238_31 _) rfl ?_
            refine i_imul r_238_32 (n_238_32 _) ?_
            refine i_iadd r_238_33 (n_238_33 _) ?_
            refine i_iconst r_238_34 (n_238_34 _) ?_
            obtain ⟨g10, h⟩ := h
            refine i_iastore (a := 253) (j := 157 + (6 * x1)) (x := (-1)) r_238_35 (n_238_35 _) lf_253 ⟨by omega, by omega⟩ (by omega) (by omega) ⟨by omega, by omega⟩ ?_
            refine i_aload_n (a := 252) r_238_36 (n_238_36 _) rfl ?_
            refine i_iload_n (x := x1) r_238_37 (n_238_37 _) rfl ?_
            refine i_iconst r_238_38 (n_238_38 _) ?_
            refine wp_virt (b := 252) (rest := []) (Ls := [(0, rf 252), (1, iv x1), (2, iv 5)]) r_238_39 (n_238_39 _) rfl ⟨rfl, rfl, by decide, by decide⟩ rfl rfl lf_252 ⟨rfl, Nat.le_of_ble_eq_true rfl, Nat.le_of_ble_eq_true rfl⟩ rfl h ?_
            intro o11 s11 h
            rcases h with ⟨y11, q12, rfl, h⟩ | ⟨e11, rfl, h⟩
            · refine .inl ⟨some (iv y11), rfl, ?_⟩
              show wp S 238 42 [(0, rf 252), (1, iv x1)] [iv y11] s11 Q
              exact i_ireturn r_238_42 (n_238_42 _) rfl h
            · skip
              exact h.elim
          · skip
            exact h.elim
        · replace h := h.2 c7
          refine i_iconst r_238_16 (n_238_16 _) ?_
          exact i_ireturn r_238_17 (n_238_17 _) rfl h
      · skip
        exact h.elim
    · skip
      exact h.elim
  · skip
    exact h.elim
theorem r_239_0 : xfetch 239 0 = some (.aload_n 0, 1) := by decide +kernel
theorem n_239_0 : ∀ l, xpr 239 0 l = l := xpr_no (by decide +kernel)
theorem r_239_1 : xfetch 239 1 = some (.iconst 0, 1) := by decide +kernel
theorem n_239_1 : ∀ l, xpr 239 1 l = l := xpr_no (by decide +kernel)
theorem r_239_2 : xfetch 239 2 = some (.putfield 77, 3) := by decide +kernel
theorem n_239_2 : ∀ l, xpr 239 2 l = l := xpr_no (by decide +kernel)
theorem r_239_5 : xfetch 239 5 = some (.aload_n 0, 1) := by decide +kernel
theorem n_239_5 : ∀ l, xpr 239 5 l = l := xpr_no (by decide +kernel)
theorem r_239_6 : xfetch 239 6 = some (.invokevirtual 247, 3) := by decide +kernel
theorem n_239_6 : ∀ l, xpr 239 6 l = l := xpr_no (by decide +kernel)
theorem r_239_9 : xfetch 239 9 = some (.ireturn, 1) := by decide +kernel
theorem n_239_9 : ∀ l, xpr 239 9 l = l := xpr_no (by decide +kernel)
theorem v_Model_tables_0 {S : Option (Nat × (Nat → Int32))} {s : zSt} {Q : Option Value ⊕ Nat → zSt → Prop}  
    (h : wp S 240 0 [(0, rf 252)] [] (zwI s 252 3 0) (fun o1 s1 => zkI (fun y1 => Q (rI y1) s1) (fun e1 => False) o1)) :
    wp S 239 0 [(0, rf 252)] [] s Q := by
  refine i_aload_n (a := 252) r_239_0 (n_239_0 _) rfl ?_
  refine i_iconst r_239_1 (n_239_1 _) ?_
  refine i_putI (a := 252) (x := 0) r_239_2 (n_239_2 _) rfl (.inl rfl) rfl lf_252 ⟨by omega, by omega⟩ ?_
  refine i_aload_n (a := 252) r_239_5 (n_239_5 _) rfl ?_
  refine wp_virt (b := 252) (rest := []) (Ls := [(0, rf 252)]) r_239_6 (n_239_6 _) rfl ⟨rfl, rfl, by decide, by decide⟩ rfl rfl lf_252 ⟨rfl, Nat.le_of_ble_eq_true rfl, Nat.le_of_ble_eq_true rfl⟩ rfl h ?_
  intro o1 s1 h
  rcases h with ⟨y1, q2, rfl, h⟩ | ⟨e1, rfl, h⟩
  · refine .inl ⟨some (iv y1), rfl, ?_⟩
    show wp S 239 9 [(0, rf 252)] [iv y1] s1 Q
    exact i_ireturn r_239_9 (n_239_9 _) rfl h
  · skip
    exact h.elim
theorem r_240_0 : xfetch 240 0 = some (.iconst 0, 1) := by decide +kernel
theorem n_240_0 : ∀ l, xpr 240 0 l = l := xpr_no (by decide +kernel)
theorem r_240_1 : xfetch 240 1 = some (.istore_n 1, 1) := by decide +kernel
theorem n_240_1 : ∀ l, xpr 240 1 l = l := xpr_no (by decide +kernel)
theorem r_240_2 : xfetch 240 2 = some (.iconst 0, 1) := by decide +kernel
theorem n_240_2 : ∀ l, xpr 240 2 l = l := xpr_no (by decide +kernel)
theorem r_240_3 : xfetch 240 3 = some (.istore_n 2, 1) := by decide +kernel
theorem n_240_3 : ∀ l, xpr 240 3 l = l := xpr_no (by decide +kernel)
theorem r_240_4 : xfetch 240 4 = some (.iload_n 2, 1) := by decide +kernel
theorem r_240_5 : xfetch 240 5 = some (.iconst 3, 1) := by decide +kernel
theorem n_240_5 : ∀ l, xpr 240 5 l = l := xpr_no (by decide +kernel)
theorem r_240_6 : xfetch 240 6 = some (.if_icmp .ge 27, 3) := by decide +kernel
theorem n_240_6 : ∀ l, xpr 240 6 l = l := xpr_no (by decide +kernel)
theorem r_240_9 : xfetch 240 9 = some (.iload_n 1, 1) := by decide +kernel
theorem n_240_9 : ∀ l, xpr 240 9 l = l := xpr_no (by decide +kernel)
theorem r_240_10 : xfetch 240 10 = some (.aload_n 0, 1) := by decide +kernel
theorem n_240_10 : ∀ l, xpr 240 10 l = l := xpr_no (by decide +kernel)
theorem r_240_11 : xfetch 240 11 = some (.iload_n 2, 1) := by decide +kernel
theorem n_240_11 : ∀ l, xpr 240 11 l = l := xpr_no (by decide +kernel)
theorem r_240_12 : xfetch 240 12 = some (.invokevirtual 225, 3) := by decide +kernel
theorem n_240_12 : ∀ l, xpr 240 12 l = l := xpr_no (by decide +kernel)
theorem r_240_15 : xfetch 240 15 = some (.ifCond .eq 9, 3) := by decide +kernel
theorem n_240_15 : ∀ l, xpr 240 15 l = l := xpr_no (by decide +kernel)
theorem r_240_18 : xfetch 240 18 = some (.iconst 1, 1) := by decide +kernel
theorem n_240_18 : ∀ l, xpr 240 18 l = l := xpr_no (by decide +kernel)
theorem r_240_19 : xfetch 240 19 = some (.iload_n 2, 1) := by decide +kernel
theorem n_240_19 : ∀ l, xpr 240 19 l = l := xpr_no (by decide +kernel)
theorem r_240_20 : xfetch 240 20 = some (.ishl, 1) := by decide +kernel
theorem n_240_20 : ∀ l, xpr 240 20 l = l := xpr_no (by decide +kernel)
theorem r_240_21 : xfetch 240 21 = some (.goto 4, 3) := by decide +kernel
theorem n_240_21 : ∀ l, xpr 240 21 l = l := xpr_no (by decide +kernel)
theorem r_240_24 : xfetch 240 24 = some (.iconst 0, 1) := by decide +kernel
theorem n_240_24 : ∀ l, xpr 240 24 l = l := xpr_no (by decide +kernel)
theorem r_240_25 : xfetch 240 25 = some (.ior, 1) := by decide +kernel
theorem n_240_25 : ∀ l, xpr 240 25 l = l := xpr_no (by decide +kernel)
theorem r_240_26 : xfetch 240 26 = some (.istore_n 1, 1) := by decide +kernel
theorem n_240_26 : ∀ l, xpr 240 26 l = l := xpr_no (by decide +kernel)
theorem r_240_27 : xfetch 240 27 = some (.iinc 2 1, 3) := by decide +kernel
theorem n_240_27 : ∀ l, xpr 240 27 l = l := xpr_no (by decide +kernel)
theorem r_240_30 : xfetch 240 30 = some (.goto (-26), 3) := by decide +kernel
theorem n_240_30 : ∀ l, xpr 240 30 l = l := xpr_no (by decide +kernel)
theorem r_240_33 : xfetch 240 33 = some (.iload_n 1, 1) := by decide +kernel
theorem n_240_33 : ∀ l, xpr 240 33 l = l := xpr_no (by decide +kernel)
theorem r_240_34 : xfetch 240 34 = some (.ireturn, 1) := by decide +kernel
theorem n_240_34 : ∀ l, xpr 240 34 l = l := xpr_no (by decide +kernel)
theorem v_Model_tableSet_0 {S : Option (Nat × (Nat → Int32))} {s : zSt} {Q : Option Value ⊕ Nat → zSt → Prop}  
    (h : wp S 240 4 [(0, rf 252), (1, iv 0), (2, iv 0)] [] s Q) :
    wp S 240 0 [(0, rf 252)] [] s Q := by
  refine i_iconst r_240_0 (n_240_0 _) ?_
  refine i_istore_n (l' := [(0, rf 252), (1, iv 0)]) r_240_1 (n_240_1 _) (by decide) rfl ?_
  refine i_iconst r_240_2 (n_240_2 _) ?_
  refine i_istore_n (l' := [(0, rf 252), (1, iv 0), (2, iv 0)]) r_240_3 (n_240_3 _) (by decide) rfl ?_
  exact wp_pr (l' := [(0, rf 252), (1, iv 0), (2, iv 0)]) rfl h
theorem v_Model_tableSet_4 {S : Option (Nat × (Nat → Int32))} {s : zSt} {Q : Option Value ⊕ Nat → zSt → Prop} {x1 : Int} {x2 : Int} 
    (h : rng x2 ∧ ((3 ≤ x2 → Q (rI x1) s) ∧ (x2 < 3 → wp S 229 0 [(0, rf 252), (1, iv x2)] [] s (fun o3 s3 => zkI (fun y3 => (y3 = 0 → wp S 240 4 [(0, rf 252), (1, iv (zor x1 0)), (2, iv (x2 + 1))] [] s3 Q) ∧ (y3 ≠ 0 → wp S 240 4 [(0, rf 252), (1, iv (zor x1 (zshl 1 x2))), (2, iv (x2 + 1))] [] s3 Q)) (fun e3 => False) o3)))) :
    wp S 240 4 [(0, rf 252), (1, iv x1), (2, iv x2)] [] s Q := by
  refine i_iload_n (x := x2) r_240_4 rfl rfl ?_
  refine i_iconst r_240_5 (n_240_5 _) ?_
  obtain ⟨g1, h⟩ := h
  refine i_icmp (t := 33) r_240_6 (n_240_6 _) rfl (T_ge g1 ⟨by omega, by omega⟩) (fun c2 => ?_) (fun c2 => ?_)
  · replace h := h.1 c2
    refine i_iload_n (x := x1) r_240_33 (n_240_33 _) rfl ?_
    exact i_ireturn r_240_34 (n_240_34 _) rfl h
  · replace h := h.2 c2
    refine i_iload_n (x := x1) r_240_9 (n_240_9 _) rfl ?_
    refine i_aload_n (a := 252) r_240_10 (n_240_10 _) rfl ?_
    refine i_iload_n (x := x2) r_240_11 (n_240_11 _) rfl ?_
    refine wp_virt (b := 252) (rest := [iv x1]) (Ls := [(0, rf 252), (1, iv x2)]) r_240_12 (n_240_12 _) rfl ⟨rfl, rfl, by decide, by decide⟩ rfl rfl lf_252 ⟨rfl, Nat.le_of_ble_eq_true rfl, Nat.le_of_ble_eq_true rfl⟩ rfl h ?_
    intro o3 s3 h
    rcases h with ⟨y3, q4, rfl, h⟩ | ⟨e3, rfl, h⟩
    · refine .inl ⟨some (iv y3), rfl, ?_⟩
      show wp S 240 15 [(0, rf 252), (1, iv x1), (2, iv x2)] [iv y3, iv x1] s3 Q
      refine i_if (t := 24) r_240_15 (n_240_15 _) rfl (T_eq q4 ⟨by omega, by omega⟩) (fun c5 => ?_) (fun c5 => ?_)
      · replace h := h.1 c5
        refine i_iconst r_240_24 (n_240_24 _) ?_
        refine i_ior r_240_25 (n_240_25 _) ?_
        refine i_istore_n (l' := [(0, rf 252), (1, iv (zor x1 0)), (2, iv x2)]) r_240_26 (n_240_26 _) (by decide) rfl ?_
        refine i_iinc (x := x2) (l' := [(0, rf 252), (1, iv (zor x1 0)), (2, iv (x2 + 1))]) r_240_27 (n_240_27 _) (by decide) rfl rfl ?_
        refine i_goto (t := 4) r_240_30 (n_240_30 _) rfl ?_
        exact wp_pr (l' := [(0, rf 252), (1, iv (zor x1 0)), (2, iv (x2 + 1))]) rfl h
      · replace h := h.2 c5
        refine i_iconst r_240_18 (n_240_18 _) ?_
        refine i_iload_n (x := x2) r_240_19 (n_240_19 _) rfl ?_
        refine i_ishl r_240_20 (n_240_20 _) ?_
        refine i_goto (t := 25) r_240_21 (n_240_21 _) rfl ?_
        refine i_ior r_240_25 (n_240_25 _) ?_
        refine i_istore_n (l' := [(0, rf 252), (1, iv (zor x1 (zshl 1 x2))), (2, iv x2)]) r_240_26 (n_240_26 _) (by decide) rfl ?_
        refine i_iinc (x := x2) (l' := [(0, rf 252), (1, iv (zor x1 (zshl 1 x2))), (2, iv (x2 + 1))]) r_240_27 (n_240_27 _) (by decide) rfl rfl ?_
        refine i_goto (t := 4) r_240_30 (n_240_30 _) rfl ?_
        exact wp_pr (l' := [(0, rf 252), (1, iv (zor x1 (zshl 1 x2))), (2, iv (x2 + 1))]) rfl h
    · skip
      exact h.elim
theorem r_241_0 : xfetch 241 0 = some (.aload_n 0, 1) := by decide +kernel
theorem n_241_0 : ∀ l, xpr 241 0 l = l := xpr_no (by decide +kernel)
theorem r_241_1 : xfetch 241 1 = some (.aload_n 0, 1) := by decide +kernel
theorem n_241_1 : ∀ l, xpr 241 1 l = l := xpr_no (by decide +kernel)
theorem r_241_2 : xfetch 241 2 = some (.iload_n 1, 1) := by decide +kernel
theorem n_241_2 : ∀ l, xpr 241 2 l = l := xpr_no (by decide +kernel)
theorem r_241_3 : xfetch 241 3 = some (.invokevirtual 225, 3) := by decide +kernel
theorem n_241_3 : ∀ l, xpr 241 3 l = l := xpr_no (by decide +kernel)
theorem r_241_6 : xfetch 241 6 = some (.ifCond .ne 7, 3) := by decide +kernel
theorem n_241_6 : ∀ l, xpr 241 6 l = l := xpr_no (by decide +kernel)
theorem r_241_9 : xfetch 241 9 = some (.iconst 1, 1) := by decide +kernel
theorem n_241_9 : ∀ l, xpr 241 9 l = l := xpr_no (by decide +kernel)
theorem r_241_10 : xfetch 241 10 = some (.goto 17, 3) := by decide +kernel
theorem n_241_10 : ∀ l, xpr 241 10 l = l := xpr_no (by decide +kernel)
theorem r_241_13 : xfetch 241 13 = some (.iload_n 2, 1) := by decide +kernel
theorem n_241_13 : ∀ l, xpr 241 13 l = l := xpr_no (by decide +kernel)
theorem r_241_14 : xfetch 241 14 = some (.iconst 0, 1) := by decide +kernel
theorem n_241_14 : ∀ l, xpr 241 14 l = l := xpr_no (by decide +kernel)
theorem r_241_15 : xfetch 241 15 = some (.iconst 5, 1) := by decide +kernel
theorem n_241_15 : ∀ l, xpr 241 15 l = l := xpr_no (by decide +kernel)
theorem r_241_16 : xfetch 241 16 = some (.invokestatic 88, 3) := by decide +kernel
theorem n_241_16 : ∀ l, xpr 241 16 l = l := xpr_no (by decide +kernel)
theorem r_241_19 : xfetch 241 19 = some (.ifCond .ne 7, 3) := by decide +kernel
theorem n_241_19 : ∀ l, xpr 241 19 l = l := xpr_no (by decide +kernel)
theorem r_241_22 : xfetch 241 22 = some (.iconst 2, 1) := by decide +kernel
theorem n_241_22 : ∀ l, xpr 241 22 l = l := xpr_no (by decide +kernel)
theorem r_241_23 : xfetch 241 23 = some (.goto 4, 3) := by decide +kernel
theorem n_241_23 : ∀ l, xpr 241 23 l = l := xpr_no (by decide +kernel)
theorem r_241_26 : xfetch 241 26 = some (.iconst 0, 1) := by decide +kernel
theorem n_241_26 : ∀ l, xpr 241 26 l = l := xpr_no (by decide +kernel)
theorem r_241_27 : xfetch 241 27 = some (.invokevirtual 84, 3) := by decide +kernel
theorem n_241_27 : ∀ l, xpr 241 27 l = l := xpr_no (by decide +kernel)
theorem r_241_30 : xfetch 241 30 = some (.ifCond .eq 7, 3) := by decide +kernel
theorem n_241_30 : ∀ l, xpr 241 30 l = l := xpr_no (by decide +kernel)
theorem r_241_33 : xfetch 241 33 = some (.iconst 0, 1) := by decide +kernel
theorem n_241_33 : ∀ l, xpr 241 33 l = l := xpr_no (by decide +kernel)
theorem r_241_34 : xfetch 241 34 = some (.goto 9, 3) := by decide +kernel
theorem n_241_34 : ∀ l, xpr 241 34 l = l := xpr_no (by decide +kernel)
theorem r_241_37 : xfetch 241 37 = some (.aload_n 0, 1) := by decide +kernel
theorem n_241_37 : ∀ l, xpr 241 37 l = l := xpr_no (by decide +kernel)
theorem r_241_38 : xfetch 241 38 = some (.iload_n 1, 1) := by decide +kernel
theorem n_241_38 : ∀ l, xpr 241 38 l = l := xpr_no (by decide +kernel)
theorem r_241_39 : xfetch 241 39 = some (.iload_n 2, 1) := by decide +kernel
theorem n_241_39 : ∀ l, xpr 241 39 l = l := xpr_no (by decide +kernel)
theorem r_241_40 : xfetch 241 40 = some (.invokevirtual 228, 3) := by decide +kernel
theorem n_241_40 : ∀ l, xpr 241 40 l = l := xpr_no (by decide +kernel)
theorem r_241_43 : xfetch 241 43 = some (.ireturn, 1) := by decide +kernel
theorem n_241_43 : ∀ l, xpr 241 43 l = l := xpr_no (by decide +kernel)
theorem v_Model_tableInfo_0 {S : Option (Nat × (Nat → Int32))} {s : zSt} {Q : Option Value ⊕ Nat → zSt → Prop} {x1 : Int} {x2 : Int} 
    (h : wp S 229 0 [(0, rf 252), (1, iv x1)] [] s (fun o1 s1 => zkI (fun y1 => (y1 ≠ 0 → wp S 187 0 [(0, iv x2), (1, iv 0), (2, iv 5)] [] s1 (fun o4 s4 => zkI (fun y4 => (y4 ≠ 0 → wp S 179 0 [(0, rf 252), (1, iv 0)] [] s4 (fun o7 s7 => zkI (fun y7 => (y7 = 0 → wp S 236 0 [(0, rf 252), (1, iv x1), (2, iv x2)] [] s7 (fun o10 s10 => zkI (fun y10 => Q (rI y10) s10) (fun e10 => False) o10)) ∧ (y7 ≠ 0 → Q (rI 0) s7)) (fun e7 => False) o7)) ∧ (y4 = 0 → wp S 179 0 [(0, rf 252), (1, iv 2)] [] s4 (fun o12 s12 => zkI (fun y12 => (y12 = 0 → wp S 236 0 [(0, rf 252), (1, iv x1), (2, iv x2)] [] s12 (fun o15 s15 => zkI (fun y15 => Q (rI y15) s15) (fun e15 => False) o15)) ∧ (y12 ≠ 0 → Q (rI 0) s12)) (fun e12 => False) o12))) (fun e4 => False) o4)) ∧ (y1 = 0 → wp S 179 0 [(0, rf 252), (1, iv 1)] [] s1 (fun o17 s17 => zkI (fun y17 => (y17 = 0 → wp S 236 0 [(0, rf 252), (1, iv x1), (2, iv x2)] [] s17 (fun o20 s20 => zkI (fun y20 => Q (rI y20) s20) (fun e20 => False) o20)) ∧ (y17 ≠ 0 → Q (rI 0) s17)) (fun e17 => False) o17))) (fun e1 => False) o1)) :
    wp S 241 0 [(0, rf 252), (1, iv x1), (2, iv x2)] [] s Q := by
  refine i_aload_n (a := 252) r_241_0 (n_241_0 _) rfl ?_
  refine i_aload_n (a := 252) r_241_1 (n_241_1 _) rfl ?_
  refine i_iload_n (x := x1) r_241_2 (n_241_2 _) rfl ?_
  refine wp_virt (b := 252) (rest := [rf 252]) (Ls := [(0, rf 252), (1, iv x1)]) r_241_3 (n_241_3 _) rfl ⟨rfl, rfl, by decide, by decide⟩ rfl rfl lf_252 ⟨rfl, Nat.le_of_ble_eq_true rfl, Nat.le_of_ble_eq_true rfl⟩ rfl h ?_
  intro o1 s1 h
  rcases h with ⟨y1, q2, rfl, h⟩ | ⟨e1, rfl, h⟩
  · refine .inl ⟨some (iv y1), rfl, ?_⟩
    show wp S 241 6 [(0, rf 252), (1, iv x1), (2, iv x2)] [iv y1, rf 252] s1 Q
    refine i_if (t := 13) r_241_6 (n_241_6 _) rfl (T_ne q2 ⟨by omega, by omega⟩) (fun c3 => ?_) (fun c3 => ?_)
    · replace h := h.1 c3
      refine i_iload_n (x := x2) r_241_13 (n_241_13 _) rfl ?_
      refine i_iconst r_241_14 (n_241_14 _) ?_
      refine i_iconst r_241_15 (n_241_15 _) ?_
      refine wp_stat (rest := [rf 252]) (Ls := [(0, iv x2), (1, iv 0), (2, iv 5)]) r_241_16 (n_241_16 _) rfl ⟨rfl, by decide, by decide, by decide⟩ rfl rfl ⟨rfl, Nat.le_of_ble_eq_true rfl, Nat.le_of_ble_eq_true rfl⟩ rfl h ?_
      intro o4 s4 h
      rcases h with ⟨y4, q5, rfl, h⟩ | ⟨e4, rfl, h⟩
      · refine .inl ⟨some (iv y4), rfl, ?_⟩
        show wp S 241 19 [(0, rf 252), (1, iv x1), (2, iv x2)] [iv y4, rf 252] s4 Q
        refine i_if (t := 26) r_241_19 (n_241_19 _) rfl (T_ne q5 ⟨by omega, by omega⟩) (fun c6 => ?_) (fun c6 => ?_)
        · replace h := h.1 c6
          refine i_iconst r_241_26 (n_241_26 _) ?_
          refine wp_virt (b := 252) (rest := []) (Ls := [(0, rf 252), (1, iv 0)]) r_241_27 (n_241_27 _) rfl ⟨rfl, rfl, by decide, by decide⟩ rfl rfl lf_252 ⟨rfl, Nat.le_of_ble_eq_true rfl, Nat.le_of_ble_eq_true rfl⟩ rfl h ?_
          intro o7 s7 h
          rcases h with ⟨y7, q8, rfl, h⟩ | ⟨e7, rfl, h⟩
          · refine .inl ⟨some (iv y7), rfl, ?_⟩
            show wp S 241 30 [(0, rf 252), (1, iv x1), (2, iv x2)] [iv y7] s7 Q
            refine i_if (t := 37) r_241_30 (n_241_30 _) rfl (T_eq q8 ⟨by omega, by omega⟩) (fun c9 => ?_) (fun c9 => ?_)
            · replace h := h.1 c9
              refine i_aload_n (a := 252) r_241_37 (n_241_37 _) rfl ?_
              refine i_iload_n (x := x1) r_241_38 (n_241_38 _) rfl ?_
              refine i_iload_n (x := x2) r_241_39 (n_241_39 _) rfl ?_
              refine wp_virt (b := 252) (rest := []) (Ls := [(0, rf 252), (1, iv x1), (2, iv x2)]) r_241_40 (n_241_40 _) rfl ⟨rfl, rfl, by decide, by decide⟩ rfl rfl lf_252 ⟨rfl, Nat.le_of_ble_eq_true rfl, Nat.le_of_ble_eq_true rfl⟩ rfl h ?_
              intro o10 s10 h
              rcases h with ⟨y10, q11, rfl, h⟩ | ⟨e10, rfl, h⟩
              · refine .inl ⟨some (iv y10), rfl, ?_⟩
                show wp S 241 43 [(0, rf 252), (1, iv x1), (2, iv x2)] [iv y10] s10 Q
                exact i_ireturn r_241_43 (n_241_43 _) rfl h
              · skip
                exact h.elim
            · replace h := h.2 c9
              refine i_iconst r_241_33 (n_241_33 _) ?_
              refine i_goto (t := 43) r_241_34 (n_241_34 _) rfl ?_
              exact i_ireturn r_241_43 (n_241_43 _) rfl h
          · skip
            exact h.elim
        · replace h := h.2 c6
          refine i_iconst r_241_22 (n_241_22 _) ?_
          refine i_goto (t := 27) r_241_23 (n_241_23 _) rfl ?_
          refine wp_virt (b := 252) (rest := []) (Ls := [(0, rf 252), (1, iv 2)]) r_241_27 (n_241_27 _) rfl ⟨rfl, rfl, by decide, by decide⟩ rfl rfl lf_252 ⟨rfl, Nat.le_of_ble_eq_true rfl, Nat.le_of_ble_eq_true rfl⟩ rfl h ?_
          intro o12 s12 h
          rcases h with ⟨y12, q13, rfl, h⟩ | ⟨e12, rfl, h⟩
          · refine .inl ⟨some (iv y12), rfl, ?_⟩
            show wp S 241 30 [(0, rf 252), (1, iv x1), (2, iv x2)] [iv y12] s12 Q
            refine i_if (t := 37) r_241_30 (n_241_30 _) rfl (T_eq q13 ⟨by omega, by omega⟩) (fun c14 => ?_) (fun c14 => ?_)
            · replace h := h.1 c14
              refine i_aload_n (a := 252) r_241_37 (n_241_37 _) rfl ?_
              refine i_iload_n (x := x1) r_241_38 (n_241_38 _) rfl ?_
              refine i_iload_n (x := x2) r_241_39 (n_241_39 _) rfl ?_
              refine wp_virt (b := 252) (rest := []) (Ls := [(0, rf 252), (1, iv x1), (2, iv x2)]) r_241_40 (n_241_40 _) rfl ⟨rfl, rfl, by decide, by decide⟩ rfl rfl lf_252 ⟨rfl, Nat.le_of_ble_eq_true rfl, Nat.le_of_ble_eq_true rfl⟩ rfl h ?_
              intro o15 s15 h
              rcases h with ⟨y15, q16, rfl, h⟩ | ⟨e15, rfl, h⟩
              · refine .inl ⟨some (iv y15), rfl, ?_⟩
                show wp S 241 43 [(0, rf 252), (1, iv x1), (2, iv x2)] [iv y15] s15 Q
                exact i_ireturn r_241_43 (n_241_43 _) rfl h
              · skip
                exact h.elim
            · replace h := h.2 c14
              refine i_iconst r_241_33 (n_241_33 _) ?_
              refine i_goto (t := 43) r_241_34 (n_241_34 _) rfl ?_
              exact i_ireturn r_241_43 (n_241_43 _) rfl h
          · skip
            exact h.elim
      · skip
        exact h.elim
    · replace h := h.2 c3
      refine i_iconst r_241_9 (n_241_9 _) ?_
      refine i_goto (t := 27) r_241_10 (n_241_10 _) rfl ?_
      refine wp_virt (b := 252) (rest := []) (Ls := [(0, rf 252), (1, iv 1)]) r_241_27 (n_241_27 _) rfl ⟨rfl, rfl, by decide, by decide⟩ rfl rfl lf_252 ⟨rfl, Nat.le_of_ble_eq_true rfl, Nat.le_of_ble_eq_true rfl⟩ rfl h ?_
      intro o17 s17 h
      rcases h with ⟨y17, q18, rfl, h⟩ | ⟨e17, rfl, h⟩
      · refine .inl ⟨some (iv y17), rfl, ?_⟩
        show wp S 241 30 [(0, rf 252), (1, iv x1), (2, iv x2)] [iv y17] s17 Q
        refine i_if (t := 37) r_241_30 (n_241_30 _) rfl (T_eq q18 ⟨by omega, by omega⟩) (fun c19 => ?_) (fun c19 => ?_)
        · replace h := h.1 c19
          refine i_aload_n (a := 252) r_241_37 (n_241_37 _) rfl ?_
          refine i_iload_n (x := x1) r_241_38 (n_241_38 _) rfl ?_
          refine i_iload_n (x := x2) r_241_39 (n_241_39 _) rfl ?_
          refine wp_virt (b := 252) (rest := []) (Ls := [(0, rf 252), (1, iv x1), (2, iv x2)]) r_241_40 (n_241_40 _) rfl ⟨rfl, rfl, by decide, by decide⟩ rfl rfl lf_252 ⟨rfl, Nat.le_of_ble_eq_true rfl, Nat.le_of_ble_eq_true rfl⟩ rfl h ?_
          intro o20 s20 h
          rcases h with ⟨y20, q21, rfl, h⟩ | ⟨e20, rfl, h⟩
          · refine .inl ⟨some (iv y20), rfl, ?_⟩
            show wp S 241 43 [(0, rf 252), (1, iv x1), (2, iv x2)] [iv y20] s20 Q
            exact i_ireturn r_241_43 (n_241_43 _) rfl h
          · skip
            exact h.elim
        · replace h := h.2 c19
          refine i_iconst r_241_33 (n_241_33 _) ?_
          refine i_goto (t := 43) r_241_34 (n_241_34 _) rfl ?_
          exact i_ireturn r_241_43 (n_241_43 _) rfl h
      · skip
        exact h.elim
  · skip
    exact h.elim
theorem r_242_0 : xfetch 242 0 = some (.aload_n 0, 1) := by decide +kernel
theorem n_242_0 : ∀ l, xpr 242 0 l = l := xpr_no (by decide +kernel)
theorem r_242_1 : xfetch 242 1 = some (.aload_n 0, 1) := by decide +kernel
theorem n_242_1 : ∀ l, xpr 242 1 l = l := xpr_no (by decide +kernel)
theorem r_242_2 : xfetch 242 2 = some (.aload_n 0, 1) := by decide +kernel
theorem n_242_2 : ∀ l, xpr 242 2 l = l := xpr_no (by decide +kernel)
theorem r_242_3 : xfetch 242 3 = some (.iload_n 1, 1) := by decide +kernel
theorem n_242_3 : ∀ l, xpr 242 3 l = l := xpr_no (by decide +kernel)
theorem r_242_4 : xfetch 242 4 = some (.iload_n 3, 1) := by decide +kernel
theorem n_242_4 : ∀ l, xpr 242 4 l = l := xpr_no (by decide +kernel)
theorem r_242_5 : xfetch 242 5 = some (.invokevirtual 254, 3) := by decide +kernel
theorem n_242_5 : ∀ l, xpr 242 5 l = l := xpr_no (by decide +kernel)
theorem r_242_8 : xfetch 242 8 = some (.ifCond .eq 16, 3) := by decide +kernel
theorem n_242_8 : ∀ l, xpr 242 8 l = l := xpr_no (by decide +kernel)
theorem r_242_11 : xfetch 242 11 = some (.aload_n 0, 1) := by decide +kernel
theorem n_242_11 : ∀ l, xpr 242 11 l = l := xpr_no (by decide +kernel)
theorem r_242_12 : xfetch 242 12 = some (.iload_n 1, 1) := by decide +kernel
theorem n_242_12 : ∀ l, xpr 242 12 l = l := xpr_no (by decide +kernel)
theorem r_242_13 : xfetch 242 13 = some (.iload_n 2, 1) := by decide +kernel
theorem n_242_13 : ∀ l, xpr 242 13 l = l := xpr_no (by decide +kernel)
theorem r_242_14 : xfetch 242 14 = some (.invokevirtual 257, 3) := by decide +kernel
theorem n_242_14 : ∀ l, xpr 242 14 l = l := xpr_no (by decide +kernel)
theorem r_242_17 : xfetch 242 17 = some (.ifCond .eq 7, 3) := by decide +kernel
theorem n_242_17 : ∀ l, xpr 242 17 l = l := xpr_no (by decide +kernel)
theorem r_242_20 : xfetch 242 20 = some (.iconst 1, 1) := by decide +kernel
theorem n_242_20 : ∀ l, xpr 242 20 l = l := xpr_no (by decide +kernel)
theorem r_242_21 : xfetch 242 21 = some (.goto 4, 3) := by decide +kernel
theorem n_242_21 : ∀ l, xpr 242 21 l = l := xpr_no (by decide +kernel)
theorem r_242_24 : xfetch 242 24 = some (.iconst 0, 1) := by decide +kernel
theorem n_242_24 : ∀ l, xpr 242 24 l = l := xpr_no (by decide +kernel)
theorem r_242_25 : xfetch 242 25 = some (.invokevirtual 175, 3) := by decide +kernel
theorem n_242_25 : ∀ l, xpr 242 25 l = l := xpr_no (by decide +kernel)
theorem r_242_28 : xfetch 242 28 = some (.invokevirtual 84, 3) := by decide +kernel
theorem n_242_28 : ∀ l, xpr 242 28 l = l := xpr_no (by decide +kernel)
theorem r_242_31 : xfetch 242 31 = some (.ifCond .eq 7, 3) := by decide +kernel
theorem n_242_31 : ∀ l, xpr 242 31 l = l := xpr_no (by decide +kernel)
theorem r_242_34 : xfetch 242 34 = some (.iconst 0, 1) := by decide +kernel
theorem n_242_34 : ∀ l, xpr 242 34 l = l := xpr_no (by decide +kernel)
theorem r_242_35 : xfetch 242 35 = some (.goto 10, 3) := by decide +kernel
theorem n_242_35 : ∀ l, xpr 242 35 l = l := xpr_no (by decide +kernel)
theorem r_242_38 : xfetch 242 38 = some (.aload_n 0, 1) := by decide +kernel
theorem n_242_38 : ∀ l, xpr 242 38 l = l := xpr_no (by decide +kernel)
theorem r_242_39 : xfetch 242 39 = some (.iload_n 1, 1) := by decide +kernel
theorem n_242_39 : ∀ l, xpr 242 39 l = l := xpr_no (by decide +kernel)
theorem r_242_40 : xfetch 242 40 = some (.iload_n 2, 1) := by decide +kernel
theorem n_242_40 : ∀ l, xpr 242 40 l = l := xpr_no (by decide +kernel)
theorem r_242_41 : xfetch 242 41 = some (.iload_n 3, 1) := by decide +kernel
theorem n_242_41 : ∀ l, xpr 242 41 l = l := xpr_no (by decide +kernel)
theorem r_242_42 : xfetch 242 42 = some (.invokevirtual 260, 3) := by decide +kernel
theorem n_242_42 : ∀ l, xpr 242 42 l = l := xpr_no (by decide +kernel)
theorem r_242_45 : xfetch 242 45 = some (.ireturn, 1) := by decide +kernel
theorem n_242_45 : ∀ l, xpr 242 45 l = l := xpr_no (by decide +kernel)
theorem v_Model_address_0 {S : Option (Nat × (Nat → Int32))} {s : zSt} {Q : Option Value ⊕ Nat → zSt → Prop} {x1 : Int} {x2 : Int} {x3 : Int} 
    (h : wp S 243 0 [(0, rf 252), (1, iv x1), (2, iv x3)] [] s (fun o1 s1 => zkI (fun y1 => (y1 = 0 → wp S 213 0 [(0, rf 252), (1, iv 0)] [] s1 (fun o4 s4 => zkI (fun y4 => wp S 179 0 [(0, rf 252), (1, iv y4)] [] s4 (fun o6 s6 => zkI (fun y6 => (y6 = 0 → wp S 245 0 [(0, rf 252), (1, iv x1), (2, iv x2), (3, iv x3)] [] s6 (fun o9 s9 => zkI (fun y9 => Q (rI y9) s9) (fun e9 => False) o9)) ∧ (y6 ≠ 0 → Q (rI 0) s6)) (fun e6 => False) o6)) (fun e4 => False) o4)) ∧ (y1 ≠ 0 → wp S 244 0 [(0, rf 252), (1, iv x1), (2, iv x2)] [] s1 (fun o11 s11 => zkI (fun y11 => (y11 = 0 → wp S 213 0 [(0, rf 252), (1, iv 0)] [] s11 (fun o14 s14 => zkI (fun y14 => wp S 179 0 [(0, rf 252), (1, iv y14)] [] s14 (fun o16 s16 => zkI (fun y16 => (y16 = 0 → wp S 245 0 [(0, rf 252), (1, iv x1), (2, iv x2), (3, iv x3)] [] s16 (fun o19 s19 => zkI (fun y19 => Q (rI y19) s19) (fun e19 => False) o19)) ∧ (y16 ≠ 0 → Q (rI 0) s16)) (fun e16 => False) o16)) (fun e14 => False) o14)) ∧ (y11 ≠ 0 → wp S 213 0 [(0, rf 252), (1, iv 1)] [] s11 (fun o21 s21 => zkI (fun y21 => wp S 179 0 [(0, rf 252), (1, iv y21)] [] s21 (fun o23 s23 => zkI (fun y23 => (y23 = 0 → wp S 245 0 [(0, rf 252), (1, iv x1), (2, iv x2), (3, iv x3)] [] s23 (fun o26 s26 => zkI (fun y26 => Q (rI y26) s26) (fun e26 => False) o26)) ∧ (y23 ≠ 0 → Q (rI 0) s23)) (fun e23 => False) o23)) (fun e21 => False) o21))) (fun e11 => False) o11))) (fun e1 => False) o1)) :
    wp S 242 0 [(0, rf 252), (1, iv x1), (2, iv x2), (3, iv x3)] [] s Q := by
  refine i_aload_n (a := 252) r_242_0 (n_242_0 _) rfl ?_
  refine i_aload_n (a := 252) r_242_1 (n_242_1 _) rfl ?_
  refine i_aload_n (a := 252) r_242_2 (n_242_2 _) rfl ?_
  refine i_iload_n (x := x1) r_242_3 (n_242_3 _) rfl ?_
  refine i_iload_n (x := x3) r_242_4 (n_242_4 _) rfl ?_
  refine wp_virt (b := 252) (rest := [rf 252, rf 252]) (Ls := [(0, rf 252), (1, iv x1), (2, iv x3)]) r_242_5 (n_242_5 _) rfl ⟨rfl, rfl, by decide, by decide⟩ rfl rfl lf_252 ⟨rfl, Nat.le_of_ble_eq_true rfl, Nat.le_of_ble_eq_true rfl⟩ rfl h ?_
  intro o1 s1 h
  rcases h with ⟨y1, q2, rfl, h⟩ | ⟨e1, rfl, h⟩
  · refine .inl ⟨some (iv y1), rfl, ?_⟩
    show wp S 242 8 [(0, rf 252), (1, iv x1), (2, iv x2), (3, iv x3)] [iv y1, rf 252, rf 252] s1 Q
    refine i_if (t := 24) r_242_8 (n_242_8 _) rfl (T_eq q2 ⟨by omega, by omega⟩) (fun c3 => ?_) (fun c3 => ?_)
    · replace h := h.1 c3
      refine i_iconst r_242_24 (n_242_24 _) ?_
      refine wp_virt (b := 252) (rest := [rf 252]) (Ls := [(0, rf 252), (1, iv 0)]) r_242_25 (n_242_25 _) rfl ⟨rfl, rfl, by decide, by decide⟩ rfl rfl lf_252 ⟨rfl, Nat.le_of_ble_eq_true rfl, Nat.le_of_ble_eq_true rfl⟩ rfl h ?_
      intro o4 s4 h
      rcases h with ⟨y4, q5, rfl, h⟩ | ⟨e4, rfl, h⟩
      · refine .inl ⟨some (iv y4), rfl, ?_⟩
        show wp S 242 28 [(0, rf 252), (1, iv x1), (2, iv x2), (3, iv x3)] [iv y4, rf 252] s4 Q
        refine wp_virt (b := 252) (rest := []) (Ls := [(0, rf 252), (1, iv y4)]) r_242_28 (n_242_28 _) rfl ⟨rfl, rfl, by decide, by decide⟩ rfl rfl lf_252 ⟨rfl, Nat.le_of_ble_eq_true rfl, Nat.le_of_ble_eq_true rfl⟩ rfl h ?_
        intro o6 s6 h
        rcases h with ⟨y6, q7, rfl, h⟩ | ⟨e6, rfl, h⟩
        · refine .inl ⟨some (iv y6), rfl, ?_⟩
          show wp S 242 31 [(0, rf 252), (1, iv x1), (2, iv x2), (3, iv x3)] [iv y6] s6 Q
          refine i_if (t := 38) r_242_31 (n_242_31 _) rfl (T_eq q7 ⟨by omega, by omega⟩) (fun c8 => ?_) (fun c8 => ?_)
          · replace h := h.1 c8
            refine i_aload_n (a := 252) r_242_38 (n_242_38 _) rfl ?_
            refine i_iload_n (x := x1) r_242_39 (n_242_39 _) rfl ?_
            refine i_iload_n (x := x2) r_242_40 (n_242_40 _) rfl ?_
            refine i_iload_n (x := x3) r_242_41 (n_242_41 _) rfl ?_
            refine wp_virt (b := 252) (rest := []) (Ls := [(0, rf 252), (1, iv x1), (2, iv x2), (3, iv x3)]) r_242_42 (n_242_42 _) rfl ⟨rfl, rfl, by decide, by decide⟩ rfl rfl lf_252 ⟨rfl, Nat.le_of_ble_eq_true rfl, Nat.le_of_ble_eq_true rfl⟩ rfl h ?_
            intro o9 s9 h
            rcases h with ⟨y9, q10, rfl, h⟩ | ⟨e9, rfl, h⟩
            · refine .inl ⟨some (iv y9), rfl, ?_⟩
              show wp S 242 45 [(0, rf 252), (1, iv x1), (2, iv x2), (3, iv x3)] [iv y9] s9 Q
              exact i_ireturn r_242_45 (n_242_45 _) rfl h
            · skip
              exact h.elim
          · replace h := h.2 c8
            refine i_iconst r_242_34 (n_242_34 _) ?_
            refine i_goto (t := 45) r_242_35 (n_242_35 _) rfl ?_
            exact i_ireturn r_242_45 (n_242_45 _) rfl h
        · skip
          exact h.elim
      · skip
        exact h.elim
    · replace h := h.2 c3
      refine i_aload_n (a := 252) r_242_11 (n_242_11 _) rfl ?_
      refine i_iload_n (x := x1) r_242_12 (n_242_12 _) rfl ?_
      refine i_iload_n (x := x2) r_242_13 (n_242_13 _) rfl ?_
      refine wp_virt (b := 252) (rest := [rf 252, rf 252]) (Ls := [(0, rf 252), (1, iv x1), (2, iv x2)]) r_242_14 (n_242_14 _) rfl ⟨rfl, rfl, by decide, by decide⟩ rfl rfl lf_252 ⟨rfl, Nat.le_of_ble_eq_true rfl, Nat.le_of_ble_eq_true rfl⟩ rfl h ?_
      intro o11 s11 h
      rcases h with ⟨y11, q12, rfl, h⟩ | ⟨e11, rfl, h⟩
      · refine .inl ⟨some (iv y11), rfl, ?_⟩
        show wp S 242 17 [(0, rf 252), (1, iv x1), (2, iv x2), (3, iv x3)] [iv y11, rf 252, rf 252] s11 Q
        refine i_if (t := 24) r_242_17 (n_242_17 _) rfl (T_eq q12 ⟨by omega, by omega⟩) (fun c13 => ?_) (fun c13 => ?_)
        · replace h := h.1 c13
          refine i_iconst r_242_24 (n_242_24 _) ?_
          refine wp_virt (b := 252) (rest := [rf 252]) (Ls := [(0, rf 252), (1, iv 0)]) r_242_25 (n_242_25 _) rfl ⟨rfl, rfl, by decide, by decide⟩ rfl rfl lf_252 ⟨rfl, Nat.le_of_ble_eq_true rfl, Nat.le_of_ble_eq_true rfl⟩ rfl h ?_
          intro o14 s14 h
          rcases h with ⟨y14, q15, rfl, h⟩ | ⟨e14, rfl, h⟩
          · refine .inl ⟨some (iv y14), rfl, ?_⟩
            show wp S 242 28 [(0, rf 252), (1, iv x1), (2, iv x2), (3, iv x3)] [iv y14, rf 252] s14 Q
            refine wp_virt (b := 252) (rest := []) (Ls := [(0, rf 252), (1, iv y14)]) r_242_28 (n_242_28 _) rfl ⟨rfl, rfl, by decide, by decide⟩ rfl rfl lf_252 ⟨rfl, Nat.le_of_ble_eq_true rfl, Nat.le_of_ble_eq_true rfl⟩ rfl h ?_
            intro o16 s16 h
            rcases h with ⟨y16, q17, rfl, h⟩ | ⟨e16, rfl, h⟩
            · refine .inl ⟨some (iv y16), rfl, ?_⟩
              show wp S 242 31 [(0, rf 252), (1, iv x1), (2, iv x2), (3, iv x3)] [iv y16] s16 Q
              refine i_if (t := 38) r_242_31 (n_242_31 _) rfl (T_eq q17 ⟨by omega, by omega⟩) (fun c18 => ?_) (fun c18 => ?_)
              · replace h := h.1 c18
                refine i_aload_n (a := 252) r_242_38 (n_242_38 _) rfl ?_
                refine i_iload_n (x := x1) r_242_39 (n_242_39 _) rfl ?_
                refine i_iload_n (x := x2) r_242_40 (n_242_40 _) rfl ?_
                refine i_iload_n (x := x3) r_242_41 (n_242_41 _) rfl ?_
                refine wp_virt (b := 252) (rest := []) (Ls := [(0, rf 252), (1, iv x1), (2, iv x2), (3, iv x3)]) r_242_42 (n_242_42 _) rfl ⟨rfl, rfl, by decide, by decide⟩ rfl rfl lf_252 ⟨rfl, Nat.le_of_ble_eq_true rfl, Nat.le_of_ble_eq_true rfl⟩ rfl h ?_
                intro o19 s19 h
                rcases h with ⟨y19, q20, rfl, h⟩ | ⟨e19, rfl, h⟩
                · refine .inl ⟨some (iv y19), rfl, ?_⟩
                  show wp S 242 45 [(0, rf 252), (1, iv x1), (2, iv x2), (3, iv x3)] [iv y19] s19 Q
                  exact i_ireturn r_242_45 (n_242_45 _) rfl h
                · skip
                  exact h.elim
              · replace h := h.2 c18
                refine i_iconst r_242_34 (n_242_34 _) ?_
                refine i_goto (t := 45) r_242_35 (n_242_35 _) rfl ?_
                exact i_ireturn r_242_45 (n_242_45 _) rfl h
            · skip
              exact h.elim
          · skip
            exact h.elim
        · replace h := h.2 c13
          refine i_iconst r_242_20 (n_242_20 _) ?_
          refine i_goto (t := 25) r_242_21 (n_242_21 _) rfl ?_
          refine wp_virt (b := 252) (rest := [rf 252]) (Ls := [(0, rf 252), (1, iv 1)]) r_242_25 (n_242_25 _) rfl ⟨rfl, rfl, by decide, by decide⟩ rfl rfl lf_252 ⟨rfl, Nat.le_of_ble_eq_true rfl, Nat.le_of_ble_eq_true rfl⟩ rfl h ?_
          intro o21 s21 h
          rcases h with ⟨y21, q22, rfl, h⟩ | ⟨e21, rfl, h⟩
          · refine .inl ⟨some (iv y21), rfl, ?_⟩
            show wp S 242 28 [(0, rf 252), (1, iv x1), (2, iv x2), (3, iv x3)] [iv y21, rf 252] s21 Q
            refine wp_virt (b := 252) (rest := []) (Ls := [(0, rf 252), (1, iv y21)]) r_242_28 (n_242_28 _) rfl ⟨rfl, rfl, by decide, by decide⟩ rfl rfl lf_252 ⟨rfl, Nat.le_of_ble_eq_true rfl, Nat.le_of_ble_eq_true rfl⟩ rfl h ?_
            intro o23 s23 h
            rcases h with ⟨y23, q24, rfl, h⟩ | ⟨e23, rfl, h⟩
            · refine .inl ⟨some (iv y23), rfl, ?_⟩
              show wp S 242 31 [(0, rf 252), (1, iv x1), (2, iv x2), (3, iv x3)] [iv y23] s23 Q
              refine i_if (t := 38) r_242_31 (n_242_31 _) rfl (T_eq q24 ⟨by omega, by omega⟩) (fun c25 => ?_) (fun c25 => ?_)
              · replace h := h.1 c25
                refine i_aload_n (a := 252) r_242_38 (n_242_38 _) rfl ?_
                refine i_iload_n (x := x1) r_242_39 (n_242_39 _) rfl ?_
                refine i_iload_n (x := x2) r_242_40 (n_242_40 _) rfl ?_
                refine i_iload_n (x := x3) r_242_41 (n_242_41 _) rfl ?_
                refine wp_virt (b := 252) (rest := []) (Ls := [(0, rf 252), (1, iv x1), (2, iv x2), (3, iv x3)]) r_242_42 (n_242_42 _) rfl ⟨rfl, rfl, by decide, by decide⟩ rfl rfl lf_252 ⟨rfl, Nat.le_of_ble_eq_true rfl, Nat.le_of_ble_eq_true rfl⟩ rfl h ?_
                intro o26 s26 h
                rcases h with ⟨y26, q27, rfl, h⟩ | ⟨e26, rfl, h⟩
                · refine .inl ⟨some (iv y26), rfl, ?_⟩
                  show wp S 242 45 [(0, rf 252), (1, iv x1), (2, iv x2), (3, iv x3)] [iv y26] s26 Q
                  exact i_ireturn r_242_45 (n_242_45 _) rfl h
                · skip
                  exact h.elim
              · replace h := h.2 c25
                refine i_iconst r_242_34 (n_242_34 _) ?_
                refine i_goto (t := 45) r_242_35 (n_242_35 _) rfl ?_
                exact i_ireturn r_242_45 (n_242_45 _) rfl h
            · skip
              exact h.elim
          · skip
            exact h.elim
      · skip
        exact h.elim
  · skip
    exact h.elim
theorem r_243_0 : xfetch 243 0 = some (.aload_n 0, 1) := by decide +kernel
theorem n_243_0 : ∀ l, xpr 243 0 l = l := xpr_no (by decide +kernel)
theorem r_243_1 : xfetch 243 1 = some (.iload_n 1, 1) := by decide +kernel
theorem n_243_1 : ∀ l, xpr 243 1 l = l := xpr_no (by decide +kernel)
theorem r_243_2 : xfetch 243 2 = some (.invokevirtual 225, 3) := by decide +kernel
theorem n_243_2 : ∀ l, xpr 243 2 l = l := xpr_no (by decide +kernel)
theorem r_243_5 : xfetch 243 5 = some (.ifCond .ne 5, 3) := by decide +kernel
theorem n_243_5 : ∀ l, xpr 243 5 l = l := xpr_no (by decide +kernel)
theorem r_243_8 : xfetch 243 8 = some (.iconst 0, 1) := by decide +kernel
theorem n_243_8 : ∀ l, xpr 243 8 l = l := xpr_no (by decide +kernel)
theorem r_243_9 : xfetch 243 9 = some (.ireturn, 1) := by decide +kernel
theorem n_243_9 : ∀ l, xpr 243 9 l = l := xpr_no (by decide +kernel)
theorem r_243_10 : xfetch 243 10 = some (.aload_n 0, 1) := by decide +kernel
theorem n_243_10 : ∀ l, xpr 243 10 l = l := xpr_no (by decide +kernel)
theorem r_243_11 : xfetch 243 11 = some (.invokevirtual 152, 3) := by decide +kernel
theorem n_243_11 : ∀ l, xpr 243 11 l = l := xpr_no (by decide +kernel)
theorem r_243_14 : xfetch 243 14 = some (.aload_n 0, 1) := by decide +kernel
theorem n_243_14 : ∀ l, xpr 243 14 l = l := xpr_no (by decide +kernel)
theorem r_243_15 : xfetch 243 15 = some (.aload_n 0, 1) := by decide +kernel
theorem n_243_15 : ∀ l, xpr 243 15 l = l := xpr_no (by decide +kernel)
theorem r_243_16 : xfetch 243 16 = some (.iload_n 1, 1) := by decide +kernel
theorem n_243_16 : ∀ l, xpr 243 16 l = l := xpr_no (by decide +kernel)
theorem r_243_17 : xfetch 243 17 = some (.iconst 0, 1) := by decide +kernel
theorem n_243_17 : ∀ l, xpr 243 17 l = l := xpr_no (by decide +kernel)
theorem r_243_18 : xfetch 243 18 = some (.invokevirtual 228, 3) := by decide +kernel
theorem n_243_18 : ∀ l, xpr 243 18 l = l := xpr_no (by decide +kernel)
theorem r_243_21 : xfetch 243 21 = some (.iload_n 2, 1) := by decide +kernel
theorem n_243_21 : ∀ l, xpr 243 21 l = l := xpr_no (by decide +kernel)
theorem r_243_22 : xfetch 243 22 = some (.invokevirtual 172, 3) := by decide +kernel
theorem n_243_22 : ∀ l, xpr 243 22 l = l := xpr_no (by decide +kernel)
theorem r_243_25 : xfetch 243 25 = some (.ireturn, 1) := by decide +kernel
theorem n_243_25 : ∀ l, xpr 243 25 l = l := xpr_no (by decide +kernel)
theorem v_Model_hasLeaf_0 {S : Option (Nat × (Nat → Int32))} {s : zSt} {Q : Option Value ⊕ Nat → zSt → Prop} {x1 : Int} {x2 : Int} 
    (h : wp S 229 0 [(0, rf 252), (1, iv x1)] [] s (fun o1 s1 => zkI (fun y1 => (y1 ≠ 0 → wp S 193 0 [(0, rf 252)] [] s1 (fun o4 s4 => zkU (wp S 236 0 [(0, rf 252), (1, iv x1), (2, iv 0)] [] s4 (fun o6 s6 => zkI (fun y6 => wp S 211 0 [(0, rf 252), (1, iv y6), (2, iv x2)] [] s6 (fun o8 s8 => zkI (fun y8 => (y8 = 0 ∨ y8 = 1) ∧ (Q (rI y8) s8)) (fun e8 => False) o8)) (fun e6 => False) o6)) (fun e4 => False) o4)) ∧ (y1 = 0 → Q (rI 0) s1)) (fun e1 => False) o1)) :
    wp S 243 0 [(0, rf 252), (1, iv x1), (2, iv x2)] [] s Q := by
  refine i_aload_n (a := 252) r_243_0 (n_243_0 _) rfl ?_
  refine i_iload_n (x := x1) r_243_1 (n_243_1 _) rfl ?_
  refine wp_virt (b := 252) (rest := []) (Ls := [(0, rf 252), (1, iv x1)]) r_243_2 (n_243_2 _) rfl ⟨rfl, rfl, by decide, by decide⟩ rfl rfl lf_252 ⟨rfl, Nat.le_of_ble_eq_true rfl, Nat.le_of_ble_eq_true rfl⟩ rfl h ?_
  intro o1 s1 h
  rcases h with ⟨y1, q2, rfl, h⟩ | ⟨e1, rfl, h⟩
  · refine .inl ⟨some (iv y1), rfl, ?_⟩
    show wp S 243 5 [(0, rf 252), (1, iv x1), (2, iv x2)] [iv y1] s1 Q
    refine i_if (t := 10) r_243_5 (n_243_5 _) rfl (T_ne q2 ⟨by omega, by omega⟩) (fun c3 => ?_) (fun c3 => ?_)
    · replace h := h.1 c3
      refine i_aload_n (a := 252) r_243_10 (n_243_10 _) rfl ?_
      refine wp_virt (b := 252) (rest := []) (Ls := [(0, rf 252)]) r_243_11 (n_243_11 _) rfl ⟨rfl, rfl, by decide, by decide⟩ rfl rfl lf_252 ⟨rfl, Nat.le_of_ble_eq_true rfl, Nat.le_of_ble_eq_true rfl⟩ rfl h ?_
      intro o4 s4 h
      rcases h with ⟨rfl, h⟩ | ⟨e4, rfl, h⟩
      · refine .inl ⟨none, rfl, ?_⟩
        refine i_aload_n (a := 252) r_243_14 (n_243_14 _) rfl ?_
        refine i_aload_n (a := 252) r_243_15 (n_243_15 _) rfl ?_
        refine i_iload_n (x := x1) r_243_16 (n_243_16 _) rfl ?_
        refine i_iconst r_243_17 (n_243_17 _) ?_
        refine wp_virt (b := 252) (rest := [rf 252]) (Ls := [(0, rf 252), (1, iv x1), (2, iv 0)]) r_243_18 (n_243_18 _) rfl ⟨rfl, rfl, by decide, by decide⟩ rfl rfl lf_252 ⟨rfl, Nat.le_of_ble_eq_true rfl, Nat.le_of_ble_eq_true rfl⟩ rfl h ?_
        intro o6 s6 h
        rcases h with ⟨y6, q7, rfl, h⟩ | ⟨e6, rfl, h⟩
        · refine .inl ⟨some (iv y6), rfl, ?_⟩
          show wp S 243 21 [(0, rf 252), (1, iv x1), (2, iv x2)] [iv y6, rf 252] s6 Q
          refine i_iload_n (x := x2) r_243_21 (n_243_21 _) rfl ?_
          refine wp_virt (b := 252) (rest := []) (Ls := [(0, rf 252), (1, iv y6), (2, iv x2)]) r_243_22 (n_243_22 _) rfl ⟨rfl, rfl, by decide, by decide⟩ rfl rfl lf_252 ⟨rfl, Nat.le_of_ble_eq_true rfl, Nat.le_of_ble_eq_true rfl⟩ rfl h ?_
          intro o8 s8 h
          rcases h with ⟨y8, q9, rfl, h⟩ | ⟨e8, rfl, h⟩
          · refine .inl ⟨some (iv y8), rfl, ?_⟩
            show wp S 243 25 [(0, rf 252), (1, iv x1), (2, iv x2)] [iv y8] s8 Q
            obtain ⟨g10, h⟩ := h
            exact i_zreturn r_243_25 (n_243_25 _) rfl g10 h
          · skip
            exact h.elim
        · skip
          exact h.elim
      · skip
        exact h.elim
    · replace h := h.2 c3
      refine i_iconst r_243_8 (n_243_8 _) ?_
      exact i_zreturn r_243_9 (n_243_9 _) rfl (by decide) h
  · skip
    exact h.elim
theorem r_244_0 : xfetch 244 0 = some (.iload_n 2, 1) := by decide +kernel
theorem n_244_0 : ∀ l, xpr 244 0 l = l := xpr_no (by decide +kernel)
theorem r_244_1 : xfetch 244 1 = some (.iconst 0, 1) := by decide +kernel
theorem n_244_1 : ∀ l, xpr 244 1 l = l := xpr_no (by decide +kernel)
theorem r_244_2 : xfetch 244 2 = some (.aload_n 0, 1) := by decide +kernel
theorem n_244_2 : ∀ l, xpr 244 2 l = l := xpr_no (by decide +kernel)
theorem r_244_3 : xfetch 244 3 = some (.iload_n 1, 1) := by decide +kernel
theorem n_244_3 : ∀ l, xpr 244 3 l = l := xpr_no (by decide +kernel)
theorem r_244_4 : xfetch 244 4 = some (.iconst 1, 1) := by decide +kernel
theorem n_244_4 : ∀ l, xpr 244 4 l = l := xpr_no (by decide +kernel)
theorem r_244_5 : xfetch 244 5 = some (.invokevirtual 228, 3) := by decide +kernel
theorem n_244_5 : ∀ l, xpr 244 5 l = l := xpr_no (by decide +kernel)
theorem r_244_8 : xfetch 244 8 = some (.iconst 1, 1) := by decide +kernel
theorem n_244_8 : ∀ l, xpr 244 8 l = l := xpr_no (by decide +kernel)
theorem r_244_9 : xfetch 244 9 = some (.isub, 1) := by decide +kernel
theorem n_244_9 : ∀ l, xpr 244 9 l = l := xpr_no (by decide +kernel)
theorem r_244_10 : xfetch 244 10 = some (.invokestatic 88, 3) := by decide +kernel
theorem n_244_10 : ∀ l, xpr 244 10 l = l := xpr_no (by decide +kernel)
theorem r_244_13 : xfetch 244 13 = some (.ireturn, 1) := by decide +kernel
theorem n_244_13 : ∀ l, xpr 244 13 l = l := xpr_no (by decide +kernel)
theorem v_Model_isRow_0 {S : Option (Nat × (Nat → Int32))} {s : zSt} {Q : Option Value ⊕ Nat → zSt → Prop} {x1 : Int} {x2 : Int} 
    (h : wp S 236 0 [(0, rf 252), (1, iv x1), (2, iv 1)] [] s (fun o1 s1 => zkI (fun y1 => wp S 187 0 [(0, iv x2), (1, iv 0), (2, iv (y1 - 1))] [] s1 (fun o3 s3 => zkI (fun y3 => (y3 = 0 ∨ y3 = 1) ∧ (Q (rI y3) s3)) (fun e3 => False) o3)) (fun e1 => False) o1)) :
    wp S 244 0 [(0, rf 252), (1, iv x1), (2, iv x2)] [] s Q := by
  refine i_iload_n (x := x2) r_244_0 (n_244_0 _) rfl ?_
  refine i_iconst r_244_1 (n_244_1 _) ?_
  refine i_aload_n (a := 252) r_244_2 (n_244_2 _) rfl ?_
  refine i_iload_n (x := x1) r_244_3 (n_244_3 _) rfl ?_
  refine i_iconst r_244_4 (n_244_4 _) ?_
  refine wp_virt (b := 252) (rest := [iv 0, iv x2]) (Ls := [(0, rf 252), (1, iv x1), (2, iv 1)]) r_244_5 (n_244_5 _) rfl ⟨rfl, rfl, by decide, by decide⟩ rfl rfl lf_252 ⟨rfl, Nat.le_of_ble_eq_true rfl, Nat.le_of_ble_eq_true rfl⟩ rfl h ?_
  intro o1 s1 h
  rcases h with ⟨y1, q2, rfl, h⟩ | ⟨e1, rfl, h⟩
  · refine .inl ⟨some (iv y1), rfl, ?_⟩
    show wp S 244 8 [(0, rf 252), (1, iv x1), (2, iv x2)] [iv y1, iv 0, iv x2] s1 Q
    refine i_iconst r_244_8 (n_244_8 _) ?_
    refine i_isub r_244_9 (n_244_9 _) ?_
    refine wp_stat (rest := []) (Ls := [(0, iv x2), (1, iv 0), (2, iv (y1 - 1))]) r_244_10 (n_244_10 _) rfl ⟨rfl, by decide, by decide, by decide⟩ rfl rfl ⟨rfl, Nat.le_of_ble_eq_true rfl, Nat.le_of_ble_eq_true rfl⟩ rfl h ?_
    intro o3 s3 h
    rcases h with ⟨y3, q4, rfl, h⟩ | ⟨e3, rfl, h⟩
    · refine .inl ⟨some (iv y3), rfl, ?_⟩
      show wp S 244 13 [(0, rf 252), (1, iv x1), (2, iv x2)] [iv y3] s3 Q
      obtain ⟨g5, h⟩ := h
      exact i_zreturn r_244_13 (n_244_13 _) rfl g5 h
    · skip
      exact h.elim
  · skip
    exact h.elim
theorem r_245_0 : xfetch 245 0 = some (.aload_n 0, 1) := by decide +kernel
theorem n_245_0 : ∀ l, xpr 245 0 l = l := xpr_no (by decide +kernel)
theorem r_245_1 : xfetch 245 1 = some (.iload_n 1, 1) := by decide +kernel
theorem n_245_1 : ∀ l, xpr 245 1 l = l := xpr_no (by decide +kernel)
theorem r_245_2 : xfetch 245 2 = some (.iconst 4, 1) := by decide +kernel
theorem n_245_2 : ∀ l, xpr 245 2 l = l := xpr_no (by decide +kernel)
theorem r_245_3 : xfetch 245 3 = some (.invokevirtual 228, 3) := by decide +kernel
theorem n_245_3 : ∀ l, xpr 245 3 l = l := xpr_no (by decide +kernel)
theorem r_245_6 : xfetch 245 6 = some (.aload_n 0, 1) := by decide +kernel
theorem n_245_6 : ∀ l, xpr 245 6 l = l := xpr_no (by decide +kernel)
theorem r_245_7 : xfetch 245 7 = some (.aload_n 0, 1) := by decide +kernel
theorem n_245_7 : ∀ l, xpr 245 7 l = l := xpr_no (by decide +kernel)
theorem r_245_8 : xfetch 245 8 = some (.iload_n 1, 1) := by decide +kernel
theorem n_245_8 : ∀ l, xpr 245 8 l = l := xpr_no (by decide +kernel)
theorem r_245_9 : xfetch 245 9 = some (.iconst 0, 1) := by decide +kernel
theorem n_245_9 : ∀ l, xpr 245 9 l = l := xpr_no (by decide +kernel)
theorem r_245_10 : xfetch 245 10 = some (.invokevirtual 228, 3) := by decide +kernel
theorem n_245_10 : ∀ l, xpr 245 10 l = l := xpr_no (by decide +kernel)
theorem r_245_13 : xfetch 245 13 = some (.aload_n 0, 1) := by decide +kernel
theorem n_245_13 : ∀ l, xpr 245 13 l = l := xpr_no (by decide +kernel)
theorem r_245_14 : xfetch 245 14 = some (.iload_n 1, 1) := by decide +kernel
theorem n_245_14 : ∀ l, xpr 245 14 l = l := xpr_no (by decide +kernel)
theorem r_245_15 : xfetch 245 15 = some (.iconst 1, 1) := by decide +kernel
theorem n_245_15 : ∀ l, xpr 245 15 l = l := xpr_no (by decide +kernel)
theorem r_245_16 : xfetch 245 16 = some (.invokevirtual 228, 3) := by decide +kernel
theorem n_245_16 : ∀ l, xpr 245 16 l = l := xpr_no (by decide +kernel)
theorem r_245_19 : xfetch 245 19 = some (.aload_n 0, 1) := by decide +kernel
theorem n_245_19 : ∀ l, xpr 245 19 l = l := xpr_no (by decide +kernel)
theorem r_245_20 : xfetch 245 20 = some (.iload_n 1, 1) := by decide +kernel
theorem n_245_20 : ∀ l, xpr 245 20 l = l := xpr_no (by decide +kernel)
theorem r_245_21 : xfetch 245 21 = some (.iconst 2, 1) := by decide +kernel
theorem n_245_21 : ∀ l, xpr 245 21 l = l := xpr_no (by decide +kernel)
theorem r_245_22 : xfetch 245 22 = some (.invokevirtual 228, 3) := by decide +kernel
theorem n_245_22 : ∀ l, xpr 245 22 l = l := xpr_no (by decide +kernel)
theorem r_245_25 : xfetch 245 25 = some (.iload_n 2, 1) := by decide +kernel
theorem n_245_25 : ∀ l, xpr 245 25 l = l := xpr_no (by decide +kernel)
theorem r_245_26 : xfetch 245 26 = some (.iload_n 3, 1) := by decide +kernel
theorem n_245_26 : ∀ l, xpr 245 26 l = l := xpr_no (by decide +kernel)
theorem r_245_27 : xfetch 245 27 = some (.invokevirtual 250, 3) := by decide +kernel
theorem n_245_27 : ∀ l, xpr 245 27 l = l := xpr_no (by decide +kernel)
theorem r_245_30 : xfetch 245 30 = some (.iadd, 1) := by decide +kernel
theorem n_245_30 : ∀ l, xpr 245 30 l = l := xpr_no (by decide +kernel)
theorem r_245_31 : xfetch 245 31 = some (.ireturn, 1) := by decide +kernel
theorem n_245_31 : ∀ l, xpr 245 31 l = l := xpr_no (by decide +kernel)
theorem v_Model_addressOf_0 {S : Option (Nat × (Nat → Int32))} {s : zSt} {Q : Option Value ⊕ Nat → zSt → Prop} {x1 : Int} {x2 : Int} {x3 : Int} 
    (h : wp S 236 0 [(0, rf 252), (1, iv x1), (2, iv 4)] [] s (fun o1 s1 => zkI (fun y1 => wp S 236 0 [(0, rf 252), (1, iv x1), (2, iv 0)] [] s1 (fun o3 s3 => zkI (fun y3 => wp S 236 0 [(0, rf 252), (1, iv x1), (2, iv 1)] [] s3 (fun o5 s5 => zkI (fun y5 => wp S 236 0 [(0, rf 252), (1, iv x1), (2, iv 2)] [] s5 (fun o7 s7 => zkI (fun y7 => wp S 246 0 [(0, rf 252), (1, iv y3), (2, iv y5), (3, iv y7), (4, iv x2), (5, iv x3)] [] s7 (fun o9 s9 => zkI (fun y9 => Q (rI (y1 + y9)) s9) (fun e9 => False) o9)) (fun e7 => False) o7)) (fun e5 => False) o5)) (fun e3 => False) o3)) (fun e1 => False) o1)) :
    wp S 245 0 [(0, rf 252), (1, iv x1), (2, iv x2), (3, iv x3)] [] s Q := by
  refine i_aload_n (a := 252) r_245_0 (n_245_0 _) rfl ?_
  refine i_iload_n (x := x1) r_245_1 (n_245_1 _) rfl ?_
  refine i_iconst r_245_2 (n_245_2 _) ?_
  refine wp_virt (b := 252) (rest := []) (Ls := [(0, rf 252), (1, iv x1), (2, iv 4)]) r_245_3 (n_245_3 _) rfl ⟨rfl, rfl, by decide, by decide⟩ rfl rfl lf_252 ⟨rfl, Nat.le_of_ble_eq_true rfl, Nat.le_of_ble_eq_true rfl⟩ rfl h ?_
  intro o1 s1 h
  rcases h with ⟨y1, q2, rfl, h⟩ | ⟨e1, rfl, h⟩
  · refine .inl ⟨some (iv y1), rfl, ?_⟩
    show wp S 245 6 [(0, rf 252), (1, iv x1), (2, iv x2), (3, iv x3)] [iv y1] s1 Q
    refine i_aload_n (a := 252) r_245_6 (n_245_6 _) rfl ?_
    refine i_aload_n (a := 252) r_245_7 (n_245_7 _) rfl ?_
    refine i_iload_n (x := x1) r_245_8 (n_245_8 _) rfl ?_
    refine i_iconst r_245_9 (n_245_9 _) ?_
    refine wp_virt (b := 252) (rest := [rf 252, iv y1]) (Ls := [(0, rf 252), (1, iv x1), (2, iv 0)]) r_245_10 (n_245_10 _) rfl ⟨rfl, rfl, by decide, by decide⟩ rfl rfl lf_252 ⟨rfl, Nat.le_of_ble_eq_true rfl, Nat.le_of_ble_eq_true rfl⟩ rfl h ?_
    intro o3 s3 h
    rcases h with ⟨y3, q4, rfl, h⟩ | ⟨e3, rfl, h⟩
    · refine .inl ⟨some (iv y3), rfl, ?_⟩
      show wp S 245 13 [(0, rf 252), (1, iv x1), (2, iv x2), (3, iv x3)] [iv y3, rf 252, iv y1] s3 Q
      refine i_aload_n (a := 252) r_245_13 (n_245_13 _) rfl ?_
      refine i_iload_n (x := x1) r_245_14 (n_245_14 _) rfl ?_
      refine i_iconst r_245_15 (n_245_15 _) ?_
      refine wp_virt (b := 252) (rest := [iv y3, rf 252, iv y1]) (Ls := [(0, rf 252), (1, iv x1), (2, iv 1)]) r_245_16 (n_245_16 _) rfl ⟨rfl, rfl, by decide, by decide⟩ rfl rfl lf_252 ⟨rfl, Nat.le_of_ble_eq_true rfl, Nat.le_of_ble_eq_true rfl⟩ rfl h ?_
      intro o5 s5 h
      rcases h with ⟨y5, q6, rfl, h⟩ | ⟨e5, rfl, h⟩
      · refine .inl ⟨some (iv y5), rfl, ?_⟩
        show wp S 245 19 [(0, rf 252), (1, iv x1), (2, iv x2), (3, iv x3)] [iv y5, iv y3, rf 252, iv y1] s5 Q
        refine i_aload_n (a := 252) r_245_19 (n_245_19 _) rfl ?_
        refine i_iload_n (x := x1) r_245_20 (n_245_20 _) rfl ?_
        refine i_iconst r_245_21 (n_245_21 _) ?_
        refine wp_virt (b := 252) (rest := [iv y5, iv y3, rf 252, iv y1]) (Ls := [(0, rf 252), (1, iv x1), (2, iv 2)]) r_245_22 (n_245_22 _) rfl ⟨rfl, rfl, by decide, by decide⟩ rfl rfl lf_252 ⟨rfl, Nat.le_of_ble_eq_true rfl, Nat.le_of_ble_eq_true rfl⟩ rfl h ?_
        intro o7 s7 h
        rcases h with ⟨y7, q8, rfl, h⟩ | ⟨e7, rfl, h⟩
        · refine .inl ⟨some (iv y7), rfl, ?_⟩
          show wp S 245 25 [(0, rf 252), (1, iv x1), (2, iv x2), (3, iv x3)] [iv y7, iv y5, iv y3, rf 252, iv y1] s7 Q
          refine i_iload_n (x := x2) r_245_25 (n_245_25 _) rfl ?_
          refine i_iload_n (x := x3) r_245_26 (n_245_26 _) rfl ?_
          refine wp_virt (b := 252) (rest := [iv y1]) (Ls := [(0, rf 252), (1, iv y3), (2, iv y5), (3, iv y7), (4, iv x2), (5, iv x3)]) r_245_27 (n_245_27 _) rfl ⟨rfl, rfl, by decide, by decide⟩ rfl rfl lf_252 ⟨rfl, Nat.le_of_ble_eq_true rfl, Nat.le_of_ble_eq_true rfl⟩ rfl h ?_
          intro o9 s9 h
          rcases h with ⟨y9, q10, rfl, h⟩ | ⟨e9, rfl, h⟩
          · refine .inl ⟨some (iv y9), rfl, ?_⟩
            show wp S 245 30 [(0, rf 252), (1, iv x1), (2, iv x2), (3, iv x3)] [iv y9, iv y1] s9 Q
            refine i_iadd r_245_30 (n_245_30 _) ?_
            exact i_ireturn r_245_31 (n_245_31 _) rfl h
          · skip
            exact h.elim
        · skip
          exact h.elim
      · skip
        exact h.elim
    · skip
      exact h.elim
  · skip
    exact h.elim
theorem r_246_0 : xfetch 246 0 = some (.iload_n 3, 1) := by decide +kernel
theorem n_246_0 : ∀ l, xpr 246 0 l = l := xpr_no (by decide +kernel)
theorem r_246_1 : xfetch 246 1 = some (.ifCond .ne 26, 3) := by decide +kernel
theorem n_246_1 : ∀ l, xpr 246 1 l = l := xpr_no (by decide +kernel)
theorem r_246_4 : xfetch 246 4 = some (.iload 4, 2) := by decide +kernel
theorem n_246_4 : ∀ l, xpr 246 4 l = l := xpr_no (by decide +kernel)
theorem r_246_6 : xfetch 246 6 = some (.aload_n 0, 1) := by decide +kernel
theorem n_246_6 : ∀ l, xpr 246 6 l = l := xpr_no (by decide +kernel)
theorem r_246_7 : xfetch 246 7 = some (.getfield 22, 3) := by decide +kernel
theorem n_246_7 : ∀ l, xpr 246 7 l = l := xpr_no (by decide +kernel)
theorem r_246_10 : xfetch 246 10 = some (.iload_n 1, 1) := by decide +kernel
theorem n_246_10 : ∀ l, xpr 246 10 l = l := xpr_no (by decide +kernel)
theorem r_246_11 : xfetch 246 11 = some (.iaload, 1) := by decide +kernel
theorem n_246_11 : ∀ l, xpr 246 11 l = l := xpr_no (by decide +kernel)
theorem r_246_12 : xfetch 246 12 = some (.imul, 1) := by decide +kernel
theorem n_246_12 : ∀ l, xpr 246 12 l = l := xpr_no (by decide +kernel)
theorem r_246_13 : xfetch 246 13 = some (.aload_n 0, 1) := by decide +kernel
theorem n_246_13 : ∀ l, xpr 246 13 l = l := xpr_no (by decide +kernel)
theorem r_246_14 : xfetch 246 14 = some (.getfield 31, 3) := by decide +kernel
theorem n_246_14 : ∀ l, xpr 246 14 l = l := xpr_no (by decide +kernel)
theorem r_246_17 : xfetch 246 17 = some (.bipush 40, 2) := by decide +kernel
theorem n_246_17 : ∀ l, xpr 246 17 l = l := xpr_no (by decide +kernel)
theorem r_246_19 : xfetch 246 19 = some (.iload_n 1, 1) := by decide +kernel
theorem n_246_19 : ∀ l, xpr 246 19 l = l := xpr_no (by decide +kernel)
theorem r_246_20 : xfetch 246 20 = some (.imul, 1) := by decide +kernel
theorem n_246_20 : ∀ l, xpr 246 20 l = l := xpr_no (by decide +kernel)
theorem r_246_21 : xfetch 246 21 = some (.iload 5, 2) := by decide +kernel
theorem n_246_21 : ∀ l, xpr 246 21 l = l := xpr_no (by decide +kernel)
theorem r_246_23 : xfetch 246 23 = some (.iadd, 1) := by decide +kernel
theorem n_246_23 : ∀ l, xpr 246 23 l = l := xpr_no (by decide +kernel)
theorem r_246_24 : xfetch 246 24 = some (.iaload, 1) := by decide +kernel
theorem n_246_24 : ∀ l, xpr 246 24 l = l := xpr_no (by decide +kernel)
theorem r_246_25 : xfetch 246 25 = some (.iadd, 1) := by decide +kernel
theorem n_246_25 : ∀ l, xpr 246 25 l = l := xpr_no (by decide +kernel)
theorem r_246_26 : xfetch 246 26 = some (.ireturn, 1) := by decide +kernel
theorem n_246_26 : ∀ l, xpr 246 26 l = l := xpr_no (by decide +kernel)
theorem r_246_27 : xfetch 246 27 = some (.iload_n 3, 1) := by decide +kernel
theorem n_246_27 : ∀ l, xpr 246 27 l = l := xpr_no (by decide +kernel)
theorem r_246_28 : xfetch 246 28 = some (.iconst 1, 1) := by decide +kernel
theorem n_246_28 : ∀ l, xpr 246 28 l = l := xpr_no (by decide +kernel)
theorem r_246_29 : xfetch 246 29 = some (.if_icmp .ne 7, 3) := by decide +kernel
theorem n_246_29 : ∀ l, xpr 246 29 l = l := xpr_no (by decide +kernel)
theorem r_246_32 : xfetch 246 32 = some (.iload_n 2, 1) := by decide +kernel
theorem n_246_32 : ∀ l, xpr 246 32 l = l := xpr_no (by decide +kernel)
theorem r_246_33 : xfetch 246 33 = some (.goto 4, 3) := by decide +kernel
theorem n_246_33 : ∀ l, xpr 246 33 l = l := xpr_no (by decide +kernel)
theorem r_246_36 : xfetch 246 36 = some (.iload_n 3, 1) := by decide +kernel
theorem n_246_36 : ∀ l, xpr 246 36 l = l := xpr_no (by decide +kernel)
theorem r_246_37 : xfetch 246 37 = some (.istore 6, 2) := by decide +kernel
theorem n_246_37 : ∀ l, xpr 246 37 l = l := xpr_no (by decide +kernel)
theorem r_246_39 : xfetch 246 39 = some (.iload 4, 2) := by decide +kernel
theorem n_246_39 : ∀ l, xpr 246 39 l = l := xpr_no (by decide +kernel)
theorem r_246_41 : xfetch 246 41 = some (.iload 6, 2) := by decide +kernel
theorem n_246_41 : ∀ l, xpr 246 41 l = l := xpr_no (by decide +kernel)
theorem r_246_43 : xfetch 246 43 = some (.idiv, 1) := by decide +kernel
theorem n_246_43 : ∀ l, xpr 246 43 l = l := xpr_no (by decide +kernel)
theorem r_246_44 : xfetch 246 44 = some (.aload_n 0, 1) := by decide +kernel
theorem n_246_44 : ∀ l, xpr 246 44 l = l := xpr_no (by decide +kernel)
theorem r_246_45 : xfetch 246 45 = some (.iload_n 1, 1) := by decide +kernel
theorem n_246_45 : ∀ l, xpr 246 45 l = l := xpr_no (by decide +kernel)
theorem r_246_46 : xfetch 246 46 = some (.iload 6, 2) := by decide +kernel
theorem n_246_46 : ∀ l, xpr 246 46 l = l := xpr_no (by decide +kernel)
theorem r_246_48 : xfetch 246 48 = some (.invokevirtual 222, 3) := by decide +kernel
theorem n_246_48 : ∀ l, xpr 246 48 l = l := xpr_no (by decide +kernel)
theorem r_246_51 : xfetch 246 51 = some (.imul, 1) := by decide +kernel
theorem n_246_51 : ∀ l, xpr 246 51 l = l := xpr_no (by decide +kernel)
theorem r_246_52 : xfetch 246 52 = some (.aload_n 0, 1) := by decide +kernel
theorem n_246_52 : ∀ l, xpr 246 52 l = l := xpr_no (by decide +kernel)
theorem r_246_53 : xfetch 246 53 = some (.iload_n 1, 1) := by decide +kernel
theorem n_246_53 : ∀ l, xpr 246 53 l = l := xpr_no (by decide +kernel)
theorem r_246_54 : xfetch 246 54 = some (.iload 6, 2) := by decide +kernel
theorem n_246_54 : ∀ l, xpr 246 54 l = l := xpr_no (by decide +kernel)
theorem r_246_56 : xfetch 246 56 = some (.iload 5, 2) := by decide +kernel
theorem n_246_56 : ∀ l, xpr 246 56 l = l := xpr_no (by decide +kernel)
theorem r_246_58 : xfetch 246 58 = some (.invokevirtual 219, 3) := by decide +kernel
theorem n_246_58 : ∀ l, xpr 246 58 l = l := xpr_no (by decide +kernel)
theorem r_246_61 : xfetch 246 61 = some (.iadd, 1) := by decide +kernel
theorem n_246_61 : ∀ l, xpr 246 61 l = l := xpr_no (by decide +kernel)
theorem r_246_62 : xfetch 246 62 = some (.iload 4, 2) := by decide +kernel
theorem n_246_62 : ∀ l, xpr 246 62 l = l := xpr_no (by decide +kernel)
theorem r_246_64 : xfetch 246 64 = some (.iload 6, 2) := by decide +kernel
theorem n_246_64 : ∀ l, xpr 246 64 l = l := xpr_no (by decide +kernel)
theorem r_246_66 : xfetch 246 66 = some (.irem, 1) := by decide +kernel
theorem n_246_66 : ∀ l, xpr 246 66 l = l := xpr_no (by decide +kernel)
theorem r_246_67 : xfetch 246 67 = some (.aload_n 0, 1) := by decide +kernel
theorem n_246_67 : ∀ l, xpr 246 67 l = l := xpr_no (by decide +kernel)
theorem r_246_68 : xfetch 246 68 = some (.getfield 28, 3) := by decide +kernel
theorem n_246_68 : ∀ l, xpr 246 68 l = l := xpr_no (by decide +kernel)
theorem r_246_71 : xfetch 246 71 = some (.bipush 40, 2) := by decide +kernel
theorem n_246_71 : ∀ l, xpr 246 71 l = l := xpr_no (by decide +kernel)
theorem r_246_73 : xfetch 246 73 = some (.iload_n 1, 1) := by decide +kernel
theorem n_246_73 : ∀ l, xpr 246 73 l = l := xpr_no (by decide +kernel)
theorem r_246_74 : xfetch 246 74 = some (.imul, 1) := by decide +kernel
theorem n_246_74 : ∀ l, xpr 246 74 l = l := xpr_no (by decide +kernel)
theorem r_246_75 : xfetch 246 75 = some (.iload 5, 2) := by decide +kernel
theorem n_246_75 : ∀ l, xpr 246 75 l = l := xpr_no (by decide +kernel)
theorem r_246_77 : xfetch 246 77 = some (.iadd, 1) := by decide +kernel
theorem n_246_77 : ∀ l, xpr 246 77 l = l := xpr_no (by decide +kernel)
theorem r_246_78 : xfetch 246 78 = some (.iaload, 1) := by decide +kernel
theorem n_246_78 : ∀ l, xpr 246 78 l = l := xpr_no (by decide +kernel)
theorem r_246_79 : xfetch 246 79 = some (.invokestatic 96, 3) := by decide +kernel
theorem n_246_79 : ∀ l, xpr 246 79 l = l := xpr_no (by decide +kernel)
theorem r_246_82 : xfetch 246 82 = some (.imul, 1) := by decide +kernel
theorem n_246_82 : ∀ l, xpr 246 82 l = l := xpr_no (by decide +kernel)
theorem r_246_83 : xfetch 246 83 = some (.iadd, 1) := by decide +kernel
theorem n_246_83 : ∀ l, xpr 246 83 l = l := xpr_no (by decide +kernel)
theorem r_246_84 : xfetch 246 84 = some (.ireturn, 1) := by decide +kernel
theorem n_246_84 : ∀ l, xpr 246 84 l = l := xpr_no (by decide +kernel)
theorem v_Model_distance_0 {S : Option (Nat × (Nat → Int32))} {s : zSt} {Q : Option Value ⊕ Nat → zSt → Prop} {x1 : Int} {x2 : Int} {x3 : Int} {x4 : Int} {x5 : Int} 
    (h : rng x3 ∧ ((x3 ≠ 0 → (x3 ≠ 1 → rng x4 ∧ (0 ≤ x4 ∧ (0 < x3 ∧ (wp S 231 0 [(0, rf 252), (1, iv x1), (2, iv x3)] [] s (fun o7 s7 => zkI (fun y7 => wp S 232 0 [(0, rf 252), (1, iv x1), (2, iv x3), (3, iv x5)] [] s7 (fun o9 s9 => zkI (fun y9 => (0 ≤ ((40 * x1) + x5) ∧ ((40 * x1) + x5) < 240) ∧ (wp S 197 0 [(0, iv (zI s9 259 ((40 * x1) + x5)))] [] s9 (fun o13 s13 => zkI (fun y13 => Q (rI ((((x4 / x3) * y7) + y9) + ((x4 % x3) * y13))) s13) (fun e13 => False) o13))) (fun e9 => False) o9)) (fun e7 => False) o7))))) ∧ (x3 = 1 → rng x4 ∧ (rng x2 ∧ (0 ≤ x4 ∧ (0 < x2 ∧ (wp S 231 0 [(0, rf 252), (1, iv x1), (2, iv x2)] [] s (fun o19 s19 => zkI (fun y19 => wp S 232 0 [(0, rf 252), (1, iv x1), (2, iv x2), (3, iv x5)] [] s19 (fun o21 s21 => zkI (fun y21 => (0 ≤ ((40 * x1) + x5) ∧ ((40 * x1) + x5) < 240) ∧ (wp S 197 0 [(0, iv (zI s21 259 ((40 * x1) + x5)))] [] s21 (fun o25 s25 => zkI (fun y25 => Q (rI ((((x4 / x2) * y19) + y21) + ((x4 % x2) * y25))) s25) (fun e25 => False) o25))) (fun e21 => False) o21)) (fun e19 => False) o19))))))) ∧ (x3 = 0 → (0 ≤ x1 ∧ x1 < 6) ∧ ((0 ≤ ((40 * x1) + x5) ∧ ((40 * x1) + x5) < 240) ∧ (Q (rI ((x4 * (zI s 257 x1)) + (zI s 260 ((40 * x1) + x5)))) s))))) :
    wp S 246 0 [(0, rf 252), (1, iv x1), (2, iv x2), (3, iv x3), (4, iv x4), (5, iv x5)] [] s Q := by
  refine i_iload_n (x := x3) r_246_0 (n_246_0 _) rfl ?_
  obtain ⟨g1, h⟩ := h
  refine i_if (t := 27) r_246_1 (n_246_1 _) rfl (T_ne g1 ⟨by omega, by omega⟩) (fun c2 => ?_) (fun c2 => ?_)
  · replace h := h.1 c2
    refine i_iload_n (x := x3) r_246_27 (n_246_27 _) rfl ?_
    refine i_iconst r_246_28 (n_246_28 _) ?_
    refine i_icmp (t := 36) r_246_29 (n_246_29 _) rfl (T_ne g1 ⟨by omega, by omega⟩) (fun c3 => ?_) (fun c3 => ?_)
    · replace h := h.1 c3
      refine i_iload_n (x := x3) r_246_36 (n_246_36 _) rfl ?_
      refine i_istore (l' := [(0, rf 252), (1, iv x1), (2, iv x2), (3, iv x3), (4, iv x4), (5, iv x5), (6, iv x3)]) r_246_37 (n_246_37 _) (by decide) rfl ?_
      refine i_iload (x := x4) r_246_39 (n_246_39 _) rfl ?_
      refine i_iload (x := x3) r_246_41 (n_246_41 _) rfl ?_
      obtain ⟨g4, h⟩ := h
      obtain ⟨g5, h⟩ := h
      obtain ⟨g6, h⟩ := h
      refine i_idiv r_246_43 (n_246_43 _) g4 g1 (by omega) (by omega) ?_
      refine i_aload_n (a := 252) r_246_44 (n_246_44 _) rfl ?_
      refine i_iload_n (x := x1) r_246_45 (n_246_45 _) rfl ?_
      refine i_iload (x := x3) r_246_46 (n_246_46 _) rfl ?_
      refine wp_virt (b := 252) (rest := [iv (x4 / x3)]) (Ls := [(0, rf 252), (1, iv x1), (2, iv x3)]) r_246_48 (n_246_48 _) rfl ⟨rfl, rfl, by decide, by decide⟩ rfl rfl lf_252 ⟨rfl, Nat.le_of_ble_eq_true rfl, Nat.le_of_ble_eq_true rfl⟩ rfl h ?_
      intro o7 s7 h
      rcases h with ⟨y7, q8, rfl, h⟩ | ⟨e7, rfl, h⟩
      · refine .inl ⟨some (iv y7), rfl, ?_⟩
        show wp S 246 51 [(0, rf 252), (1, iv x1), (2, iv x2), (3, iv x3), (4, iv x4), (5, iv x5), (6, iv x3)] [iv y7, iv (x4 / x3)] s7 Q
        refine i_imul r_246_51 (n_246_51 _) ?_
        refine i_aload_n (a := 252) r_246_52 (n_246_52 _) rfl ?_
        refine i_iload_n (x := x1) r_246_53 (n_246_53 _) rfl ?_
        refine i_iload (x := x3) r_246_54 (n_246_54 _) rfl ?_
        refine i_iload (x := x5) r_246_56 (n_246_56 _) rfl ?_
        refine wp_virt (b := 252) (rest := [iv ((x4 / x3) * y7)]) (Ls := [(0, rf 252), (1, iv x1), (2, iv x3), (3, iv x5)]) r_246_58 (n_246_58 _) rfl ⟨rfl, rfl, by decide, by decide⟩ rfl rfl lf_252 ⟨rfl, Nat.le_of_ble_eq_true rfl, Nat.le_of_ble_eq_true rfl⟩ rfl h ?_
        intro o9 s9 h
        rcases h with ⟨y9, q10, rfl, h⟩ | ⟨e9, rfl, h⟩
        · refine .inl ⟨some (iv y9), rfl, ?_⟩
          show wp S 246 61 [(0, rf 252), (1, iv x1), (2, iv x2), (3, iv x3), (4, iv x4), (5, iv x5), (6, iv x3)] [iv y9, iv ((x4 / x3) * y7)] s9 Q
          refine i_iadd r_246_61 (n_246_61 _) ?_
          refine i_iload (x := x4) r_246_62 (n_246_62 _) rfl ?_
          refine i_iload (x := x3) r_246_64 (n_246_64 _) rfl ?_
          refine i_irem r_246_66 (n_246_66 _) g4 g1 (by omega) (by omega) ?_
          refine i_aload_n (a := 252) r_246_67 (n_246_67 _) rfl ?_
          refine i_getR (a := 252) (b := 259) r_246_68 (n_246_68 _) rfl rfl rfl (by omega) lf_252 (by omega) ?_
          refine i_bipush r_246_71 (n_246_71 _) rfl ?_
          refine i_iload_n (x := x1) r_246_73 (n_246_73 _) rfl ?_
          refine i_imul r_246_74 (n_246_74 _) ?_
          refine i_iload (x := x5) r_246_75 (n_246_75 _) rfl ?_
          refine i_iadd r_246_77 (n_246_77 _) ?_
          obtain ⟨g11, h⟩ := h
          refine i_iaload (a := 259) (j := (40 * x1) + x5) r_246_78 (n_246_78 _) lf_259 ⟨by omega, by omega⟩ (by omega) (by omega) (fun q12 => ?_)
          refine wp_stat (rest := [iv (x4 % x3), iv (((x4 / x3) * y7) + y9)]) (Ls := [(0, iv (zI s9 259 ((40 * x1) + x5)))]) r_246_79 (n_246_79 _) rfl ⟨rfl, by decide, by decide, by decide⟩ rfl rfl ⟨rfl, Nat.le_of_ble_eq_true rfl, Nat.le_of_ble_eq_true rfl⟩ rfl h ?_
          intro o13 s13 h
          rcases h with ⟨y13, q14, rfl, h⟩ | ⟨e13, rfl, h⟩
          · refine .inl ⟨some (iv y13), rfl, ?_⟩
            show wp S 246 82 [(0, rf 252), (1, iv x1), (2, iv x2), (3, iv x3), (4, iv x4), (5, iv x5), (6, iv x3)] [iv y13, iv (x4 % x3), iv (((x4 / x3) * y7) + y9)] s13 Q
            refine i_imul r_246_82 (n_246_82 _) ?_
            refine i_iadd r_246_83 (n_246_83 _) ?_
            exact i_ireturn r_246_84 (n_246_84 _) rfl h
          · skip
            exact h.elim
        · skip
          exact h.elim
      · skip
        exact h.elim
    · replace h := h.2 c3
      refine i_iload_n (x := x2) r_246_32 (n_246_32 _) rfl ?_
      refine i_goto (t := 37) r_246_33 (n_246_33 _) rfl ?_
      refine i_istore (l' := [(0, rf 252), (1, iv x1), (2, iv x2), (3, iv x3), (4, iv x4), (5, iv x5), (6, iv x2)]) r_246_37 (n_246_37 _) (by decide) rfl ?_
      refine i_iload (x := x4) r_246_39 (n_246_39 _) rfl ?_
      refine i_iload (x := x2) r_246_41 (n_246_41 _) rfl ?_
      obtain ⟨g15, h⟩ := h
      obtain ⟨g16, h⟩ := h
      obtain ⟨g17, h⟩ := h
      obtain ⟨g18, h⟩ := h
      refine i_idiv r_246_43 (n_246_43 _) g15 g16 (by omega) (by omega) ?_
      refine i_aload_n (a := 252) r_246_44 (n_246_44 _) rfl ?_
      refine i_iload_n (x := x1) r_246_45 (n_246_45 _) rfl ?_
      refine i_iload (x := x2) r_246_46 (n_246_46 _) rfl ?_
      refine wp_virt (b := 252) (rest := [iv (x4 / x2)]) (Ls := [(0, rf 252), (1, iv x1), (2, iv x2)]) r_246_48 (n_246_48 _) rfl ⟨rfl, rfl, by decide, by decide⟩ rfl rfl lf_252 ⟨rfl, Nat.le_of_ble_eq_true rfl, Nat.le_of_ble_eq_true rfl⟩ rfl h ?_
      intro o19 s19 h
      rcases h with ⟨y19, q20, rfl, h⟩ | ⟨e19, rfl, h⟩
      · refine .inl ⟨some (iv y19), rfl, ?_⟩
        show wp S 246 51 [(0, rf 252), (1, iv x1), (2, iv x2), (3, iv x3), (4, iv x4), (5, iv x5), (6, iv x2)] [iv y19, iv (x4 / x2)] s19 Q
        refine i_imul r_246_51 (n_246_51 _) ?_
        refine i_aload_n (a := 252) r_246_52 (n_246_52 _) rfl ?_
        refine i_iload_n (x := x1) r_246_53 (n_246_53 _) rfl ?_
        refine i_iload (x := x2) r_246_54 (n_246_54 _) rfl ?_
        refine i_iload (x := x5) r_246_56 (n_246_56 _) rfl ?_
        refine wp_virt (b := 252) (rest := [iv ((x4 / x2) * y19)]) (Ls := [(0, rf 252), (1, iv x1), (2, iv x2), (3, iv x5)]) r_246_58 (n_246_58 _) rfl ⟨rfl, rfl, by decide, by decide⟩ rfl rfl lf_252 ⟨rfl, Nat.le_of_ble_eq_true rfl, Nat.le_of_ble_eq_true rfl⟩ rfl h ?_
        intro o21 s21 h
        rcases h with ⟨y21, q22, rfl, h⟩ | ⟨e21, rfl, h⟩
        · refine .inl ⟨some (iv y21), rfl, ?_⟩
          show wp S 246 61 [(0, rf 252), (1, iv x1), (2, iv x2), (3, iv x3), (4, iv x4), (5, iv x5), (6, iv x2)] [iv y21, iv ((x4 / x2) * y19)] s21 Q
          refine i_iadd r_246_61 (n_246_61 _) ?_
          refine i_iload (x := x4) r_246_62 (n_246_62 _) rfl ?_
          refine i_iload (x := x2) r_246_64 (n_246_64 _) rfl ?_
          refine i_irem r_246_66 (n_246_66 _) g15 g16 (by omega) (by omega) ?_
          refine i_aload_n (a := 252) r_246_67 (n_246_67 _) rfl ?_
          refine i_getR (a := 252) (b := 259) r_246_68 (n_246_68 _) rfl rfl rfl (by omega) lf_252 (by omega) ?_
          refine i_bipush r_246_71 (n_246_71 _) rfl ?_
          refine i_iload_n (x := x1) r_246_73 (n_246_73 _) rfl ?_
          refine i_imul r_246_74 (n_246_74 _) ?_
          refine i_iload (x := x5) r_246_75 (n_246_75 _) rfl ?_
          refine i_iadd r_246_77 (n_246_77 _) ?_
          obtain ⟨g23, h⟩ := h
          refine i_iaload (a := 259) (j := (40 * x1) + x5) r_246_78 (n_246_78 _) lf_259 ⟨by omega, by omega⟩ (by omega) (by omega) (fun q24 => ?_)
          refine wp_stat (rest := [iv (x4 % x2), iv (((x4 / x2) * y19) + y21)]) (Ls := [(0, iv (zI s21 259 ((40 * x1) + x5)))]) r_246_79 (n_246_79 _) rfl ⟨rfl, by decide, by decide, by decide⟩ rfl rfl ⟨rfl, Nat.le_of_ble_eq_true rfl, Nat.le_of_ble_eq_true rfl⟩ rfl h ?_
          intro o25 s25 h
          rcases h with ⟨y25, q26, rfl, h⟩ | ⟨e25, rfl, h⟩
          · refine .inl ⟨some (iv y25), rfl, ?_⟩
            show wp S 246 82 [(0, rf 252), (1, iv x1), (2, iv x2), (3, iv x3), (4, iv x4), (5, iv x5), (6, iv x2)] [iv y25, iv (x4 % x2), iv (((x4 / x2) * y19) + y21)] s25 Q
            refine i_imul r_246_82 (n_246_82 _) ?_
            refine i_iadd r_246_83 (n_246_83 _) ?_
            exact i_ireturn r_246_84 (n_246_84 _) rfl h
          · skip
            exact h.elim
        · skip
          exact h.elim
      · skip
        exact h.elim
  · replace h := h.2 c2
    refine i_iload (x := x4) r_246_4 (n_246_4 _) rfl ?_
    refine i_aload_n (a := 252) r_246_6 (n_246_6 _) rfl ?_
    refine i_getR (a := 252) (b := 257) r_246_7 (n_246_7 _) rfl rfl rfl (by omega) lf_252 (by omega) ?_
    refine i_iload_n (x := x1) r_246_10 (n_246_10 _) rfl ?_
    obtain ⟨g27, h⟩ := h
    refine i_iaload (a := 257) (j := x1) r_246_11 (n_246_11 _) lf_257 ⟨by omega, by omega⟩ (by omega) (by omega) (fun q28 => ?_)
    refine i_imul r_246_12 (n_246_12 _) ?_
    refine i_aload_n (a := 252) r_246_13 (n_246_13 _) rfl ?_
    refine i_getR (a := 252) (b := 260) r_246_14 (n_246_14 _) rfl rfl rfl (by omega) lf_252 (by omega) ?_
    refine i_bipush r_246_17 (n_246_17 _) rfl ?_
    refine i_iload_n (x := x1) r_246_19 (n_246_19 _) rfl ?_
    refine i_imul r_246_20 (n_246_20 _) ?_
    refine i_iload (x := x5) r_246_21 (n_246_21 _) rfl ?_
    refine i_iadd r_246_23 (n_246_23 _) ?_
    obtain ⟨g29, h⟩ := h
    refine i_iaload (a := 260) (j := (40 * x1) + x5) r_246_24 (n_246_24 _) lf_260 ⟨by omega, by omega⟩ (by omega) (by omega) (fun q30 => ?_)
    refine i_iadd r_246_25 (n_246_25 _) ?_
    exact i_ireturn r_246_26 (n_246_26 _) rfl h
theorem r_247_0 : xfetch 247 0 = some (.aload_n 0, 1) := by decide +kernel
theorem n_247_0 : ∀ l, xpr 247 0 l = l := xpr_no (by decide +kernel)
theorem r_247_1 : xfetch 247 1 = some (.aload_n 0, 1) := by decide +kernel
theorem n_247_1 : ∀ l, xpr 247 1 l = l := xpr_no (by decide +kernel)
theorem r_247_2 : xfetch 247 2 = some (.aload_n 0, 1) := by decide +kernel
theorem n_247_2 : ∀ l, xpr 247 2 l = l := xpr_no (by decide +kernel)
theorem r_247_3 : xfetch 247 3 = some (.iload_n 1, 1) := by decide +kernel
theorem n_247_3 : ∀ l, xpr 247 3 l = l := xpr_no (by decide +kernel)
theorem r_247_4 : xfetch 247 4 = some (.iload_n 3, 1) := by decide +kernel
theorem n_247_4 : ∀ l, xpr 247 4 l = l := xpr_no (by decide +kernel)
theorem r_247_5 : xfetch 247 5 = some (.invokevirtual 254, 3) := by decide +kernel
theorem n_247_5 : ∀ l, xpr 247 5 l = l := xpr_no (by decide +kernel)
theorem r_247_8 : xfetch 247 8 = some (.ifCond .eq 16, 3) := by decide +kernel
theorem n_247_8 : ∀ l, xpr 247 8 l = l := xpr_no (by decide +kernel)
theorem r_247_11 : xfetch 247 11 = some (.aload_n 0, 1) := by decide +kernel
theorem n_247_11 : ∀ l, xpr 247 11 l = l := xpr_no (by decide +kernel)
theorem r_247_12 : xfetch 247 12 = some (.iload_n 1, 1) := by decide +kernel
theorem n_247_12 : ∀ l, xpr 247 12 l = l := xpr_no (by decide +kernel)
theorem r_247_13 : xfetch 247 13 = some (.iload_n 2, 1) := by decide +kernel
theorem n_247_13 : ∀ l, xpr 247 13 l = l := xpr_no (by decide +kernel)
theorem r_247_14 : xfetch 247 14 = some (.invokevirtual 257, 3) := by decide +kernel
theorem n_247_14 : ∀ l, xpr 247 14 l = l := xpr_no (by decide +kernel)
theorem r_247_17 : xfetch 247 17 = some (.ifCond .eq 7, 3) := by decide +kernel
theorem n_247_17 : ∀ l, xpr 247 17 l = l := xpr_no (by decide +kernel)
theorem r_247_20 : xfetch 247 20 = some (.iconst 1, 1) := by decide +kernel
theorem n_247_20 : ∀ l, xpr 247 20 l = l := xpr_no (by decide +kernel)
theorem r_247_21 : xfetch 247 21 = some (.goto 4, 3) := by decide +kernel
theorem n_247_21 : ∀ l, xpr 247 21 l = l := xpr_no (by decide +kernel)
theorem r_247_24 : xfetch 247 24 = some (.iconst 0, 1) := by decide +kernel
theorem n_247_24 : ∀ l, xpr 247 24 l = l := xpr_no (by decide +kernel)
theorem r_247_25 : xfetch 247 25 = some (.invokevirtual 175, 3) := by decide +kernel
theorem n_247_25 : ∀ l, xpr 247 25 l = l := xpr_no (by decide +kernel)
theorem r_247_28 : xfetch 247 28 = some (.invokevirtual 84, 3) := by decide +kernel
theorem n_247_28 : ∀ l, xpr 247 28 l = l := xpr_no (by decide +kernel)
theorem r_247_31 : xfetch 247 31 = some (.ifCond .eq 7, 3) := by decide +kernel
theorem n_247_31 : ∀ l, xpr 247 31 l = l := xpr_no (by decide +kernel)
theorem r_247_34 : xfetch 247 34 = some (.lconst 0, 1) := by decide +kernel
theorem n_247_34 : ∀ l, xpr 247 34 l = l := xpr_no (by decide +kernel)
theorem r_247_35 : xfetch 247 35 = some (.goto 10, 3) := by decide +kernel
theorem n_247_35 : ∀ l, xpr 247 35 l = l := xpr_no (by decide +kernel)
theorem r_247_38 : xfetch 247 38 = some (.aload_n 0, 1) := by decide +kernel
theorem n_247_38 : ∀ l, xpr 247 38 l = l := xpr_no (by decide +kernel)
theorem r_247_39 : xfetch 247 39 = some (.iload_n 1, 1) := by decide +kernel
theorem n_247_39 : ∀ l, xpr 247 39 l = l := xpr_no (by decide +kernel)
theorem r_247_40 : xfetch 247 40 = some (.iload_n 2, 1) := by decide +kernel
theorem n_247_40 : ∀ l, xpr 247 40 l = l := xpr_no (by decide +kernel)
theorem r_247_41 : xfetch 247 41 = some (.iload_n 3, 1) := by decide +kernel
theorem n_247_41 : ∀ l, xpr 247 41 l = l := xpr_no (by decide +kernel)
theorem r_247_42 : xfetch 247 42 = some (.invokevirtual 278, 3) := by decide +kernel
theorem n_247_42 : ∀ l, xpr 247 42 l = l := xpr_no (by decide +kernel)
theorem r_247_45 : xfetch 247 45 = some (.lreturn, 1) := by decide +kernel
theorem n_247_45 : ∀ l, xpr 247 45 l = l := xpr_no (by decide +kernel)
theorem v_Model_get_0 {S : Option (Nat × (Nat → Int32))} {s : zSt} {Q : Option Value ⊕ Nat → zSt → Prop} {x1 : Int} {x2 : Int} {x3 : Int} 
    (h : wp S 243 0 [(0, rf 252), (1, iv x1), (2, iv x3)] [] s (fun o1 s1 => zkI (fun y1 => (y1 = 0 → wp S 213 0 [(0, rf 252), (1, iv 0)] [] s1 (fun o4 s4 => zkI (fun y4 => wp S 179 0 [(0, rf 252), (1, iv y4)] [] s4 (fun o6 s6 => zkI (fun y6 => (y6 = 0 → wp S 248 0 [(0, rf 252), (1, iv x1), (2, iv x2), (3, iv x3)] [] s6 (fun o9 s9 => zkL (fun y9 => Q (rL y9) s9) (fun e9 => False) o9)) ∧ (y6 ≠ 0 → Q (rL 0) s6)) (fun e6 => False) o6)) (fun e4 => False) o4)) ∧ (y1 ≠ 0 → wp S 244 0 [(0, rf 252), (1, iv x1), (2, iv x2)] [] s1 (fun o11 s11 => zkI (fun y11 => (y11 = 0 → wp S 213 0 [(0, rf 252), (1, iv 0)] [] s11 (fun o14 s14 => zkI (fun y14 => wp S 179 0 [(0, rf 252), (1, iv y14)] [] s14 (fun o16 s16 => zkI (fun y16 => (y16 = 0 → wp S 248 0 [(0, rf 252), (1, iv x1), (2, iv x2), (3, iv x3)] [] s16 (fun o19 s19 => zkL (fun y19 => Q (rL y19) s19) (fun e19 => False) o19)) ∧ (y16 ≠ 0 → Q (rL 0) s16)) (fun e16 => False) o16)) (fun e14 => False) o14)) ∧ (y11 ≠ 0 → wp S 213 0 [(0, rf 252), (1, iv 1)] [] s11 (fun o21 s21 => zkI (fun y21 => wp S 179 0 [(0, rf 252), (1, iv y21)] [] s21 (fun o23 s23 => zkI (fun y23 => (y23 = 0 → wp S 248 0 [(0, rf 252), (1, iv x1), (2, iv x2), (3, iv x3)] [] s23 (fun o26 s26 => zkL (fun y26 => Q (rL y26) s26) (fun e26 => False) o26)) ∧ (y23 ≠ 0 → Q (rL 0) s23)) (fun e23 => False) o23)) (fun e21 => False) o21))) (fun e11 => False) o11))) (fun e1 => False) o1)) :
    wp S 247 0 [(0, rf 252), (1, iv x1), (2, iv x2), (3, iv x3)] [] s Q := by
  refine i_aload_n (a := 252) r_247_0 (n_247_0 _) rfl ?_
  refine i_aload_n (a := 252) r_247_1 (n_247_1 _) rfl ?_
  refine i_aload_n (a := 252) r_247_2 (n_247_2 _) rfl ?_
  refine i_iload_n (x := x1) r_247_3 (n_247_3 _) rfl ?_
  refine i_iload_n (x := x3) r_247_4 (n_247_4 _) rfl ?_
  refine wp_virt (b := 252) (rest := [rf 252, rf 252]) (Ls := [(0, rf 252), (1, iv x1), (2, iv x3)]) r_247_5 (n_247_5 _) rfl ⟨rfl, rfl, by decide, by decide⟩ rfl rfl lf_252 ⟨rfl, Nat.le_of_ble_eq_true rfl, Nat.le_of_ble_eq_true rfl⟩ rfl h ?_
  intro o1 s1 h
  rcases h with ⟨y1, q2, rfl, h⟩ | ⟨e1, rfl, h⟩
  · refine .inl ⟨some (iv y1), rfl, ?_⟩
    show wp S 247 8 [(0, rf 252), (1, iv x1), (2, iv x2), (3, iv x3)] [iv y1, rf 252, rf 252] s1 Q
    refine i_if (t := 24) r_247_8 (n_247_8 _) rfl (T_eq q2 ⟨by omega, by omega⟩) (fun c3 => ?_) (fun c3 => ?_)
    · replace h := h.1 c3
      refine i_iconst r_247_24 (n_247_24 _) ?_
      refine wp_virt (b := 252) (rest := [rf 252]) (Ls := [(0, rf 252), (1, iv 0)]) r_247_25 (n_247_25 _) rfl ⟨rfl, rfl, by decide, by decide⟩ rfl rfl lf_252 ⟨rfl, Nat.le_of_ble_eq_true rfl, Nat.le_of_ble_eq_true rfl⟩ rfl h ?_
      intro o4 s4 h
      rcases h with ⟨y4, q5, rfl, h⟩ | ⟨e4, rfl, h⟩
      · refine .inl ⟨some (iv y4), rfl, ?_⟩
        show wp S 247 28 [(0, rf 252), (1, iv x1), (2, iv x2), (3, iv x3)] [iv y4, rf 252] s4 Q
        refine wp_virt (b := 252) (rest := []) (Ls := [(0, rf 252), (1, iv y4)]) r_247_28 (n_247_28 _) rfl ⟨rfl, rfl, by decide, by decide⟩ rfl rfl lf_252 ⟨rfl, Nat.le_of_ble_eq_true rfl, Nat.le_of_ble_eq_true rfl⟩ rfl h ?_
        intro o6 s6 h
        rcases h with ⟨y6, q7, rfl, h⟩ | ⟨e6, rfl, h⟩
        · refine .inl ⟨some (iv y6), rfl, ?_⟩
          show wp S 247 31 [(0, rf 252), (1, iv x1), (2, iv x2), (3, iv x3)] [iv y6] s6 Q
          refine i_if (t := 38) r_247_31 (n_247_31 _) rfl (T_eq q7 ⟨by omega, by omega⟩) (fun c8 => ?_) (fun c8 => ?_)
          · replace h := h.1 c8
            refine i_aload_n (a := 252) r_247_38 (n_247_38 _) rfl ?_
            refine i_iload_n (x := x1) r_247_39 (n_247_39 _) rfl ?_
            refine i_iload_n (x := x2) r_247_40 (n_247_40 _) rfl ?_
            refine i_iload_n (x := x3) r_247_41 (n_247_41 _) rfl ?_
            refine wp_virt (b := 252) (rest := []) (Ls := [(0, rf 252), (1, iv x1), (2, iv x2), (3, iv x3)]) r_247_42 (n_247_42 _) rfl ⟨rfl, rfl, by decide, by decide⟩ rfl rfl lf_252 ⟨rfl, Nat.le_of_ble_eq_true rfl, Nat.le_of_ble_eq_true rfl⟩ rfl h ?_
            intro o9 s9 h
            rcases h with ⟨y9, rfl, h⟩ | ⟨e9, rfl, h⟩
            · refine .inl ⟨some (.long y9), rfl, ?_⟩
              show wp S 247 45 [(0, rf 252), (1, iv x1), (2, iv x2), (3, iv x3)] [.long y9] s9 Q
              exact i_lreturn r_247_45 (n_247_45 _) rfl h
            · skip
              exact h.elim
          · replace h := h.2 c8
            refine i_lconst r_247_34 (n_247_34 _) ?_
            refine i_goto (t := 45) r_247_35 (n_247_35 _) rfl ?_
            exact i_lreturn r_247_45 (n_247_45 _) rfl h
        · skip
          exact h.elim
      · skip
        exact h.elim
    · replace h := h.2 c3
      refine i_aload_n (a := 252) r_247_11 (n_247_11 _) rfl ?_
      refine i_iload_n (x := x1) r_247_12 (n_247_12 _) rfl ?_
      refine i_iload_n (x := x2) r_247_13 (n_247_13 _) rfl ?_
      refine wp_virt (b := 252) (rest := [rf 252, rf 252]) (Ls := [(0, rf 252), (1, iv x1), (2, iv x2)]) r_247_14 (n_247_14 _) rfl ⟨rfl, rfl, by decide, by decide⟩ rfl rfl lf_252 ⟨rfl, Nat.le_of_ble_eq_true rfl, Nat.le_of_ble_eq_true rfl⟩ rfl h ?_
      intro o11 s11 h
      rcases h with ⟨y11, q12, rfl, h⟩ | ⟨e11, rfl, h⟩
      · refine .inl ⟨some (iv y11), rfl, ?_⟩
        show wp S 247 17 [(0, rf 252), (1, iv x1), (2, iv x2), (3, iv x3)] [iv y11, rf 252, rf 252] s11 Q
        refine i_if (t := 24) r_247_17 (n_247_17 _) rfl (T_eq q12 ⟨by omega, by omega⟩) (fun c13 => ?_) (fun c13 => ?_)
        · replace h := h.1 c13
          refine i_iconst r_247_24 (n_247_24 _) ?_
          refine wp_virt (b := 252) (rest := [rf 252]) (Ls := [(0, rf 252), (1, iv 0)]) r_247_25 (n_247_25 _) rfl ⟨rfl, rfl, by decide, by decide⟩ rfl rfl lf_252 ⟨rfl, Nat.le_of_ble_eq_true rfl, Nat.le_of_ble_eq_true rfl⟩ rfl h ?_
          intro o14 s14 h
          rcases h with ⟨y14, q15, rfl, h⟩ | ⟨e14, rfl, h⟩
          · refine .inl ⟨some (iv y14), rfl, ?_⟩
            show wp S 247 28 [(0, rf 252), (1, iv x1), (2, iv x2), (3, iv x3)] [iv y14, rf 252] s14 Q
            refine wp_virt (b := 252) (rest := []) (Ls := [(0, rf 252), (1, iv y14)]) r_247_28 (n_247_28 _) rfl ⟨rfl, rfl, by decide, by decide⟩ rfl rfl lf_252 ⟨rfl, Nat.le_of_ble_eq_true rfl, Nat.le_of_ble_eq_true rfl⟩ rfl h ?_
            intro o16 s16 h
            rcases h with ⟨y16, q17, rfl, h⟩ | ⟨e16, rfl, h⟩
            · refine .inl ⟨some (iv y16), rfl, ?_⟩
              show wp S 247 31 [(0, rf 252), (1, iv x1), (2, iv x2), (3, iv x3)] [iv y16] s16 Q
              refine i_if (t := 38) r_247_31 (n_247_31 _) rfl (T_eq q17 ⟨by omega, by omega⟩) (fun c18 => ?_) (fun c18 => ?_)
              · replace h := h.1 c18
                refine i_aload_n (a := 252) r_247_38 (n_247_38 _) rfl ?_
                refine i_iload_n (x := x1) r_247_39 (n_247_39 _) rfl ?_
                refine i_iload_n (x := x2) r_247_40 (n_247_40 _) rfl ?_
                refine i_iload_n (x := x3) r_247_41 (n_247_41 _) rfl ?_
                refine wp_virt (b := 252) (rest := []) (Ls := [(0, rf 252), (1, iv x1), (2, iv x2), (3, iv x3)]) r_247_42 (n_247_42 _) rfl ⟨rfl, rfl, by decide, by decide⟩ rfl rfl lf_252 ⟨rfl, Nat.le_of_ble_eq_true rfl, Nat.le_of_ble_eq_true rfl⟩ rfl h ?_
                intro o19 s19 h
                rcases h with ⟨y19, rfl, h⟩ | ⟨e19, rfl, h⟩
                · refine .inl ⟨some (.long y19), rfl, ?_⟩
                  show wp S 247 45 [(0, rf 252), (1, iv x1), (2, iv x2), (3, iv x3)] [.long y19] s19 Q
                  exact i_lreturn r_247_45 (n_247_45 _) rfl h
                · skip
                  exact h.elim
              · replace h := h.2 c18
                refine i_lconst r_247_34 (n_247_34 _) ?_
                refine i_goto (t := 45) r_247_35 (n_247_35 _) rfl ?_
                exact i_lreturn r_247_45 (n_247_45 _) rfl h
            · skip
              exact h.elim
          · skip
            exact h.elim
        · replace h := h.2 c13
          refine i_iconst r_247_20 (n_247_20 _) ?_
          refine i_goto (t := 25) r_247_21 (n_247_21 _) rfl ?_
          refine wp_virt (b := 252) (rest := [rf 252]) (Ls := [(0, rf 252), (1, iv 1)]) r_247_25 (n_247_25 _) rfl ⟨rfl, rfl, by decide, by decide⟩ rfl rfl lf_252 ⟨rfl, Nat.le_of_ble_eq_true rfl, Nat.le_of_ble_eq_true rfl⟩ rfl h ?_
          intro o21 s21 h
          rcases h with ⟨y21, q22, rfl, h⟩ | ⟨e21, rfl, h⟩
          · refine .inl ⟨some (iv y21), rfl, ?_⟩
            show wp S 247 28 [(0, rf 252), (1, iv x1), (2, iv x2), (3, iv x3)] [iv y21, rf 252] s21 Q
            refine wp_virt (b := 252) (rest := []) (Ls := [(0, rf 252), (1, iv y21)]) r_247_28 (n_247_28 _) rfl ⟨rfl, rfl, by decide, by decide⟩ rfl rfl lf_252 ⟨rfl, Nat.le_of_ble_eq_true rfl, Nat.le_of_ble_eq_true rfl⟩ rfl h ?_
            intro o23 s23 h
            rcases h with ⟨y23, q24, rfl, h⟩ | ⟨e23, rfl, h⟩
            · refine .inl ⟨some (iv y23), rfl, ?_⟩
              show wp S 247 31 [(0, rf 252), (1, iv x1), (2, iv x2), (3, iv x3)] [iv y23] s23 Q
              refine i_if (t := 38) r_247_31 (n_247_31 _) rfl (T_eq q24 ⟨by omega, by omega⟩) (fun c25 => ?_) (fun c25 => ?_)
              · replace h := h.1 c25
                refine i_aload_n (a := 252) r_247_38 (n_247_38 _) rfl ?_
                refine i_iload_n (x := x1) r_247_39 (n_247_39 _) rfl ?_
                refine i_iload_n (x := x2) r_247_40 (n_247_40 _) rfl ?_
                refine i_iload_n (x := x3) r_247_41 (n_247_41 _) rfl ?_
                refine wp_virt (b := 252) (rest := []) (Ls := [(0, rf 252), (1, iv x1), (2, iv x2), (3, iv x3)]) r_247_42 (n_247_42 _) rfl ⟨rfl, rfl, by decide, by decide⟩ rfl rfl lf_252 ⟨rfl, Nat.le_of_ble_eq_true rfl, Nat.le_of_ble_eq_true rfl⟩ rfl h ?_
                intro o26 s26 h
                rcases h with ⟨y26, rfl, h⟩ | ⟨e26, rfl, h⟩
                · refine .inl ⟨some (.long y26), rfl, ?_⟩
                  show wp S 247 45 [(0, rf 252), (1, iv x1), (2, iv x2), (3, iv x3)] [.long y26] s26 Q
                  exact i_lreturn r_247_45 (n_247_45 _) rfl h
                · skip
                  exact h.elim
              · replace h := h.2 c25
                refine i_lconst r_247_34 (n_247_34 _) ?_
                refine i_goto (t := 45) r_247_35 (n_247_35 _) rfl ?_
                exact i_lreturn r_247_45 (n_247_45 _) rfl h
            · skip
              exact h.elim
          · skip
            exact h.elim
      · skip
        exact h.elim
  · skip
    exact h.elim
theorem r_248_0 : xfetch 248 0 = some (.aload_n 0, 1) := by decide +kernel
theorem n_248_0 : ∀ l, xpr 248 0 l = l := xpr_no (by decide +kernel)
theorem r_248_1 : xfetch 248 1 = some (.getfield 28, 3) := by decide +kernel
theorem n_248_1 : ∀ l, xpr 248 1 l = l := xpr_no (by decide +kernel)
theorem r_248_4 : xfetch 248 4 = some (.bipush 40, 2) := by decide +kernel
theorem n_248_4 : ∀ l, xpr 248 4 l = l := xpr_no (by decide +kernel)
theorem r_248_6 : xfetch 248 6 = some (.aload_n 0, 1) := by decide +kernel
theorem n_248_6 : ∀ l, xpr 248 6 l = l := xpr_no (by decide +kernel)
theorem r_248_7 : xfetch 248 7 = some (.iload_n 1, 1) := by decide +kernel
theorem n_248_7 : ∀ l, xpr 248 7 l = l := xpr_no (by decide +kernel)
theorem r_248_8 : xfetch 248 8 = some (.iconst 0, 1) := by decide +kernel
theorem n_248_8 : ∀ l, xpr 248 8 l = l := xpr_no (by decide +kernel)
theorem r_248_9 : xfetch 248 9 = some (.invokevirtual 228, 3) := by decide +kernel
theorem n_248_9 : ∀ l, xpr 248 9 l = l := xpr_no (by decide +kernel)
theorem r_248_12 : xfetch 248 12 = some (.imul, 1) := by decide +kernel
theorem n_248_12 : ∀ l, xpr 248 12 l = l := xpr_no (by decide +kernel)
theorem r_248_13 : xfetch 248 13 = some (.iload_n 3, 1) := by decide +kernel
theorem n_248_13 : ∀ l, xpr 248 13 l = l := xpr_no (by decide +kernel)
theorem r_248_14 : xfetch 248 14 = some (.iadd, 1) := by decide +kernel
theorem n_248_14 : ∀ l, xpr 248 14 l = l := xpr_no (by decide +kernel)
theorem r_248_15 : xfetch 248 15 = some (.iaload, 1) := by decide +kernel
theorem n_248_15 : ∀ l, xpr 248 15 l = l := xpr_no (by decide +kernel)
theorem r_248_16 : xfetch 248 16 = some (.istore 4, 2) := by decide +kernel
theorem n_248_16 : ∀ l, xpr 248 16 l = l := xpr_no (by decide +kernel)
theorem r_248_18 : xfetch 248 18 = some (.aload_n 0, 1) := by decide +kernel
theorem n_248_18 : ∀ l, xpr 248 18 l = l := xpr_no (by decide +kernel)
theorem r_248_19 : xfetch 248 19 = some (.aload_n 0, 1) := by decide +kernel
theorem n_248_19 : ∀ l, xpr 248 19 l = l := xpr_no (by decide +kernel)
theorem r_248_20 : xfetch 248 20 = some (.iload_n 1, 1) := by decide +kernel
theorem n_248_20 : ∀ l, xpr 248 20 l = l := xpr_no (by decide +kernel)
theorem r_248_21 : xfetch 248 21 = some (.iload_n 2, 1) := by decide +kernel
theorem n_248_21 : ∀ l, xpr 248 21 l = l := xpr_no (by decide +kernel)
theorem r_248_22 : xfetch 248 22 = some (.iload_n 3, 1) := by decide +kernel
theorem n_248_22 : ∀ l, xpr 248 22 l = l := xpr_no (by decide +kernel)
theorem r_248_23 : xfetch 248 23 = some (.invokevirtual 260, 3) := by decide +kernel
theorem n_248_23 : ∀ l, xpr 248 23 l = l := xpr_no (by decide +kernel)
theorem r_248_26 : xfetch 248 26 = some (.iload 4, 2) := by decide +kernel
theorem n_248_26 : ∀ l, xpr 248 26 l = l := xpr_no (by decide +kernel)
theorem r_248_28 : xfetch 248 28 = some (.invokestatic 96, 3) := by decide +kernel
theorem n_248_28 : ∀ l, xpr 248 28 l = l := xpr_no (by decide +kernel)
theorem r_248_31 : xfetch 248 31 = some (.aload_n 0, 1) := by decide +kernel
theorem n_248_31 : ∀ l, xpr 248 31 l = l := xpr_no (by decide +kernel)
theorem r_248_32 : xfetch 248 32 = some (.iload_n 1, 1) := by decide +kernel
theorem n_248_32 : ∀ l, xpr 248 32 l = l := xpr_no (by decide +kernel)
theorem r_248_33 : xfetch 248 33 = some (.iconst 3, 1) := by decide +kernel
theorem n_248_33 : ∀ l, xpr 248 33 l = l := xpr_no (by decide +kernel)
theorem r_248_34 : xfetch 248 34 = some (.invokevirtual 228, 3) := by decide +kernel
theorem n_248_34 : ∀ l, xpr 248 34 l = l := xpr_no (by decide +kernel)
theorem r_248_37 : xfetch 248 37 = some (.invokevirtual 265, 3) := by decide +kernel
theorem n_248_37 : ∀ l, xpr 248 37 l = l := xpr_no (by decide +kernel)
theorem r_248_40 : xfetch 248 40 = some (.lstore 5, 2) := by decide +kernel
theorem n_248_40 : ∀ l, xpr 248 40 l = l := xpr_no (by decide +kernel)
theorem r_248_42 : xfetch 248 42 = some (.iload 4, 2) := by decide +kernel
theorem n_248_42 : ∀ l, xpr 248 42 l = l := xpr_no (by decide +kernel)
theorem r_248_44 : xfetch 248 44 = some (.invokestatic 109, 3) := by decide +kernel
theorem n_248_44 : ∀ l, xpr 248 44 l = l := xpr_no (by decide +kernel)
theorem r_248_47 : xfetch 248 47 = some (.ifCond .eq 23, 3) := by decide +kernel
theorem n_248_47 : ∀ l, xpr 248 47 l = l := xpr_no (by decide +kernel)
theorem r_248_50 : xfetch 248 50 = some (.lload 5, 2) := by decide +kernel
theorem n_248_50 : ∀ l, xpr 248 50 l = l := xpr_no (by decide +kernel)
theorem r_248_52 : xfetch 248 52 = some (.aload_n 0, 1) := by decide +kernel
theorem n_248_52 : ∀ l, xpr 248 52 l = l := xpr_no (by decide +kernel)
theorem r_248_53 : xfetch 248 53 = some (.iload_n 1, 1) := by decide +kernel
theorem n_248_53 : ∀ l, xpr 248 53 l = l := xpr_no (by decide +kernel)
theorem r_248_54 : xfetch 248 54 = some (.iload_n 3, 1) := by decide +kernel
theorem n_248_54 : ∀ l, xpr 248 54 l = l := xpr_no (by decide +kernel)
theorem r_248_55 : xfetch 248 55 = some (.invokevirtual 269, 3) := by decide +kernel
theorem n_248_55 : ∀ l, xpr 248 55 l = l := xpr_no (by decide +kernel)
theorem r_248_58 : xfetch 248 58 = some (.lshr, 1) := by decide +kernel
theorem n_248_58 : ∀ l, xpr 248 58 l = l := xpr_no (by decide +kernel)
theorem r_248_59 : xfetch 248 59 = some (.lconst 1, 1) := by decide +kernel
theorem n_248_59 : ∀ l, xpr 248 59 l = l := xpr_no (by decide +kernel)
theorem r_248_60 : xfetch 248 60 = some (.iload 4, 2) := by decide +kernel
theorem n_248_60 : ∀ l, xpr 248 60 l = l := xpr_no (by decide +kernel)
theorem r_248_62 : xfetch 248 62 = some (.bipush 20, 2) := by decide +kernel
theorem n_248_62 : ∀ l, xpr 248 62 l = l := xpr_no (by decide +kernel)
theorem r_248_64 : xfetch 248 64 = some (.isub, 1) := by decide +kernel
theorem n_248_64 : ∀ l, xpr 248 64 l = l := xpr_no (by decide +kernel)
theorem r_248_65 : xfetch 248 65 = some (.lshl, 1) := by decide +kernel
theorem n_248_65 : ∀ l, xpr 248 65 l = l := xpr_no (by decide +kernel)
theorem r_248_66 : xfetch 248 66 = some (.lconst 1, 1) := by decide +kernel
theorem n_248_66 : ∀ l, xpr 248 66 l = l := xpr_no (by decide +kernel)
theorem r_248_67 : xfetch 248 67 = some (.lsub, 1) := by decide +kernel
theorem n_248_67 : ∀ l, xpr 248 67 l = l := xpr_no (by decide +kernel)
theorem r_248_68 : xfetch 248 68 = some (.land, 1) := by decide +kernel
theorem n_248_68 : ∀ l, xpr 248 68 l = l := xpr_no (by decide +kernel)
theorem r_248_69 : xfetch 248 69 = some (.lreturn, 1) := by decide +kernel
theorem n_248_69 : ∀ l, xpr 248 69 l = l := xpr_no (by decide +kernel)
theorem r_248_70 : xfetch 248 70 = some (.iload 4, 2) := by decide +kernel
theorem n_248_70 : ∀ l, xpr 248 70 l = l := xpr_no (by decide +kernel)
theorem r_248_72 : xfetch 248 72 = some (.tableswitch 78 0 7 #[48, 78, 54, 78, 60, 78, 78, 65], 48) := by decide +kernel
theorem n_248_72 : ∀ l, xpr 248 72 l = l := xpr_no (by decide +kernel)
theorem r_248_120 : xfetch 248 120 = some (.lload 5, 2) := by decide +kernel
theorem n_248_120 : ∀ l, xpr 248 120 l = l := xpr_no (by decide +kernel)
theorem r_248_122 : xfetch 248 122 = some (.l2i, 1) := by decide +kernel
theorem n_248_122 : ∀ l, xpr 248 122 l = l := xpr_no (by decide +kernel)
theorem r_248_123 : xfetch 248 123 = some (.i2b, 1) := by decide +kernel
theorem n_248_123 : ∀ l, xpr 248 123 l = l := xpr_no (by decide +kernel)
theorem r_248_124 : xfetch 248 124 = some (.i2l, 1) := by decide +kernel
theorem n_248_124 : ∀ l, xpr 248 124 l = l := xpr_no (by decide +kernel)
theorem r_248_125 : xfetch 248 125 = some (.lreturn, 1) := by decide +kernel
theorem n_248_125 : ∀ l, xpr 248 125 l = l := xpr_no (by decide +kernel)
theorem r_248_126 : xfetch 248 126 = some (.lload 5, 2) := by decide +kernel
theorem n_248_126 : ∀ l, xpr 248 126 l = l := xpr_no (by decide +kernel)
theorem r_248_128 : xfetch 248 128 = some (.l2i, 1) := by decide +kernel
theorem n_248_128 : ∀ l, xpr 248 128 l = l := xpr_no (by decide +kernel)
theorem r_248_129 : xfetch 248 129 = some (.i2s, 1) := by decide +kernel
theorem n_248_129 : ∀ l, xpr 248 129 l = l := xpr_no (by decide +kernel)
theorem r_248_130 : xfetch 248 130 = some (.i2l, 1) := by decide +kernel
theorem n_248_130 : ∀ l, xpr 248 130 l = l := xpr_no (by decide +kernel)
theorem r_248_131 : xfetch 248 131 = some (.lreturn, 1) := by decide +kernel
theorem n_248_131 : ∀ l, xpr 248 131 l = l := xpr_no (by decide +kernel)
theorem r_248_132 : xfetch 248 132 = some (.lload 5, 2) := by decide +kernel
theorem n_248_132 : ∀ l, xpr 248 132 l = l := xpr_no (by decide +kernel)
theorem r_248_134 : xfetch 248 134 = some (.l2i, 1) := by decide +kernel
theorem n_248_134 : ∀ l, xpr 248 134 l = l := xpr_no (by decide +kernel)
theorem r_248_135 : xfetch 248 135 = some (.i2l, 1) := by decide +kernel
theorem n_248_135 : ∀ l, xpr 248 135 l = l := xpr_no (by decide +kernel)
theorem r_248_136 : xfetch 248 136 = some (.lreturn, 1) := by decide +kernel
theorem n_248_136 : ∀ l, xpr 248 136 l = l := xpr_no (by decide +kernel)
theorem r_248_137 : xfetch 248 137 = some (.lload 5, 2) := by decide +kernel
theorem n_248_137 : ∀ l, xpr 248 137 l = l := xpr_no (by decide +kernel)
theorem r_248_139 : xfetch 248 139 = some (.lconst 0, 1) := by decide +kernel
theorem n_248_139 : ∀ l, xpr 248 139 l = l := xpr_no (by decide +kernel)
theorem r_248_140 : xfetch 248 140 = some (.lcmp, 1) := by decide +kernel
theorem n_248_140 : ∀ l, xpr 248 140 l = l := xpr_no (by decide +kernel)
theorem r_248_141 : xfetch 248 141 = some (.ifCond .ne 7, 3) := by decide +kernel
theorem n_248_141 : ∀ l, xpr 248 141 l = l := xpr_no (by decide +kernel)
theorem r_248_144 : xfetch 248 144 = some (.lconst 0, 1) := by decide +kernel
theorem n_248_144 : ∀ l, xpr 248 144 l = l := xpr_no (by decide +kernel)
theorem r_248_145 : xfetch 248 145 = some (.goto 4, 3) := by decide +kernel
theorem n_248_145 : ∀ l, xpr 248 145 l = l := xpr_no (by decide +kernel)
theorem r_248_148 : xfetch 248 148 = some (.lconst 1, 1) := by decide +kernel
theorem n_248_148 : ∀ l, xpr 248 148 l = l := xpr_no (by decide +kernel)
theorem r_248_149 : xfetch 248 149 = some (.lreturn, 1) := by decide +kernel
theorem n_248_149 : ∀ l, xpr 248 149 l = l := xpr_no (by decide +kernel)
theorem r_248_150 : xfetch 248 150 = some (.lload 5, 2) := by decide +kernel
theorem n_248_150 : ∀ l, xpr 248 150 l = l := xpr_no (by decide +kernel)
theorem r_248_152 : xfetch 248 152 = some (.lreturn, 1) := by decide +kernel
theorem n_248_152 : ∀ l, xpr 248 152 l = l := xpr_no (by decide +kernel)
theorem v_Model_value_0 {S : Option (Nat × (Nat → Int32))} {s : zSt} {Q : Option Value ⊕ Nat → zSt → Prop} {x1 : Int} {x2 : Int} {x3 : Int} 
    (h : wp S 236 0 [(0, rf 252), (1, iv x1), (2, iv 0)] [] s (fun o1 s1 => zkI (fun y1 => (0 ≤ ((40 * y1) + x3) ∧ ((40 * y1) + x3) < 240) ∧ (wp S 245 0 [(0, rf 252), (1, iv x1), (2, iv x2), (3, iv x3)] [] s1 (fun o5 s5 => zkI (fun y5 => wp S 197 0 [(0, iv (zI s1 259 ((40 * y1) + x3)))] [] s5 (fun o7 s7 => zkI (fun y7 => wp S 236 0 [(0, rf 252), (1, iv x1), (2, iv 3)] [] s7 (fun o9 s9 => zkI (fun y9 => wp S 249 0 [(0, rf 252), (1, iv y5), (2, iv y7), (3, iv y9)] [] s9 (fun o11 s11 => zkL (fun y11 => wp S 192 0 [(0, iv (zI s1 259 ((40 * y1) + x3)))] [] s11 (fun o13 s13 => zkI (fun y13 => (y13 = 0 → ((zI s1 259 ((40 * y1) + x3)) = 0 → Q (rL (zi2l (zi2b (zl2i y11)))) s13) ∧ (((zI s1 259 ((40 * y1) + x3)) = 1 → Q (rL y11) s13) ∧ (((zI s1 259 ((40 * y1) + x3)) = 2 → Q (rL (zi2l (zi2s (zl2i y11)))) s13) ∧ (((zI s1 259 ((40 * y1) + x3)) = 3 → Q (rL y11) s13) ∧ (((zI s1 259 ((40 * y1) + x3)) = 4 → Q (rL (zi2l (zl2i y11))) s13) ∧ (((zI s1 259 ((40 * y1) + x3)) = 5 → Q (rL y11) s13) ∧ (((zI s1 259 ((40 * y1) + x3)) = 6 → Q (rL y11) s13) ∧ (((zI s1 259 ((40 * y1) + x3)) = 7 → ((zcmp y11 0) ≠ 0 → Q (rL 1) s13) ∧ ((zcmp y11 0) = 0 → Q (rL 0) s13)) ∧ ((((zI s1 259 ((40 * y1) + x3)) < 0 ∨ 7 < (zI s1 259 ((40 * y1) + x3))) → Q (rL y11) s13)))))))))) ∧ (y13 ≠ 0 → wp S 250 0 [(0, rf 252), (1, iv x1), (2, iv x3)] [] s13 (fun o18 s18 => zkI (fun y18 => Q (rL ((zshrL y11 y18) &&& ((zshlL 1 ((zI s1 259 ((40 * y1) + x3)) - 20)) - 1))) s18) (fun e18 => False) o18))) (fun e13 => False) o13)) (fun e11 => False) o11)) (fun e9 => False) o9)) (fun e7 => False) o7)) (fun e5 => False) o5))) (fun e1 => False) o1)) :
    wp S 248 0 [(0, rf 252), (1, iv x1), (2, iv x2), (3, iv x3)] [] s Q := by
  refine i_aload_n (a := 252) r_248_0 (n_248_0 _) rfl ?_
  refine i_getR (a := 252) (b := 259) r_248_1 (n_248_1 _) rfl rfl rfl (by omega) lf_252 (by omega) ?_
  refine i_bipush r_248_4 (n_248_4 _) rfl ?_
  refine i_aload_n (a := 252) r_248_6 (n_248_6 _) rfl ?_
  refine i_iload_n (x := x1) r_248_7 (n_248_7 _) rfl ?_
  refine i_iconst r_248_8 (n_248_8 _) ?_
  refine wp_virt (b := 252) (rest := [iv 40, rf 259]) (Ls := [(0, rf 252), (1, iv x1), (2, iv 0)]) r_248_9 (n_248_9 _) rfl ⟨rfl, rfl, by decide, by decide⟩ rfl rfl lf_252 ⟨rfl, Nat.le_of_ble_eq_true rfl, Nat.le_of_ble_eq_true rfl⟩ rfl h ?_
  intro o1 s1 h
  rcases h with ⟨y1, q2, rfl, h⟩ | ⟨e1, rfl, h⟩
  · refine .inl ⟨some (iv y1), rfl, ?_⟩
    show wp S 248 12 [(0, rf 252), (1, iv x1), (2, iv x2), (3, iv x3)] [iv y1, iv 40, rf 259] s1 Q
    refine i_imul r_248_12 (n_248_12 _) ?_
    refine i_iload_n (x := x3) r_248_13 (n_248_13 _) rfl ?_
    refine i_iadd r_248_14 (n_248_14 _) ?_
    obtain ⟨g3, h⟩ := h
    refine i_iaload (a := 259) (j := (40 * y1) + x3) r_248_15 (n_248_15 _) lf_259 ⟨by omega, by omega⟩ (by omega) (by omega) (fun q4 => ?_)
    refine i_istore (l' := [(0, rf 252), (1, iv x1), (2, iv x2), (3, iv x3), (4, iv (zI s1 259 ((40 * y1) + x3)))]) r_248_16 (n_248_16 _) (by decide) rfl ?_
    refine i_aload_n (a := 252) r_248_18 (n_248_18 _) rfl ?_
    refine i_aload_n (a := 252) r_248_19 (n_248_19 _) rfl ?_
    refine i_iload_n (x := x1) r_248_20 (n_248_20 _) rfl ?_
    refine i_iload_n (x := x2) r_248_21 (n_248_21 _) rfl ?_
    refine i_iload_n (x := x3) r_248_22 (n_248_22 _) rfl ?_
    refine wp_virt (b := 252) (rest := [rf 252]) (Ls := [(0, rf 252), (1, iv x1), (2, iv x2), (3, iv x3)]) r_248_23 (n_248_23 _) rfl ⟨rfl, rfl, by decide, by decide⟩ rfl rfl lf_252 ⟨rfl, Nat.le_of_ble_eq_true rfl, Nat.le_of_ble_eq_true rfl⟩ rfl h ?_
    intro o5 s5 h
    rcases h with ⟨y5, q6, rfl, h⟩ | ⟨e5, rfl, h⟩
    · refine .inl ⟨some (iv y5), rfl, ?_⟩
      show wp S 248 26 [(0, rf 252), (1, iv x1), (2, iv x2), (3, iv x3), (4, iv (zI s1 259 ((40 * y1) + x3)))] [iv y5, rf 252] s5 Q
      refine i_iload (x := zI s1 259 ((40 * y1) + x3)) r_248_26 (n_248_26 _) rfl ?_
      refine wp_stat (rest := [iv y5, rf 252]) (Ls := [(0, iv (zI s1 259 ((40 * y1) + x3)))]) r_248_28 (n_248_28 _) rfl ⟨rfl, by decide, by decide, by decide⟩ rfl rfl ⟨rfl, Nat.le_of_ble_eq_true rfl, Nat.le_of_ble_eq_true rfl⟩ rfl h ?_
      intro o7 s7 h
      rcases h with ⟨y7, q8, rfl, h⟩ | ⟨e7, rfl, h⟩
      · refine .inl ⟨some (iv y7), rfl, ?_⟩
        show wp S 248 31 [(0, rf 252), (1, iv x1), (2, iv x2), (3, iv x3), (4, iv (zI s1 259 ((40 * y1) + x3)))] [iv y7, iv y5, rf 252] s7 Q
        refine i_aload_n (a := 252) r_248_31 (n_248_31 _) rfl ?_
        refine i_iload_n (x := x1) r_248_32 (n_248_32 _) rfl ?_
        refine i_iconst r_248_33 (n_248_33 _) ?_
        refine wp_virt (b := 252) (rest := [iv y7, iv y5, rf 252]) (Ls := [(0, rf 252), (1, iv x1), (2, iv 3)]) r_248_34 (n_248_34 _) rfl ⟨rfl, rfl, by decide, by decide⟩ rfl rfl lf_252 ⟨rfl, Nat.le_of_ble_eq_true rfl, Nat.le_of_ble_eq_true rfl⟩ rfl h ?_
        intro o9 s9 h
        rcases h with ⟨y9, q10, rfl, h⟩ | ⟨e9, rfl, h⟩
        · refine .inl ⟨some (iv y9), rfl, ?_⟩
          show wp S 248 37 [(0, rf 252), (1, iv x1), (2, iv x2), (3, iv x3), (4, iv (zI s1 259 ((40 * y1) + x3)))] [iv y9, iv y7, iv y5, rf 252] s9 Q
          refine wp_virt (b := 252) (rest := []) (Ls := [(0, rf 252), (1, iv y5), (2, iv y7), (3, iv y9)]) r_248_37 (n_248_37 _) rfl ⟨rfl, rfl, by decide, by decide⟩ rfl rfl lf_252 ⟨rfl, Nat.le_of_ble_eq_true rfl, Nat.le_of_ble_eq_true rfl⟩ rfl h ?_
          intro o11 s11 h
          rcases h with ⟨y11, rfl, h⟩ | ⟨e11, rfl, h⟩
          · refine .inl ⟨some (.long y11), rfl, ?_⟩
            show wp S 248 40 [(0, rf 252), (1, iv x1), (2, iv x2), (3, iv x3), (4, iv (zI s1 259 ((40 * y1) + x3)))] [.long y11] s11 Q
            refine i_lstore (l' := [(0, rf 252), (1, iv x1), (2, iv x2), (3, iv x3), (4, iv (zI s1 259 ((40 * y1) + x3))), (5, .long y11)]) r_248_40 (n_248_40 _) (by decide) rfl ?_
            refine i_iload (x := zI s1 259 ((40 * y1) + x3)) r_248_42 (n_248_42 _) rfl ?_
            refine wp_stat (rest := []) (Ls := [(0, iv (zI s1 259 ((40 * y1) + x3)))]) r_248_44 (n_248_44 _) rfl ⟨rfl, by decide, by decide, by decide⟩ rfl rfl ⟨rfl, Nat.le_of_ble_eq_true rfl, Nat.le_of_ble_eq_true rfl⟩ rfl h ?_
            intro o13 s13 h
            rcases h with ⟨y13, q14, rfl, h⟩ | ⟨e13, rfl, h⟩
            · refine .inl ⟨some (iv y13), rfl, ?_⟩
              show wp S 248 47 [(0, rf 252), (1, iv x1), (2, iv x2), (3, iv x3), (4, iv (zI s1 259 ((40 * y1) + x3))), (5, .long y11)] [iv y13] s13 Q
              refine i_if (t := 70) r_248_47 (n_248_47 _) rfl (T_eq q14 ⟨by omega, by omega⟩) (fun c15 => ?_) (fun c15 => ?_)
              · replace h := h.1 c15
                refine i_iload (x := zI s1 259 ((40 * y1) + x3)) r_248_70 (n_248_70 _) rfl ?_
                rcases (by omega : (zI s1 259 ((40 * y1) + x3)) = 0 ∨ (zI s1 259 ((40 * y1) + x3)) = 1 ∨ (zI s1 259 ((40 * y1) + x3)) = 2 ∨ (zI s1 259 ((40 * y1) + x3)) = 3 ∨ (zI s1 259 ((40 * y1) + x3)) = 4 ∨ (zI s1 259 ((40 * y1) + x3)) = 5 ∨ (zI s1 259 ((40 * y1) + x3)) = 6 ∨ (zI s1 259 ((40 * y1) + x3)) = 7 ∨ ((zI s1 259 ((40 * y1) + x3)) < 0 ∨ 7 < (zI s1 259 ((40 * y1) + x3)))) with c16 | c16 | c16 | c16 | c16 | c16 | c16 | c16 | c16
                · replace h := h.1 c16
                  refine i_sw_hit (kk := 0) (t := 120) r_248_72 (n_248_72 _) (by omega) q4 (by omega) rfl rfl ?_
                  refine i_lload (u := y11) r_248_120 (n_248_120 _) rfl ?_
                  refine i_l2i r_248_122 (n_248_122 _) ?_
                  refine i_i2b r_248_123 (n_248_123 _) ?_
                  refine i_i2l r_248_124 (n_248_124 _) ?_
                  exact i_lreturn r_248_125 (n_248_125 _) rfl h
                · replace h := h.2.1 c16
                  refine i_sw_hit (kk := 1) (t := 150) r_248_72 (n_248_72 _) (by omega) q4 (by omega) rfl rfl ?_
                  refine i_lload (u := y11) r_248_150 (n_248_150 _) rfl ?_
                  exact i_lreturn r_248_152 (n_248_152 _) rfl h
                · replace h := h.2.2.1 c16
                  refine i_sw_hit (kk := 2) (t := 126) r_248_72 (n_248_72 _) (by omega) q4 (by omega) rfl rfl ?_
                  refine i_lload (u := y11) r_248_126 (n_248_126 _) rfl ?_
                  refine i_l2i r_248_128 (n_248_128 _) ?_
                  refine i_i2s r_248_129 (n_248_129 _) ?_
                  refine i_i2l r_248_130 (n_248_130 _) ?_
                  exact i_lreturn r_248_131 (n_248_131 _) rfl h
                · replace h := h.2.2.2.1 c16
                  refine i_sw_hit (kk := 3) (t := 150) r_248_72 (n_248_72 _) (by omega) q4 (by omega) rfl rfl ?_
                  refine i_lload (u := y11) r_248_150 (n_248_150 _) rfl ?_
                  exact i_lreturn r_248_152 (n_248_152 _) rfl h
                · replace h := h.2.2.2.2.1 c16
                  refine i_sw_hit (kk := 4) (t := 132) r_248_72 (n_248_72 _) (by omega) q4 (by omega) rfl rfl ?_
                  refine i_lload (u := y11) r_248_132 (n_248_132 _) rfl ?_
                  refine i_l2i r_248_134 (n_248_134 _) ?_
                  refine i_i2l r_248_135 (n_248_135 _) ?_
                  exact i_lreturn r_248_136 (n_248_136 _) rfl h
                · replace h := h.2.2.2.2.2.1 c16
                  refine i_sw_hit (kk := 5) (t := 150) r_248_72 (n_248_72 _) (by omega) q4 (by omega) rfl rfl ?_
                  refine i_lload (u := y11) r_248_150 (n_248_150 _) rfl ?_
                  exact i_lreturn r_248_152 (n_248_152 _) rfl h
                · replace h := h.2.2.2.2.2.2.1 c16
                  refine i_sw_hit (kk := 6) (t := 150) r_248_72 (n_248_72 _) (by omega) q4 (by omega) rfl rfl ?_
                  refine i_lload (u := y11) r_248_150 (n_248_150 _) rfl ?_
                  exact i_lreturn r_248_152 (n_248_152 _) rfl h
                · replace h := h.2.2.2.2.2.2.2.1 c16
                  refine i_sw_hit (kk := 7) (t := 137) r_248_72 (n_248_72 _) (by omega) q4 (by omega) rfl rfl ?_
                  refine i_lload (u := y11) r_248_137 (n_248_137 _) rfl ?_
                  refine i_lconst r_248_139 (n_248_139 _) ?_
                  refine i_lcmp r_248_140 (n_248_140 _) ?_
                  refine i_if (t := 148) r_248_141 (n_248_141 _) rfl (T_ne (zcmp_rng _ _) ⟨by omega, by omega⟩) (fun c17 => ?_) (fun c17 => ?_)
                  · replace h := h.1 c17
                    refine i_lconst r_248_148 (n_248_148 _) ?_
                    exact i_lreturn r_248_149 (n_248_149 _) rfl h
                  · replace h := h.2 c17
                    refine i_lconst r_248_144 (n_248_144 _) ?_
                    refine i_goto (t := 149) r_248_145 (n_248_145 _) rfl ?_
                    exact i_lreturn r_248_149 (n_248_149 _) rfl h
                · replace h := h.2.2.2.2.2.2.2.2 c16
                  refine i_sw_out (t := 150) r_248_72 (n_248_72 _) c16 q4 rfl ?_
                  refine i_lload (u := y11) r_248_150 (n_248_150 _) rfl ?_
                  exact i_lreturn r_248_152 (n_248_152 _) rfl h
              · replace h := h.2 c15
                refine i_lload (u := y11) r_248_50 (n_248_50 _) rfl ?_
                refine i_aload_n (a := 252) r_248_52 (n_248_52 _) rfl ?_
                refine i_iload_n (x := x1) r_248_53 (n_248_53 _) rfl ?_
                refine i_iload_n (x := x3) r_248_54 (n_248_54 _) rfl ?_
                refine wp_virt (b := 252) (rest := [.long y11]) (Ls := [(0, rf 252), (1, iv x1), (2, iv x3)]) r_248_55 (n_248_55 _) rfl ⟨rfl, rfl, by decide, by decide⟩ rfl rfl lf_252 ⟨rfl, Nat.le_of_ble_eq_true rfl, Nat.le_of_ble_eq_true rfl⟩ rfl h ?_
                intro o18 s18 h
                rcases h with ⟨y18, q19, rfl, h⟩ | ⟨e18, rfl, h⟩
                · refine .inl ⟨some (iv y18), rfl, ?_⟩
                  show wp S 248 58 [(0, rf 252), (1, iv x1), (2, iv x2), (3, iv x3), (4, iv (zI s1 259 ((40 * y1) + x3))), (5, .long y11)] [iv y18, .long y11] s18 Q
                  refine i_lshr r_248_58 (n_248_58 _) ?_
                  refine i_lconst r_248_59 (n_248_59 _) ?_
                  refine i_iload (x := zI s1 259 ((40 * y1) + x3)) r_248_60 (n_248_60 _) rfl ?_
                  refine i_bipush r_248_62 (n_248_62 _) rfl ?_
                  refine i_isub r_248_64 (n_248_64 _) ?_
                  refine i_lshl r_248_65 (n_248_65 _) ?_
                  refine i_lconst r_248_66 (n_248_66 _) ?_
                  refine i_lsub r_248_67 (n_248_67 _) ?_
                  refine i_land r_248_68 (n_248_68 _) ?_
                  exact i_lreturn r_248_69 (n_248_69 _) rfl h
                · skip
                  exact h.elim
            · skip
              exact h.elim
          · skip
            exact h.elim
        · skip
          exact h.elim
      · skip
        exact h.elim
    · skip
      exact h.elim
  · skip
    exact h.elim
theorem r_249_0 : xfetch 249 0 = some (.lconst 0, 1) := by decide +kernel
theorem n_249_0 : ∀ l, xpr 249 0 l = l := xpr_no (by decide +kernel)
theorem r_249_1 : xfetch 249 1 = some (.lstore 4, 2) := by decide +kernel
theorem n_249_1 : ∀ l, xpr 249 1 l = l := xpr_no (by decide +kernel)
theorem r_249_3 : xfetch 249 3 = some (.iconst 0, 1) := by decide +kernel
theorem n_249_3 : ∀ l, xpr 249 3 l = l := xpr_no (by decide +kernel)
theorem r_249_4 : xfetch 249 4 = some (.istore 6, 2) := by decide +kernel
theorem n_249_4 : ∀ l, xpr 249 4 l = l := xpr_no (by decide +kernel)
theorem r_249_6 : xfetch 249 6 = some (.iload 6, 2) := by decide +kernel
theorem r_249_8 : xfetch 249 8 = some (.iload_n 2, 1) := by decide +kernel
theorem n_249_8 : ∀ l, xpr 249 8 l = l := xpr_no (by decide +kernel)
theorem r_249_9 : xfetch 249 9 = some (.if_icmp .ge 50, 3) := by decide +kernel
theorem n_249_9 : ∀ l, xpr 249 9 l = l := xpr_no (by decide +kernel)
theorem r_249_12 : xfetch 249 12 = some (.iload_n 3, 1) := by decide +kernel
theorem n_249_12 : ∀ l, xpr 249 12 l = l := xpr_no (by decide +kernel)
theorem r_249_13 : xfetch 249 13 = some (.ifCond .ne 14, 3) := by decide +kernel
theorem n_249_13 : ∀ l, xpr 249 13 l = l := xpr_no (by decide +kernel)
theorem r_249_16 : xfetch 249 16 = some (.iload_n 1, 1) := by decide +kernel
theorem n_249_16 : ∀ l, xpr 249 16 l = l := xpr_no (by decide +kernel)
theorem r_249_17 : xfetch 249 17 = some (.iload_n 2, 1) := by decide +kernel
theorem n_249_17 : ∀ l, xpr 249 17 l = l := xpr_no (by decide +kernel)
theorem r_249_18 : xfetch 249 18 = some (.iadd, 1) := by decide +kernel
theorem n_249_18 : ∀ l, xpr 249 18 l = l := xpr_no (by decide +kernel)
theorem r_249_19 : xfetch 249 19 = some (.iconst 1, 1) := by decide +kernel
theorem n_249_19 : ∀ l, xpr 249 19 l = l := xpr_no (by decide +kernel)
theorem r_249_20 : xfetch 249 20 = some (.isub, 1) := by decide +kernel
theorem n_249_20 : ∀ l, xpr 249 20 l = l := xpr_no (by decide +kernel)
theorem r_249_21 : xfetch 249 21 = some (.iload 6, 2) := by decide +kernel
theorem n_249_21 : ∀ l, xpr 249 21 l = l := xpr_no (by decide +kernel)
theorem r_249_23 : xfetch 249 23 = some (.isub, 1) := by decide +kernel
theorem n_249_23 : ∀ l, xpr 249 23 l = l := xpr_no (by decide +kernel)
theorem r_249_24 : xfetch 249 24 = some (.goto 7, 3) := by decide +kernel
theorem n_249_24 : ∀ l, xpr 249 24 l = l := xpr_no (by decide +kernel)
theorem r_249_27 : xfetch 249 27 = some (.iload_n 1, 1) := by decide +kernel
theorem n_249_27 : ∀ l, xpr 249 27 l = l := xpr_no (by decide +kernel)
theorem r_249_28 : xfetch 249 28 = some (.iload 6, 2) := by decide +kernel
theorem n_249_28 : ∀ l, xpr 249 28 l = l := xpr_no (by decide +kernel)
theorem r_249_30 : xfetch 249 30 = some (.iadd, 1) := by decide +kernel
theorem n_249_30 : ∀ l, xpr 249 30 l = l := xpr_no (by decide +kernel)
theorem r_249_31 : xfetch 249 31 = some (.istore 7, 2) := by decide +kernel
theorem n_249_31 : ∀ l, xpr 249 31 l = l := xpr_no (by decide +kernel)
theorem r_249_33 : xfetch 249 33 = some (.lload 4, 2) := by decide +kernel
theorem n_249_33 : ∀ l, xpr 249 33 l = l := xpr_no (by decide +kernel)
theorem r_249_35 : xfetch 249 35 = some (.bipush 8, 2) := by decide +kernel
theorem n_249_35 : ∀ l, xpr 249 35 l = l := xpr_no (by decide +kernel)
theorem r_249_37 : xfetch 249 37 = some (.lshl, 1) := by decide +kernel
theorem n_249_37 : ∀ l, xpr 249 37 l = l := xpr_no (by decide +kernel)
theorem r_249_38 : xfetch 249 38 = some (.aload_n 0, 1) := by decide +kernel
theorem n_249_38 : ∀ l, xpr 249 38 l = l := xpr_no (by decide +kernel)
theorem r_249_39 : xfetch 249 39 = some (.getfield 7, 3) := by decide +kernel
theorem n_249_39 : ∀ l, xpr 249 39 l = l := xpr_no (by decide +kernel)
theorem r_249_42 : xfetch 249 42 = some (.sipush 175, 3) := by decide +kernel
theorem n_249_42 : ∀ l, xpr 249 42 l = l := xpr_no (by decide +kernel)
theorem r_249_45 : xfetch 249 45 = some (.iload 7, 2) := by decide +kernel
theorem n_249_45 : ∀ l, xpr 249 45 l = l := xpr_no (by decide +kernel)
theorem r_249_47 : xfetch 249 47 = some (.iadd, 1) := by decide +kernel
theorem n_249_47 : ∀ l, xpr 249 47 l = l := xpr_no (by decide +kernel)
theorem r_249_48 : xfetch 249 48 = some (.iaload, 1) := by decide +kernel
theorem n_249_48 : ∀ l, xpr 249 48 l = l := xpr_no (by decide +kernel)
theorem r_249_49 : xfetch 249 49 = some (.i2l, 1) := by decide +kernel
theorem n_249_49 : ∀ l, xpr 249 49 l = l := xpr_no (by decide +kernel)
theorem r_249_50 : xfetch 249 50 = some (.lor, 1) := by decide +kernel
theorem n_249_50 : ∀ l, xpr 249 50 l = l := xpr_no (by decide +kernel)
theorem r_249_51 : xfetch 249 51 = some (.lstore 4, 2) := by decide +kernel
theorem n_249_51 : ∀ l, xpr 249 51 l = l := xpr_no (by decide +kernel)
theorem r_249_53 : xfetch 249 53 = some (.iinc 6 1, 3) := by decide +kernel
theorem n_249_53 : ∀ l, xpr 249 53 l = l := xpr_no (by decide +kernel)
theorem r_249_56 : xfetch 249 56 = some (.goto (-50), 3) := by decide +kernel
theorem n_249_56 : ∀ l, xpr 249 56 l = l := xpr_no (by decide +kernel)
theorem r_249_59 : xfetch 249 59 = some (.lload 4, 2) := by decide +kernel
theorem n_249_59 : ∀ l, xpr 249 59 l = l := xpr_no (by decide +kernel)
theorem r_249_61 : xfetch 249 61 = some (.lreturn, 1) := by decide +kernel
theorem n_249_61 : ∀ l, xpr 249 61 l = l := xpr_no (by decide +kernel)
theorem v_Model_taken_0 {S : Option (Nat × (Nat → Int32))} {s : zSt} {Q : Option Value ⊕ Nat → zSt → Prop} {x1 : Int} {x2 : Int} {x3 : Int} 
    (h : wp S 249 6 [(0, rf 252), (1, iv x1), (2, iv x2), (3, iv x3), (4, .long 0), (6, iv 0)] [] s Q) :
    wp S 249 0 [(0, rf 252), (1, iv x1), (2, iv x2), (3, iv x3)] [] s Q := by
  refine i_lconst r_249_0 (n_249_0 _) ?_
  refine i_lstore (l' := [(0, rf 252), (1, iv x1), (2, iv x2), (3, iv x3), (4, .long 0)]) r_249_1 (n_249_1 _) (by decide) rfl ?_
  refine i_iconst r_249_3 (n_249_3 _) ?_
  refine i_istore (l' := [(0, rf 252), (1, iv x1), (2, iv x2), (3, iv x3), (4, .long 0), (6, iv 0)]) r_249_4 (n_249_4 _) (by decide) rfl ?_
  exact wp_pr (l' := [(0, rf 252), (1, iv x1), (2, iv x2), (3, iv x3), (4, .long 0), (6, iv 0)]) rfl h
theorem v_Model_taken_6 {S : Option (Nat × (Nat → Int32))} {s : zSt} {Q : Option Value ⊕ Nat → zSt → Prop} {x1 : Int} {x2 : Int} {x3 : Int} {u4 : Int64} {x6 : Int} 
    (h : rng x6 ∧ (rng x2 ∧ ((x2 ≤ x6 → Q (rL u4) s) ∧ (x6 < x2 → rng x3 ∧ ((x3 ≠ 0 → (0 ≤ (175 + (x1 + x6)) ∧ (175 + (x1 + x6)) < 1199) ∧ (wp S 249 6 [(0, rf 252), (1, iv x1), (2, iv x2), (3, iv x3), (4, .long ((zshlL u4 8) ||| (zi2l (zI s 253 (175 + (x1 + x6)))))), (6, iv (x6 + 1))] [] s Q)) ∧ (x3 = 0 → (0 ≤ (175 + (((x1 + x2) - 1) - x6)) ∧ (175 + (((x1 + x2) - 1) - x6)) < 1199) ∧ (wp S 249 6 [(0, rf 252), (1, iv x1), (2, iv x2), (3, iv x3), (4, .long ((zshlL u4 8) ||| (zi2l (zI s 253 (175 + (((x1 + x2) - 1) - x6)))))), (6, iv (x6 + 1))] [] s Q))))))) :
    wp S 249 6 [(0, rf 252), (1, iv x1), (2, iv x2), (3, iv x3), (4, .long u4), (6, iv x6)] [] s Q := by
  refine i_iload (x := x6) r_249_6 rfl rfl ?_
  refine i_iload_n (x := x2) r_249_8 (n_249_8 _) rfl ?_
  obtain ⟨g1, h⟩ := h
  obtain ⟨g2, h⟩ := h
  refine i_icmp (t := 59) r_249_9 (n_249_9 _) rfl (T_ge g1 g2) (fun c3 => ?_) (fun c3 => ?_)
  · replace h := h.1 c3
    refine i_lload (u := u4) r_249_59 (n_249_59 _) rfl ?_
    exact i_lreturn r_249_61 (n_249_61 _) rfl h
  · replace h := h.2 c3
    refine i_iload_n (x := x3) r_249_12 (n_249_12 _) rfl ?_
    obtain ⟨g4, h⟩ := h
    refine i_if (t := 27) r_249_13 (n_249_13 _) rfl (T_ne g4 ⟨by omega, by omega⟩) (fun c5 => ?_) (fun c5 => ?_)
    · replace h := h.1 c5
      refine i_iload_n (x := x1) r_249_27 (n_249_27 _) rfl ?_
      refine i_iload (x := x6) r_249_28 (n_249_28 _) rfl ?_
      refine i_iadd r_249_30 (n_249_30 _) ?_
      refine i_istore (l' := [(0, rf 252), (1, iv x1), (2, iv x2), (3, iv x3), (4, .long u4), (6, iv x6), (7, iv (x1 + x6))]) r_249_31 (n_249_31 _) (by decide) rfl ?_
      refine i_lload (u := u4) r_249_33 (n_249_33 _) rfl ?_
      refine i_bipush r_249_35 (n_249_35 _) rfl ?_
      refine i_lshl r_249_37 (n_249_37 _) ?_
      refine i_aload_n (a := 252) r_249_38 (n_249_38 _) rfl ?_
      refine i_getR (a := 252) (b := 253) r_249_39 (n_249_39 _) rfl rfl rfl (by omega) lf_252 (by omega) ?_
      refine i_sipush r_249_42 (n_249_42 _) rfl ?_
      refine i_iload (x := x1 + x6) r_249_45 (n_249_45 _) rfl ?_
      refine i_iadd r_249_47 (n_249_47 _) ?_
      obtain ⟨g6, h⟩ := h
      refine i_iaload (a := 253) (j := 175 + (x1 + x6)) r_249_48 (n_249_48 _) lf_253 ⟨by omega, by omega⟩ (by omega) (by omega) (fun q7 => ?_)
      refine i_i2l r_249_49 (n_249_49 _) ?_
      refine i_lor r_249_50 (n_249_50 _) ?_
      refine i_lstore (l' := [(0, rf 252), (1, iv x1), (2, iv x2), (3, iv x3), (4, .long ((zshlL u4 8) ||| (zi2l (zI s 253 (175 + (x1 + x6)))))), (6, iv x6), (7, iv (x1 + x6))]) r_249_51 (n_249_51 _) (by decide) rfl ?_
      refine i_iinc (x := x6) (l' := [(0, rf 252), (1, iv x1), (2, iv x2), (3, iv x3), (4, .long ((zshlL u4 8) ||| (zi2l (zI s 253 (175 + (x1 + x6)))))), (6, iv (x6 + 1)), (7, iv (x1 + x6))]) r_249_53 (n_249_53 _) (by decide) rfl rfl ?_
      refine i_goto (t := 6) r_249_56 (n_249_56 _) rfl ?_
      exact wp_pr (l' := [(0, rf 252), (1, iv x1), (2, iv x2), (3, iv x3), (4, .long ((zshlL u4 8) ||| (zi2l (zI s 253 (175 + (x1 + x6)))))), (6, iv (x6 + 1))]) rfl h
    · replace h := h.2 c5
      refine i_iload_n (x := x1) r_249_16 (n_249_16 _) rfl ?_
      refine i_iload_n (x := x2) r_249_17 (n_249_17 _) rfl ?_
      refine i_iadd r_249_18 (n_249_18 _) ?_
      refine i_iconst r_249_19 (n_249_19 _) ?_
      refine i_isub r_249_20 (n_249_20 _) ?_
      refine i_iload (x := x6) r_249_21 (n_249_21 _) rfl ?_
      refine i_isub r_249_23 (n_249_23 _) ?_
      refine i_goto (t := 31) r_249_24 (n_249_24 _) rfl ?_
      refine i_istore (l' := [(0, rf 252), (1, iv x1), (2, iv x2), (3, iv x3), (4, .long u4), (6, iv x6), (7, iv (((x1 + x2) - 1) - x6))]) r_249_31 (n_249_31 _) (by decide) rfl ?_
      refine i_lload (u := u4) r_249_33 (n_249_33 _) rfl ?_
      refine i_bipush r_249_35 (n_249_35 _) rfl ?_
      refine i_lshl r_249_37 (n_249_37 _) ?_
      refine i_aload_n (a := 252) r_249_38 (n_249_38 _) rfl ?_
      refine i_getR (a := 252) (b := 253) r_249_39 (n_249_39 _) rfl rfl rfl (by omega) lf_252 (by omega) ?_
      refine i_sipush r_249_42 (n_249_42 _) rfl ?_
      refine i_iload (x := ((x1 + x2) - 1) - x6) r_249_45 (n_249_45 _) rfl ?_
      refine i_iadd r_249_47 (n_249_47 _) ?_
      obtain ⟨g8, h⟩ := h
      refine i_iaload (a := 253) (j := 175 + (((x1 + x2) - 1) - x6)) r_249_48 (n_249_48 _) lf_253 ⟨by omega, by omega⟩ (by omega) (by omega) (fun q9 => ?_)
      refine i_i2l r_249_49 (n_249_49 _) ?_
      refine i_lor r_249_50 (n_249_50 _) ?_
      refine i_lstore (l' := [(0, rf 252), (1, iv x1), (2, iv x2), (3, iv x3), (4, .long ((zshlL u4 8) ||| (zi2l (zI s 253 (175 + (((x1 + x2) - 1) - x6)))))), (6, iv x6), (7, iv (((x1 + x2) - 1) - x6))]) r_249_51 (n_249_51 _) (by decide) rfl ?_
      refine i_iinc (x := x6) (l' := [(0, rf 252), (1, iv x1), (2, iv x2), (3, iv x3), (4, .long ((zshlL u4 8) ||| (zi2l (zI s 253 (175 + (((x1 + x2) - 1) - x6)))))), (6, iv (x6 + 1)), (7, iv (((x1 + x2) - 1) - x6))]) r_249_53 (n_249_53 _) (by decide) rfl rfl ?_
      refine i_goto (t := 6) r_249_56 (n_249_56 _) rfl ?_
      exact wp_pr (l' := [(0, rf 252), (1, iv x1), (2, iv x2), (3, iv x3), (4, .long ((zshlL u4 8) ||| (zi2l (zI s 253 (175 + (((x1 + x2) - 1) - x6)))))), (6, iv (x6 + 1))]) rfl h
theorem r_250_0 : xfetch 250 0 = some (.aload_n 0, 1) := by decide +kernel
theorem n_250_0 : ∀ l, xpr 250 0 l = l := xpr_no (by decide +kernel)
theorem r_250_1 : xfetch 250 1 = some (.iload_n 1, 1) := by decide +kernel
theorem n_250_1 : ∀ l, xpr 250 1 l = l := xpr_no (by decide +kernel)
theorem r_250_2 : xfetch 250 2 = some (.iconst 2, 1) := by decide +kernel
theorem n_250_2 : ∀ l, xpr 250 2 l = l := xpr_no (by decide +kernel)
theorem r_250_3 : xfetch 250 3 = some (.invokevirtual 228, 3) := by decide +kernel
theorem n_250_3 : ∀ l, xpr 250 3 l = l := xpr_no (by decide +kernel)
theorem r_250_6 : xfetch 250 6 = some (.ifCond .ne 22, 3) := by decide +kernel
theorem n_250_6 : ∀ l, xpr 250 6 l = l := xpr_no (by decide +kernel)
theorem r_250_9 : xfetch 250 9 = some (.aload_n 0, 1) := by decide +kernel
theorem n_250_9 : ∀ l, xpr 250 9 l = l := xpr_no (by decide +kernel)
theorem r_250_10 : xfetch 250 10 = some (.getfield 34, 3) := by decide +kernel
theorem n_250_10 : ∀ l, xpr 250 10 l = l := xpr_no (by decide +kernel)
theorem r_250_13 : xfetch 250 13 = some (.bipush 40, 2) := by decide +kernel
theorem n_250_13 : ∀ l, xpr 250 13 l = l := xpr_no (by decide +kernel)
theorem r_250_15 : xfetch 250 15 = some (.aload_n 0, 1) := by decide +kernel
theorem n_250_15 : ∀ l, xpr 250 15 l = l := xpr_no (by decide +kernel)
theorem r_250_16 : xfetch 250 16 = some (.iload_n 1, 1) := by decide +kernel
theorem n_250_16 : ∀ l, xpr 250 16 l = l := xpr_no (by decide +kernel)
theorem r_250_17 : xfetch 250 17 = some (.iconst 0, 1) := by decide +kernel
theorem n_250_17 : ∀ l, xpr 250 17 l = l := xpr_no (by decide +kernel)
theorem r_250_18 : xfetch 250 18 = some (.invokevirtual 228, 3) := by decide +kernel
theorem n_250_18 : ∀ l, xpr 250 18 l = l := xpr_no (by decide +kernel)
theorem r_250_21 : xfetch 250 21 = some (.imul, 1) := by decide +kernel
theorem n_250_21 : ∀ l, xpr 250 21 l = l := xpr_no (by decide +kernel)
theorem r_250_22 : xfetch 250 22 = some (.iload_n 2, 1) := by decide +kernel
theorem n_250_22 : ∀ l, xpr 250 22 l = l := xpr_no (by decide +kernel)
theorem r_250_23 : xfetch 250 23 = some (.iadd, 1) := by decide +kernel
theorem n_250_23 : ∀ l, xpr 250 23 l = l := xpr_no (by decide +kernel)
theorem r_250_24 : xfetch 250 24 = some (.iaload, 1) := by decide +kernel
theorem n_250_24 : ∀ l, xpr 250 24 l = l := xpr_no (by decide +kernel)
theorem r_250_25 : xfetch 250 25 = some (.goto 4, 3) := by decide +kernel
theorem n_250_25 : ∀ l, xpr 250 25 l = l := xpr_no (by decide +kernel)
theorem r_250_28 : xfetch 250 28 = some (.iconst 0, 1) := by decide +kernel
theorem n_250_28 : ∀ l, xpr 250 28 l = l := xpr_no (by decide +kernel)
theorem r_250_29 : xfetch 250 29 = some (.ireturn, 1) := by decide +kernel
theorem n_250_29 : ∀ l, xpr 250 29 l = l := xpr_no (by decide +kernel)
theorem v_Model_lowest_0 {S : Option (Nat × (Nat → Int32))} {s : zSt} {Q : Option Value ⊕ Nat → zSt → Prop} {x1 : Int} {x2 : Int} 
    (h : wp S 236 0 [(0, rf 252), (1, iv x1), (2, iv 2)] [] s (fun o1 s1 => zkI (fun y1 => (y1 ≠ 0 → Q (rI 0) s1) ∧ (y1 = 0 → wp S 236 0 [(0, rf 252), (1, iv x1), (2, iv 0)] [] s1 (fun o4 s4 => zkI (fun y4 => (0 ≤ ((40 * y4) + x2) ∧ ((40 * y4) + x2) < 240) ∧ (Q (rI (zI s4 261 ((40 * y4) + x2))) s4)) (fun e4 => False) o4))) (fun e1 => False) o1)) :
    wp S 250 0 [(0, rf 252), (1, iv x1), (2, iv x2)] [] s Q := by
  refine i_aload_n (a := 252) r_250_0 (n_250_0 _) rfl ?_
  refine i_iload_n (x := x1) r_250_1 (n_250_1 _) rfl ?_
  refine i_iconst r_250_2 (n_250_2 _) ?_
  refine wp_virt (b := 252) (rest := []) (Ls := [(0, rf 252), (1, iv x1), (2, iv 2)]) r_250_3 (n_250_3 _) rfl ⟨rfl, rfl, by decide, by decide⟩ rfl rfl lf_252 ⟨rfl, Nat.le_of_ble_eq_true rfl, Nat.le_of_ble_eq_true rfl⟩ rfl h ?_
  intro o1 s1 h
  rcases h with ⟨y1, q2, rfl, h⟩ | ⟨e1, rfl, h⟩
  · refine .inl ⟨some (iv y1), rfl, ?_⟩
    show wp S 250 6 [(0, rf 252), (1, iv x1), (2, iv x2)] [iv y1] s1 Q
    refine i_if (t := 28) r_250_6 (n_250_6 _) rfl (T_ne q2 ⟨by omega, by omega⟩) (fun c3 => ?_) (fun c3 => ?_)
    · replace h := h.1 c3
      refine i_iconst r_250_28 (n_250_28 _) ?_
      exact i_ireturn r_250_29 (n_250_29 _) rfl h
    · replace h := h.2 c3
      refine i_aload_n (a := 252) r_250_9 (n_250_9 _) rfl ?_
      refine i_getR (a := 252) (b := 261) r_250_10 (n_250_10 _) rfl rfl rfl (by omega) lf_252 (by omega) ?_
      refine i_bipush r_250_13 (n_250_13 _) rfl ?_
      refine i_aload_n (a := 252) r_250_15 (n_250_15 _) rfl ?_
      refine i_iload_n (x := x1) r_250_16 (n_250_16 _) rfl ?_
      refine i_iconst r_250_17 (n_250_17 _) ?_
      refine wp_virt (b := 252) (rest := [iv 40, rf 261]) (Ls := [(0, rf 252), (1, iv x1), (2, iv 0)]) r_250_18 (n_250_18 _) rfl ⟨rfl, rfl, by decide, by decide⟩ rfl rfl lf_252 ⟨rfl, Nat.le_of_ble_eq_true rfl, Nat.le_of_ble_eq_true rfl⟩ rfl h ?_
      intro o4 s4 h
      rcases h with ⟨y4, q5, rfl, h⟩ | ⟨e4, rfl, h⟩
      · refine .inl ⟨some (iv y4), rfl, ?_⟩
        show wp S 250 21 [(0, rf 252), (1, iv x1), (2, iv x2)] [iv y4, iv 40, rf 261] s4 Q
        refine i_imul r_250_21 (n_250_21 _) ?_
        refine i_iload_n (x := x2) r_250_22 (n_250_22 _) rfl ?_
        refine i_iadd r_250_23 (n_250_23 _) ?_
        obtain ⟨g6, h⟩ := h
        refine i_iaload (a := 261) (j := (40 * y4) + x2) r_250_24 (n_250_24 _) lf_261 ⟨by omega, by omega⟩ (by omega) (by omega) (fun q7 => ?_)
        refine i_goto (t := 29) r_250_25 (n_250_25 _) rfl ?_
        exact i_ireturn r_250_29 (n_250_29 _) rfl h
      · skip
        exact h.elim
  · skip
    exact h.elim
theorem r_251_0 : xfetch 251 0 = some (.aload_n 0, 1) := by decide +kernel
theorem n_251_0 : ∀ l, xpr 251 0 l = l := xpr_no (by decide +kernel)
theorem r_251_1 : xfetch 251 1 = some (.aload_n 0, 1) := by decide +kernel
theorem n_251_1 : ∀ l, xpr 251 1 l = l := xpr_no (by decide +kernel)
theorem r_251_2 : xfetch 251 2 = some (.aload_n 0, 1) := by decide +kernel
theorem n_251_2 : ∀ l, xpr 251 2 l = l := xpr_no (by decide +kernel)
theorem r_251_3 : xfetch 251 3 = some (.iload_n 1, 1) := by decide +kernel
theorem n_251_3 : ∀ l, xpr 251 3 l = l := xpr_no (by decide +kernel)
theorem r_251_4 : xfetch 251 4 = some (.iload_n 3, 1) := by decide +kernel
theorem n_251_4 : ∀ l, xpr 251 4 l = l := xpr_no (by decide +kernel)
theorem r_251_5 : xfetch 251 5 = some (.invokevirtual 254, 3) := by decide +kernel
theorem n_251_5 : ∀ l, xpr 251 5 l = l := xpr_no (by decide +kernel)
theorem r_251_8 : xfetch 251 8 = some (.ifCond .eq 16, 3) := by decide +kernel
theorem n_251_8 : ∀ l, xpr 251 8 l = l := xpr_no (by decide +kernel)
theorem r_251_11 : xfetch 251 11 = some (.aload_n 0, 1) := by decide +kernel
theorem n_251_11 : ∀ l, xpr 251 11 l = l := xpr_no (by decide +kernel)
theorem r_251_12 : xfetch 251 12 = some (.iload_n 1, 1) := by decide +kernel
theorem n_251_12 : ∀ l, xpr 251 12 l = l := xpr_no (by decide +kernel)
theorem r_251_13 : xfetch 251 13 = some (.iload_n 2, 1) := by decide +kernel
theorem n_251_13 : ∀ l, xpr 251 13 l = l := xpr_no (by decide +kernel)
theorem r_251_14 : xfetch 251 14 = some (.invokevirtual 257, 3) := by decide +kernel
theorem n_251_14 : ∀ l, xpr 251 14 l = l := xpr_no (by decide +kernel)
theorem r_251_17 : xfetch 251 17 = some (.ifCond .eq 7, 3) := by decide +kernel
theorem n_251_17 : ∀ l, xpr 251 17 l = l := xpr_no (by decide +kernel)
theorem r_251_20 : xfetch 251 20 = some (.iconst 1, 1) := by decide +kernel
theorem n_251_20 : ∀ l, xpr 251 20 l = l := xpr_no (by decide +kernel)
theorem r_251_21 : xfetch 251 21 = some (.goto 4, 3) := by decide +kernel
theorem n_251_21 : ∀ l, xpr 251 21 l = l := xpr_no (by decide +kernel)
theorem r_251_24 : xfetch 251 24 = some (.iconst 0, 1) := by decide +kernel
theorem n_251_24 : ∀ l, xpr 251 24 l = l := xpr_no (by decide +kernel)
theorem r_251_25 : xfetch 251 25 = some (.invokevirtual 175, 3) := by decide +kernel
theorem n_251_25 : ∀ l, xpr 251 25 l = l := xpr_no (by decide +kernel)
theorem r_251_28 : xfetch 251 28 = some (.invokevirtual 84, 3) := by decide +kernel
theorem n_251_28 : ∀ l, xpr 251 28 l = l := xpr_no (by decide +kernel)
theorem r_251_31 : xfetch 251 31 = some (.ifCond .eq 5, 3) := by decide +kernel
theorem n_251_31 : ∀ l, xpr 251 31 l = l := xpr_no (by decide +kernel)
theorem r_251_34 : xfetch 251 34 = some (.lconst 0, 1) := by decide +kernel
theorem n_251_34 : ∀ l, xpr 251 34 l = l := xpr_no (by decide +kernel)
theorem r_251_35 : xfetch 251 35 = some (.lreturn, 1) := by decide +kernel
theorem n_251_35 : ∀ l, xpr 251 35 l = l := xpr_no (by decide +kernel)
theorem r_251_36 : xfetch 251 36 = some (.aload_n 0, 1) := by decide +kernel
theorem n_251_36 : ∀ l, xpr 251 36 l = l := xpr_no (by decide +kernel)
theorem r_251_37 : xfetch 251 37 = some (.invokevirtual 135, 3) := by decide +kernel
theorem n_251_37 : ∀ l, xpr 251 37 l = l := xpr_no (by decide +kernel)
theorem r_251_40 : xfetch 251 40 = some (.aload_n 0, 1) := by decide +kernel
theorem n_251_40 : ∀ l, xpr 251 40 l = l := xpr_no (by decide +kernel)
theorem r_251_41 : xfetch 251 41 = some (.iload_n 1, 1) := by decide +kernel
theorem n_251_41 : ∀ l, xpr 251 41 l = l := xpr_no (by decide +kernel)
theorem r_251_42 : xfetch 251 42 = some (.iload_n 2, 1) := by decide +kernel
theorem n_251_42 : ∀ l, xpr 251 42 l = l := xpr_no (by decide +kernel)
theorem r_251_43 : xfetch 251 43 = some (.iload_n 3, 1) := by decide +kernel
theorem n_251_43 : ∀ l, xpr 251 43 l = l := xpr_no (by decide +kernel)
theorem r_251_44 : xfetch 251 44 = some (.invokevirtual 278, 3) := by decide +kernel
theorem n_251_44 : ∀ l, xpr 251 44 l = l := xpr_no (by decide +kernel)
theorem r_251_47 : xfetch 251 47 = some (.lstore 6, 2) := by decide +kernel
theorem n_251_47 : ∀ l, xpr 251 47 l = l := xpr_no (by decide +kernel)
theorem r_251_49 : xfetch 251 49 = some (.aload_n 0, 1) := by decide +kernel
theorem n_251_49 : ∀ l, xpr 251 49 l = l := xpr_no (by decide +kernel)
theorem r_251_50 : xfetch 251 50 = some (.iload_n 1, 1) := by decide +kernel
theorem n_251_50 : ∀ l, xpr 251 50 l = l := xpr_no (by decide +kernel)
theorem r_251_51 : xfetch 251 51 = some (.iload_n 2, 1) := by decide +kernel
theorem n_251_51 : ∀ l, xpr 251 51 l = l := xpr_no (by decide +kernel)
theorem r_251_52 : xfetch 251 52 = some (.iload_n 3, 1) := by decide +kernel
theorem n_251_52 : ∀ l, xpr 251 52 l = l := xpr_no (by decide +kernel)
theorem r_251_53 : xfetch 251 53 = some (.lload 4, 2) := by decide +kernel
theorem n_251_53 : ∀ l, xpr 251 53 l = l := xpr_no (by decide +kernel)
theorem r_251_55 : xfetch 251 55 = some (.invokevirtual 281, 3) := by decide +kernel
theorem n_251_55 : ∀ l, xpr 251 55 l = l := xpr_no (by decide +kernel)
theorem r_251_58 : xfetch 251 58 = some (.lload 6, 2) := by decide +kernel
theorem n_251_58 : ∀ l, xpr 251 58 l = l := xpr_no (by decide +kernel)
theorem r_251_60 : xfetch 251 60 = some (.lreturn, 1) := by decide +kernel
theorem n_251_60 : ∀ l, xpr 251 60 l = l := xpr_no (by decide +kernel)
theorem v_Model_set_0 {S : Option (Nat × (Nat → Int32))} {s : zSt} {Q : Option Value ⊕ Nat → zSt → Prop} {x1 : Int} {x2 : Int} {x3 : Int} {u4 : Int64} 
    (h : wp S 243 0 [(0, rf 252), (1, iv x1), (2, iv x3)] [] s (fun o1 s1 => zkI (fun y1 => (y1 = 0 → wp S 213 0 [(0, rf 252), (1, iv 0)] [] s1 (fun o4 s4 => zkI (fun y4 => wp S 179 0 [(0, rf 252), (1, iv y4)] [] s4 (fun o6 s6 => zkI (fun y6 => (y6 = 0 → wp S 182 0 [(0, rf 252)] [] s6 (fun o9 s9 => zkU (wp S 248 0 [(0, rf 252), (1, iv x1), (2, iv x2), (3, iv x3)] [] s9 (fun o11 s11 => zkL (fun y11 => wp S 252 0 [(0, rf 252), (1, iv x1), (2, iv x2), (3, iv x3), (4, .long u4)] [] s11 (fun o13 s13 => zkU (Q (rL y11) s13) (fun e13 => False) o13)) (fun e11 => False) o11)) (fun e9 => False) o9)) ∧ (y6 ≠ 0 → Q (rL 0) s6)) (fun e6 => False) o6)) (fun e4 => False) o4)) ∧ (y1 ≠ 0 → wp S 244 0 [(0, rf 252), (1, iv x1), (2, iv x2)] [] s1 (fun o15 s15 => zkI (fun y15 => (y15 = 0 → wp S 213 0 [(0, rf 252), (1, iv 0)] [] s15 (fun o18 s18 => zkI (fun y18 => wp S 179 0 [(0, rf 252), (1, iv y18)] [] s18 (fun o20 s20 => zkI (fun y20 => (y20 = 0 → wp S 182 0 [(0, rf 252)] [] s20 (fun o23 s23 => zkU (wp S 248 0 [(0, rf 252), (1, iv x1), (2, iv x2), (3, iv x3)] [] s23 (fun o25 s25 => zkL (fun y25 => wp S 252 0 [(0, rf 252), (1, iv x1), (2, iv x2), (3, iv x3), (4, .long u4)] [] s25 (fun o27 s27 => zkU (Q (rL y25) s27) (fun e27 => False) o27)) (fun e25 => False) o25)) (fun e23 => False) o23)) ∧ (y20 ≠ 0 → Q (rL 0) s20)) (fun e20 => False) o20)) (fun e18 => False) o18)) ∧ (y15 ≠ 0 → wp S 213 0 [(0, rf 252), (1, iv 1)] [] s15 (fun o29 s29 => zkI (fun y29 => wp S 179 0 [(0, rf 252), (1, iv y29)] [] s29 (fun o31 s31 => zkI (fun y31 => (y31 = 0 → wp S 182 0 [(0, rf 252)] [] s31 (fun o34 s34 => zkU (wp S 248 0 [(0, rf 252), (1, iv x1), (2, iv x2), (3, iv x3)] [] s34 (fun o36 s36 => zkL (fun y36 => wp S 252 0 [(0, rf 252), (1, iv x1), (2, iv x2), (3, iv x3), (4, .long u4)] [] s36 (fun o38 s38 => zkU (Q (rL y36) s38) (fun e38 => False) o38)) (fun e36 => False) o36)) (fun e34 => False) o34)) ∧ (y31 ≠ 0 → Q (rL 0) s31)) (fun e31 => False) o31)) (fun e29 => False) o29))) (fun e15 => False) o15))) (fun e1 => False) o1)) :
    wp S 251 0 [(0, rf 252), (1, iv x1), (2, iv x2), (3, iv x3), (4, .long u4)] [] s Q := by
  refine i_aload_n (a := 252) r_251_0 (n_251_0 _) rfl ?_
  refine i_aload_n (a := 252) r_251_1 (n_251_1 _) rfl ?_
  refine i_aload_n (a := 252) r_251_2 (n_251_2 _) rfl ?_
  refine i_iload_n (x := x1) r_251_3 (n_251_3 _) rfl ?_
  refine i_iload_n (x := x3) r_251_4 (n_251_4 _) rfl ?_
  refine wp_virt (b := 252) (rest := [rf 252, rf 252]) (Ls := [(0, rf 252), (1, iv x1), (2, iv x3)]) r_251_5 (n_251_5 _) rfl ⟨rfl, rfl, by decide, by decide⟩ rfl rfl lf_252 ⟨rfl, Nat.le_of_ble_eq_true rfl, Nat.le_of_ble_eq_true rfl⟩ rfl h ?_
  intro o1 s1 h
  rcases h with ⟨y1, q2, rfl, h⟩ | ⟨e1, rfl, h⟩
  · refine .inl ⟨some (iv y1), rfl, ?_⟩
    show wp S 251 8 [(0, rf 252), (1, iv x1), (2, iv x2), (3, iv x3), (4, .long u4)] [iv y1, rf 252, rf 252] s1 Q
    refine i_if (t := 24) r_251_8 (n_251_8 _) rfl (T_eq q2 ⟨by omega, by omega⟩) (fun c3 => ?_) (fun c3 => ?_)
    · replace h := h.1 c3
      refine i_iconst r_251_24 (n_251_24 _) ?_
      refine wp_virt (b := 252) (rest := [rf 252]) (Ls := [(0, rf 252), (1, iv 0)]) r_251_25 (n_251_25 _) rfl ⟨rfl, rfl, by decide, by decide⟩ rfl rfl lf_252 ⟨rfl, Nat.le_of_ble_eq_true rfl, Nat.le_of_ble_eq_true rfl⟩ rfl h ?_
      intro o4 s4 h
      rcases h with ⟨y4, q5, rfl, h⟩ | ⟨e4, rfl, h⟩
      · refine .inl ⟨some (iv y4), rfl, ?_⟩
        show wp S 251 28 [(0, rf 252), (1, iv x1), (2, iv x2), (3, iv x3), (4, .long u4)] [iv y4, rf 252] s4 Q
        refine wp_virt (b := 252) (rest := []) (Ls := [(0, rf 252), (1, iv y4)]) r_251_28 (n_251_28 _) rfl ⟨rfl, rfl, by decide, by decide⟩ rfl rfl lf_252 ⟨rfl, Nat.le_of_ble_eq_true rfl, Nat.le_of_ble_eq_true rfl⟩ rfl h ?_
        intro o6 s6 h
        rcases h with ⟨y6, q7, rfl, h⟩ | ⟨e6, rfl, h⟩
        · refine .inl ⟨some (iv y6), rfl, ?_⟩
          show wp S 251 31 [(0, rf 252), (1, iv x1), (2, iv x2), (3, iv x3), (4, .long u4)] [iv y6] s6 Q
          refine i_if (t := 36) r_251_31 (n_251_31 _) rfl (T_eq q7 ⟨by omega, by omega⟩) (fun c8 => ?_) (fun c8 => ?_)
          · replace h := h.1 c8
            refine i_aload_n (a := 252) r_251_36 (n_251_36 _) rfl ?_
            refine wp_virt (b := 252) (rest := []) (Ls := [(0, rf 252)]) r_251_37 (n_251_37 _) rfl ⟨rfl, rfl, by decide, by decide⟩ rfl rfl lf_252 ⟨rfl, Nat.le_of_ble_eq_true rfl, Nat.le_of_ble_eq_true rfl⟩ rfl h ?_
            intro o9 s9 h
            rcases h with ⟨rfl, h⟩ | ⟨e9, rfl, h⟩
            · refine .inl ⟨none, rfl, ?_⟩
              refine i_aload_n (a := 252) r_251_40 (n_251_40 _) rfl ?_
              refine i_iload_n (x := x1) r_251_41 (n_251_41 _) rfl ?_
              refine i_iload_n (x := x2) r_251_42 (n_251_42 _) rfl ?_
              refine i_iload_n (x := x3) r_251_43 (n_251_43 _) rfl ?_
              refine wp_virt (b := 252) (rest := []) (Ls := [(0, rf 252), (1, iv x1), (2, iv x2), (3, iv x3)]) r_251_44 (n_251_44 _) rfl ⟨rfl, rfl, by decide, by decide⟩ rfl rfl lf_252 ⟨rfl, Nat.le_of_ble_eq_true rfl, Nat.le_of_ble_eq_true rfl⟩ rfl h ?_
              intro o11 s11 h
              rcases h with ⟨y11, rfl, h⟩ | ⟨e11, rfl, h⟩
              · refine .inl ⟨some (.long y11), rfl, ?_⟩
                show wp S 251 47 [(0, rf 252), (1, iv x1), (2, iv x2), (3, iv x3), (4, .long u4)] [.long y11] s11 Q
                refine i_lstore (l' := [(0, rf 252), (1, iv x1), (2, iv x2), (3, iv x3), (4, .long u4), (6, .long y11)]) r_251_47 (n_251_47 _) (by decide) rfl ?_
                refine i_aload_n (a := 252) r_251_49 (n_251_49 _) rfl ?_
                refine i_iload_n (x := x1) r_251_50 (n_251_50 _) rfl ?_
                refine i_iload_n (x := x2) r_251_51 (n_251_51 _) rfl ?_
                refine i_iload_n (x := x3) r_251_52 (n_251_52 _) rfl ?_
                refine i_lload (u := u4) r_251_53 (n_251_53 _) rfl ?_
                refine wp_virt (b := 252) (rest := []) (Ls := [(0, rf 252), (1, iv x1), (2, iv x2), (3, iv x3), (4, .long u4)]) r_251_55 (n_251_55 _) rfl ⟨rfl, rfl, by decide, by decide⟩ rfl rfl lf_252 ⟨rfl, Nat.le_of_ble_eq_true rfl, Nat.le_of_ble_eq_true rfl⟩ rfl h ?_
                intro o13 s13 h
                rcases h with ⟨rfl, h⟩ | ⟨e13, rfl, h⟩
                · refine .inl ⟨none, rfl, ?_⟩
                  refine i_lload (u := y11) r_251_58 (n_251_58 _) rfl ?_
                  exact i_lreturn r_251_60 (n_251_60 _) rfl h
                · skip
                  exact h.elim
              · skip
                exact h.elim
            · skip
              exact h.elim
          · replace h := h.2 c8
            refine i_lconst r_251_34 (n_251_34 _) ?_
            exact i_lreturn r_251_35 (n_251_35 _) rfl h
        · skip
          exact h.elim
      · skip
        exact h.elim
    · replace h := h.2 c3
      refine i_aload_n (a := 252) r_251_11 (n_251_11 _) rfl ?_
      refine i_iload_n (x := x1) r_251_12 (n_251_12 _) rfl ?_
      refine i_iload_n (x := x2) r_251_13 (n_251_13 _) rfl ?_
      refine wp_virt (b := 252) (rest := [rf 252, rf 252]) (Ls := [(0, rf 252), (1, iv x1), (2, iv x2)]) r_251_14 (n_251_14 _) rfl ⟨rfl, rfl, by decide, by decide⟩ rfl rfl lf_252 ⟨rfl, Nat.le_of_ble_eq_true rfl, Nat.le_of_ble_eq_true rfl⟩ rfl h ?_
      intro o15 s15 h
      rcases h with ⟨y15, q16, rfl, h⟩ | ⟨e15, rfl, h⟩
      · refine .inl ⟨some (iv y15), rfl, ?_⟩
        show wp S 251 17 [(0, rf 252), (1, iv x1), (2, iv x2), (3, iv x3), (4, .long u4)] [iv y15, rf 252, rf 252] s15 Q
        refine i_if (t := 24) r_251_17 (n_251_17 _) rfl (T_eq q16 ⟨by omega, by omega⟩) (fun c17 => ?_) (fun c17 => ?_)
        · replace h := h.1 c17
          refine i_iconst r_251_24 (n_251_24 _) ?_
          refine wp_virt (b := 252) (rest := [rf 252]) (Ls := [(0, rf 252), (1, iv 0)]) r_251_25 (n_251_25 _) rfl ⟨rfl, rfl, by decide, by decide⟩ rfl rfl lf_252 ⟨rfl, Nat.le_of_ble_eq_true rfl, Nat.le_of_ble_eq_true rfl⟩ rfl h ?_
          intro o18 s18 h
          rcases h with ⟨y18, q19, rfl, h⟩ | ⟨e18, rfl, h⟩
          · refine .inl ⟨some (iv y18), rfl, ?_⟩
            show wp S 251 28 [(0, rf 252), (1, iv x1), (2, iv x2), (3, iv x3), (4, .long u4)] [iv y18, rf 252] s18 Q
            refine wp_virt (b := 252) (rest := []) (Ls := [(0, rf 252), (1, iv y18)]) r_251_28 (n_251_28 _) rfl ⟨rfl, rfl, by decide, by decide⟩ rfl rfl lf_252 ⟨rfl, Nat.le_of_ble_eq_true rfl, Nat.le_of_ble_eq_true rfl⟩ rfl h ?_
            intro o20 s20 h
            rcases h with ⟨y20, q21, rfl, h⟩ | ⟨e20, rfl, h⟩
            · refine .inl ⟨some (iv y20), rfl, ?_⟩
              show wp S 251 31 [(0, rf 252), (1, iv x1), (2, iv x2), (3, iv x3), (4, .long u4)] [iv y20] s20 Q
              refine i_if (t := 36) r_251_31 (n_251_31 _) rfl (T_eq q21 ⟨by omega, by omega⟩) (fun c22 => ?_) (fun c22 => ?_)
              · replace h := h.1 c22
                refine i_aload_n (a := 252) r_251_36 (n_251_36 _) rfl ?_
                refine wp_virt (b := 252) (rest := []) (Ls := [(0, rf 252)]) r_251_37 (n_251_37 _) rfl ⟨rfl, rfl, by decide, by decide⟩ rfl rfl lf_252 ⟨rfl, Nat.le_of_ble_eq_true rfl, Nat.le_of_ble_eq_true rfl⟩ rfl h ?_
                intro o23 s23 h
                rcases h with ⟨rfl, h⟩ | ⟨e23, rfl, h⟩
                · refine .inl ⟨none, rfl, ?_⟩
                  refine i_aload_n (a := 252) r_251_40 (n_251_40 _) rfl ?_
                  refine i_iload_n (x := x1) r_251_41 (n_251_41 _) rfl ?_
                  refine i_iload_n (x := x2) r_251_42 (n_251_42 _) rfl ?_
                  refine i_iload_n (x := x3) r_251_43 (n_251_43 _) rfl ?_
                  refine wp_virt (b := 252) (rest := []) (Ls := [(0, rf 252), (1, iv x1), (2, iv x2), (3, iv x3)]) r_251_44 (n_251_44 _) rfl ⟨rfl, rfl, by decide, by decide⟩ rfl rfl lf_252 ⟨rfl, Nat.le_of_ble_eq_true rfl, Nat.le_of_ble_eq_true rfl⟩ rfl h ?_
                  intro o25 s25 h
                  rcases h with ⟨y25, rfl, h⟩ | ⟨e25, rfl, h⟩
                  · refine .inl ⟨some (.long y25), rfl, ?_⟩
                    show wp S 251 47 [(0, rf 252), (1, iv x1), (2, iv x2), (3, iv x3), (4, .long u4)] [.long y25] s25 Q
                    refine i_lstore (l' := [(0, rf 252), (1, iv x1), (2, iv x2), (3, iv x3), (4, .long u4), (6, .long y25)]) r_251_47 (n_251_47 _) (by decide) rfl ?_
                    refine i_aload_n (a := 252) r_251_49 (n_251_49 _) rfl ?_
                    refine i_iload_n (x := x1) r_251_50 (n_251_50 _) rfl ?_
                    refine i_iload_n (x := x2) r_251_51 (n_251_51 _) rfl ?_
                    refine i_iload_n (x := x3) r_251_52 (n_251_52 _) rfl ?_
                    refine i_lload (u := u4) r_251_53 (n_251_53 _) rfl ?_
                    refine wp_virt (b := 252) (rest := []) (Ls := [(0, rf 252), (1, iv x1), (2, iv x2), (3, iv x3), (4, .long u4)]) r_251_55 (n_251_55 _) rfl ⟨rfl, rfl, by decide, by decide⟩ rfl rfl lf_252 ⟨rfl, Nat.le_of_ble_eq_true rfl, Nat.le_of_ble_eq_true rfl⟩ rfl h ?_
                    intro o27 s27 h
                    rcases h with ⟨rfl, h⟩ | ⟨e27, rfl, h⟩
                    · refine .inl ⟨none, rfl, ?_⟩
                      refine i_lload (u := y25) r_251_58 (n_251_58 _) rfl ?_
                      exact i_lreturn r_251_60 (n_251_60 _) rfl h
                    · skip
                      exact h.elim
                  · skip
                    exact h.elim
                · skip
                  exact h.elim
              · replace h := h.2 c22
                refine i_lconst r_251_34 (n_251_34 _) ?_
                exact i_lreturn r_251_35 (n_251_35 _) rfl h
            · skip
              exact h.elim
          · skip
            exact h.elim
        · replace h := h.2 c17
          refine i_iconst r_251_20 (n_251_20 _) ?_
          refine i_goto (t := 25) r_251_21 (n_251_21 _) rfl ?_
          refine wp_virt (b := 252) (rest := [rf 252]) (Ls := [(0, rf 252), (1, iv 1)]) r_251_25 (n_251_25 _) rfl ⟨rfl, rfl, by decide, by decide⟩ rfl rfl lf_252 ⟨rfl, Nat.le_of_ble_eq_true rfl, Nat.le_of_ble_eq_true rfl⟩ rfl h ?_
          intro o29 s29 h
          rcases h with ⟨y29, q30, rfl, h⟩ | ⟨e29, rfl, h⟩
          · refine .inl ⟨some (iv y29), rfl, ?_⟩
            show wp S 251 28 [(0, rf 252), (1, iv x1), (2, iv x2), (3, iv x3), (4, .long u4)] [iv y29, rf 252] s29 Q
            refine wp_virt (b := 252) (rest := []) (Ls := [(0, rf 252), (1, iv y29)]) r_251_28 (n_251_28 _) rfl ⟨rfl, rfl, by decide, by decide⟩ rfl rfl lf_252 ⟨rfl, Nat.le_of_ble_eq_true rfl, Nat.le_of_ble_eq_true rfl⟩ rfl h ?_
            intro o31 s31 h
            rcases h with ⟨y31, q32, rfl, h⟩ | ⟨e31, rfl, h⟩
            · refine .inl ⟨some (iv y31), rfl, ?_⟩
              show wp S 251 31 [(0, rf 252), (1, iv x1), (2, iv x2), (3, iv x3), (4, .long u4)] [iv y31] s31 Q
              refine i_if (t := 36) r_251_31 (n_251_31 _) rfl (T_eq q32 ⟨by omega, by omega⟩) (fun c33 => ?_) (fun c33 => ?_)
              · replace h := h.1 c33
                refine i_aload_n (a := 252) r_251_36 (n_251_36 _) rfl ?_
                refine wp_virt (b := 252) (rest := []) (Ls := [(0, rf 252)]) r_251_37 (n_251_37 _) rfl ⟨rfl, rfl, by decide, by decide⟩ rfl rfl lf_252 ⟨rfl, Nat.le_of_ble_eq_true rfl, Nat.le_of_ble_eq_true rfl⟩ rfl h ?_
                intro o34 s34 h
                rcases h with ⟨rfl, h⟩ | ⟨e34, rfl, h⟩
                · refine .inl ⟨none, rfl, ?_⟩
                  refine i_aload_n (a := 252) r_251_40 (n_251_40 _) rfl ?_
                  refine i_iload_n (x := x1) r_251_41 (n_251_41 _) rfl ?_
                  refine i_iload_n (x := x2) r_251_42 (n_251_42 _) rfl ?_
                  refine i_iload_n (x := x3) r_251_43 (n_251_43 _) rfl ?_
                  refine wp_virt (b := 252) (rest := []) (Ls := [(0, rf 252), (1, iv x1), (2, iv x2), (3, iv x3)]) r_251_44 (n_251_44 _) rfl ⟨rfl, rfl, by decide, by decide⟩ rfl rfl lf_252 ⟨rfl, Nat.le_of_ble_eq_true rfl, Nat.le_of_ble_eq_true rfl⟩ rfl h ?_
                  intro o36 s36 h
                  rcases h with ⟨y36, rfl, h⟩ | ⟨e36, rfl, h⟩
                  · refine .inl ⟨some (.long y36), rfl, ?_⟩
                    show wp S 251 47 [(0, rf 252), (1, iv x1), (2, iv x2), (3, iv x3), (4, .long u4)] [.long y36] s36 Q
                    refine i_lstore (l' := [(0, rf 252), (1, iv x1), (2, iv x2), (3, iv x3), (4, .long u4), (6, .long y36)]) r_251_47 (n_251_47 _) (by decide) rfl ?_
                    refine i_aload_n (a := 252) r_251_49 (n_251_49 _) rfl ?_
                    refine i_iload_n (x := x1) r_251_50 (n_251_50 _) rfl ?_
                    refine i_iload_n (x := x2) r_251_51 (n_251_51 _) rfl ?_
                    refine i_iload_n (x := x3) r_251_52 (n_251_52 _) rfl ?_
                    refine i_lload (u := u4) r_251_53 (n_251_53 _) rfl ?_
                    refine wp_virt (b := 252) (rest := []) (Ls := [(0, rf 252), (1, iv x1), (2, iv x2), (3, iv x3), (4, .long u4)]) r_251_55 (n_251_55 _) rfl ⟨rfl, rfl, by decide, by decide⟩ rfl rfl lf_252 ⟨rfl, Nat.le_of_ble_eq_true rfl, Nat.le_of_ble_eq_true rfl⟩ rfl h ?_
                    intro o38 s38 h
                    rcases h with ⟨rfl, h⟩ | ⟨e38, rfl, h⟩
                    · refine .inl ⟨none, rfl, ?_⟩
                      refine i_lload (u := y36) r_251_58 (n_251_58 _) rfl ?_
                      exact i_lreturn r_251_60 (n_251_60 _) rfl h
                    · skip
                      exact h.elim
                  · skip
                    exact h.elim
                · skip
                  exact h.elim
              · replace h := h.2 c33
                refine i_lconst r_251_34 (n_251_34 _) ?_
                exact i_lreturn r_251_35 (n_251_35 _) rfl h
            · skip
              exact h.elim
          · skip
            exact h.elim
      · skip
        exact h.elim
  · skip
    exact h.elim
theorem r_252_0 : xfetch 252 0 = some (.aload_n 0, 1) := by decide +kernel
theorem n_252_0 : ∀ l, xpr 252 0 l = l := xpr_no (by decide +kernel)
theorem r_252_1 : xfetch 252 1 = some (.getfield 28, 3) := by decide +kernel
theorem n_252_1 : ∀ l, xpr 252 1 l = l := xpr_no (by decide +kernel)
theorem r_252_4 : xfetch 252 4 = some (.bipush 40, 2) := by decide +kernel
theorem n_252_4 : ∀ l, xpr 252 4 l = l := xpr_no (by decide +kernel)
theorem r_252_6 : xfetch 252 6 = some (.aload_n 0, 1) := by decide +kernel
theorem n_252_6 : ∀ l, xpr 252 6 l = l := xpr_no (by decide +kernel)
theorem r_252_7 : xfetch 252 7 = some (.iload_n 1, 1) := by decide +kernel
theorem n_252_7 : ∀ l, xpr 252 7 l = l := xpr_no (by decide +kernel)
theorem r_252_8 : xfetch 252 8 = some (.iconst 0, 1) := by decide +kernel
theorem n_252_8 : ∀ l, xpr 252 8 l = l := xpr_no (by decide +kernel)
theorem r_252_9 : xfetch 252 9 = some (.invokevirtual 228, 3) := by decide +kernel
theorem n_252_9 : ∀ l, xpr 252 9 l = l := xpr_no (by decide +kernel)
theorem r_252_12 : xfetch 252 12 = some (.imul, 1) := by decide +kernel
theorem n_252_12 : ∀ l, xpr 252 12 l = l := xpr_no (by decide +kernel)
theorem r_252_13 : xfetch 252 13 = some (.iload_n 3, 1) := by decide +kernel
theorem n_252_13 : ∀ l, xpr 252 13 l = l := xpr_no (by decide +kernel)
theorem r_252_14 : xfetch 252 14 = some (.iadd, 1) := by decide +kernel
theorem n_252_14 : ∀ l, xpr 252 14 l = l := xpr_no (by decide +kernel)
theorem r_252_15 : xfetch 252 15 = some (.iaload, 1) := by decide +kernel
theorem n_252_15 : ∀ l, xpr 252 15 l = l := xpr_no (by decide +kernel)
theorem r_252_16 : xfetch 252 16 = some (.istore 6, 2) := by decide +kernel
theorem n_252_16 : ∀ l, xpr 252 16 l = l := xpr_no (by decide +kernel)
theorem r_252_18 : xfetch 252 18 = some (.aload_n 0, 1) := by decide +kernel
theorem n_252_18 : ∀ l, xpr 252 18 l = l := xpr_no (by decide +kernel)
theorem r_252_19 : xfetch 252 19 = some (.iload_n 1, 1) := by decide +kernel
theorem n_252_19 : ∀ l, xpr 252 19 l = l := xpr_no (by decide +kernel)
theorem r_252_20 : xfetch 252 20 = some (.iload_n 2, 1) := by decide +kernel
theorem n_252_20 : ∀ l, xpr 252 20 l = l := xpr_no (by decide +kernel)
theorem r_252_21 : xfetch 252 21 = some (.iload_n 3, 1) := by decide +kernel
theorem n_252_21 : ∀ l, xpr 252 21 l = l := xpr_no (by decide +kernel)
theorem r_252_22 : xfetch 252 22 = some (.invokevirtual 260, 3) := by decide +kernel
theorem n_252_22 : ∀ l, xpr 252 22 l = l := xpr_no (by decide +kernel)
theorem r_252_25 : xfetch 252 25 = some (.istore 7, 2) := by decide +kernel
theorem n_252_25 : ∀ l, xpr 252 25 l = l := xpr_no (by decide +kernel)
theorem r_252_27 : xfetch 252 27 = some (.iload 6, 2) := by decide +kernel
theorem n_252_27 : ∀ l, xpr 252 27 l = l := xpr_no (by decide +kernel)
theorem r_252_29 : xfetch 252 29 = some (.invokestatic 96, 3) := by decide +kernel
theorem n_252_29 : ∀ l, xpr 252 29 l = l := xpr_no (by decide +kernel)
theorem r_252_32 : xfetch 252 32 = some (.istore 8, 2) := by decide +kernel
theorem n_252_32 : ∀ l, xpr 252 32 l = l := xpr_no (by decide +kernel)
theorem r_252_34 : xfetch 252 34 = some (.lload 4, 2) := by decide +kernel
theorem n_252_34 : ∀ l, xpr 252 34 l = l := xpr_no (by decide +kernel)
theorem r_252_36 : xfetch 252 36 = some (.lstore 9, 2) := by decide +kernel
theorem n_252_36 : ∀ l, xpr 252 36 l = l := xpr_no (by decide +kernel)
theorem r_252_38 : xfetch 252 38 = some (.iload 6, 2) := by decide +kernel
theorem n_252_38 : ∀ l, xpr 252 38 l = l := xpr_no (by decide +kernel)
theorem r_252_40 : xfetch 252 40 = some (.invokestatic 109, 3) := by decide +kernel
theorem n_252_40 : ∀ l, xpr 252 40 l = l := xpr_no (by decide +kernel)
theorem r_252_43 : xfetch 252 43 = some (.ifCond .eq 59, 3) := by decide +kernel
theorem n_252_43 : ∀ l, xpr 252 43 l = l := xpr_no (by decide +kernel)
theorem r_252_46 : xfetch 252 46 = some (.lconst 1, 1) := by decide +kernel
theorem n_252_46 : ∀ l, xpr 252 46 l = l := xpr_no (by decide +kernel)
theorem r_252_47 : xfetch 252 47 = some (.iload 6, 2) := by decide +kernel
theorem n_252_47 : ∀ l, xpr 252 47 l = l := xpr_no (by decide +kernel)
theorem r_252_49 : xfetch 252 49 = some (.bipush 20, 2) := by decide +kernel
theorem n_252_49 : ∀ l, xpr 252 49 l = l := xpr_no (by decide +kernel)
theorem r_252_51 : xfetch 252 51 = some (.isub, 1) := by decide +kernel
theorem n_252_51 : ∀ l, xpr 252 51 l = l := xpr_no (by decide +kernel)
theorem r_252_52 : xfetch 252 52 = some (.lshl, 1) := by decide +kernel
theorem n_252_52 : ∀ l, xpr 252 52 l = l := xpr_no (by decide +kernel)
theorem r_252_53 : xfetch 252 53 = some (.lconst 1, 1) := by decide +kernel
theorem n_252_53 : ∀ l, xpr 252 53 l = l := xpr_no (by decide +kernel)
theorem r_252_54 : xfetch 252 54 = some (.lsub, 1) := by decide +kernel
theorem n_252_54 : ∀ l, xpr 252 54 l = l := xpr_no (by decide +kernel)
theorem r_252_55 : xfetch 252 55 = some (.aload_n 0, 1) := by decide +kernel
theorem n_252_55 : ∀ l, xpr 252 55 l = l := xpr_no (by decide +kernel)
theorem r_252_56 : xfetch 252 56 = some (.iload_n 1, 1) := by decide +kernel
theorem n_252_56 : ∀ l, xpr 252 56 l = l := xpr_no (by decide +kernel)
theorem r_252_57 : xfetch 252 57 = some (.iload_n 3, 1) := by decide +kernel
theorem n_252_57 : ∀ l, xpr 252 57 l = l := xpr_no (by decide +kernel)
theorem r_252_58 : xfetch 252 58 = some (.invokevirtual 269, 3) := by decide +kernel
theorem n_252_58 : ∀ l, xpr 252 58 l = l := xpr_no (by decide +kernel)
theorem r_252_61 : xfetch 252 61 = some (.lshl, 1) := by decide +kernel
theorem n_252_61 : ∀ l, xpr 252 61 l = l := xpr_no (by decide +kernel)
theorem r_252_62 : xfetch 252 62 = some (.lstore 11, 2) := by decide +kernel
theorem n_252_62 : ∀ l, xpr 252 62 l = l := xpr_no (by decide +kernel)
theorem r_252_64 : xfetch 252 64 = some (.aload_n 0, 1) := by decide +kernel
theorem n_252_64 : ∀ l, xpr 252 64 l = l := xpr_no (by decide +kernel)
theorem r_252_65 : xfetch 252 65 = some (.iload 7, 2) := by decide +kernel
theorem n_252_65 : ∀ l, xpr 252 65 l = l := xpr_no (by decide +kernel)
theorem r_252_67 : xfetch 252 67 = some (.iconst 2, 1) := by decide +kernel
theorem n_252_67 : ∀ l, xpr 252 67 l = l := xpr_no (by decide +kernel)
theorem r_252_68 : xfetch 252 68 = some (.aload_n 0, 1) := by decide +kernel
theorem n_252_68 : ∀ l, xpr 252 68 l = l := xpr_no (by decide +kernel)
theorem r_252_69 : xfetch 252 69 = some (.iload_n 1, 1) := by decide +kernel
theorem n_252_69 : ∀ l, xpr 252 69 l = l := xpr_no (by decide +kernel)
theorem r_252_70 : xfetch 252 70 = some (.iconst 3, 1) := by decide +kernel
theorem n_252_70 : ∀ l, xpr 252 70 l = l := xpr_no (by decide +kernel)
theorem r_252_71 : xfetch 252 71 = some (.invokevirtual 228, 3) := by decide +kernel
theorem n_252_71 : ∀ l, xpr 252 71 l = l := xpr_no (by decide +kernel)
theorem r_252_74 : xfetch 252 74 = some (.invokevirtual 265, 3) := by decide +kernel
theorem n_252_74 : ∀ l, xpr 252 74 l = l := xpr_no (by decide +kernel)
theorem r_252_77 : xfetch 252 77 = some (.lload 11, 2) := by decide +kernel
theorem n_252_77 : ∀ l, xpr 252 77 l = l := xpr_no (by decide +kernel)
theorem r_252_79 : xfetch 252 79 = some (.ldc2_w 272, 3) := by decide +kernel
theorem n_252_79 : ∀ l, xpr 252 79 l = l := xpr_no (by decide +kernel)
theorem r_252_82 : xfetch 252 82 = some (.lxor, 1) := by decide +kernel
theorem n_252_82 : ∀ l, xpr 252 82 l = l := xpr_no (by decide +kernel)
theorem r_252_83 : xfetch 252 83 = some (.land, 1) := by decide +kernel
theorem n_252_83 : ∀ l, xpr 252 83 l = l := xpr_no (by decide +kernel)
theorem r_252_84 : xfetch 252 84 = some (.lload 4, 2) := by decide +kernel
theorem n_252_84 : ∀ l, xpr 252 84 l = l := xpr_no (by decide +kernel)
theorem r_252_86 : xfetch 252 86 = some (.aload_n 0, 1) := by decide +kernel
theorem n_252_86 : ∀ l, xpr 252 86 l = l := xpr_no (by decide +kernel)
theorem r_252_87 : xfetch 252 87 = some (.iload_n 1, 1) := by decide +kernel
theorem n_252_87 : ∀ l, xpr 252 87 l = l := xpr_no (by decide +kernel)
theorem r_252_88 : xfetch 252 88 = some (.iload_n 3, 1) := by decide +kernel
theorem n_252_88 : ∀ l, xpr 252 88 l = l := xpr_no (by decide +kernel)
theorem r_252_89 : xfetch 252 89 = some (.invokevirtual 269, 3) := by decide +kernel
theorem n_252_89 : ∀ l, xpr 252 89 l = l := xpr_no (by decide +kernel)
theorem r_252_92 : xfetch 252 92 = some (.lshl, 1) := by decide +kernel
theorem n_252_92 : ∀ l, xpr 252 92 l = l := xpr_no (by decide +kernel)
theorem r_252_93 : xfetch 252 93 = some (.lload 11, 2) := by decide +kernel
theorem n_252_93 : ∀ l, xpr 252 93 l = l := xpr_no (by decide +kernel)
theorem r_252_95 : xfetch 252 95 = some (.land, 1) := by decide +kernel
theorem n_252_95 : ∀ l, xpr 252 95 l = l := xpr_no (by decide +kernel)
theorem r_252_96 : xfetch 252 96 = some (.lor, 1) := by decide +kernel
theorem n_252_96 : ∀ l, xpr 252 96 l = l := xpr_no (by decide +kernel)
theorem r_252_97 : xfetch 252 97 = some (.lstore 9, 2) := by decide +kernel
theorem n_252_97 : ∀ l, xpr 252 97 l = l := xpr_no (by decide +kernel)
theorem r_252_99 : xfetch 252 99 = some (.goto 24, 3) := by decide +kernel
theorem n_252_99 : ∀ l, xpr 252 99 l = l := xpr_no (by decide +kernel)
theorem r_252_102 : xfetch 252 102 = some (.iload 6, 2) := by decide +kernel
theorem n_252_102 : ∀ l, xpr 252 102 l = l := xpr_no (by decide +kernel)
theorem r_252_104 : xfetch 252 104 = some (.bipush 7, 2) := by decide +kernel
theorem n_252_104 : ∀ l, xpr 252 104 l = l := xpr_no (by decide +kernel)
theorem r_252_106 : xfetch 252 106 = some (.if_icmp .ne 17, 3) := by decide +kernel
theorem n_252_106 : ∀ l, xpr 252 106 l = l := xpr_no (by decide +kernel)
theorem r_252_109 : xfetch 252 109 = some (.lload 4, 2) := by decide +kernel
theorem n_252_109 : ∀ l, xpr 252 109 l = l := xpr_no (by decide +kernel)
theorem r_252_111 : xfetch 252 111 = some (.lconst 0, 1) := by decide +kernel
theorem n_252_111 : ∀ l, xpr 252 111 l = l := xpr_no (by decide +kernel)
theorem r_252_112 : xfetch 252 112 = some (.lcmp, 1) := by decide +kernel
theorem n_252_112 : ∀ l, xpr 252 112 l = l := xpr_no (by decide +kernel)
theorem r_252_113 : xfetch 252 113 = some (.ifCond .ne 7, 3) := by decide +kernel
theorem n_252_113 : ∀ l, xpr 252 113 l = l := xpr_no (by decide +kernel)
theorem r_252_116 : xfetch 252 116 = some (.lconst 0, 1) := by decide +kernel
theorem n_252_116 : ∀ l, xpr 252 116 l = l := xpr_no (by decide +kernel)
theorem r_252_117 : xfetch 252 117 = some (.goto 4, 3) := by decide +kernel
theorem n_252_117 : ∀ l, xpr 252 117 l = l := xpr_no (by decide +kernel)
theorem r_252_120 : xfetch 252 120 = some (.lconst 1, 1) := by decide +kernel
theorem n_252_120 : ∀ l, xpr 252 120 l = l := xpr_no (by decide +kernel)
theorem r_252_121 : xfetch 252 121 = some (.lstore 9, 2) := by decide +kernel
theorem n_252_121 : ∀ l, xpr 252 121 l = l := xpr_no (by decide +kernel)
theorem r_252_123 : xfetch 252 123 = some (.aload_n 0, 1) := by decide +kernel
theorem n_252_123 : ∀ l, xpr 252 123 l = l := xpr_no (by decide +kernel)
theorem r_252_124 : xfetch 252 124 = some (.iload 7, 2) := by decide +kernel
theorem n_252_124 : ∀ l, xpr 252 124 l = l := xpr_no (by decide +kernel)
theorem r_252_126 : xfetch 252 126 = some (.iload 8, 2) := by decide +kernel
theorem n_252_126 : ∀ l, xpr 252 126 l = l := xpr_no (by decide +kernel)
theorem r_252_128 : xfetch 252 128 = some (.aload_n 0, 1) := by decide +kernel
theorem n_252_128 : ∀ l, xpr 252 128 l = l := xpr_no (by decide +kernel)
theorem r_252_129 : xfetch 252 129 = some (.iload_n 1, 1) := by decide +kernel
theorem n_252_129 : ∀ l, xpr 252 129 l = l := xpr_no (by decide +kernel)
theorem r_252_130 : xfetch 252 130 = some (.iconst 3, 1) := by decide +kernel
theorem n_252_130 : ∀ l, xpr 252 130 l = l := xpr_no (by decide +kernel)
theorem r_252_131 : xfetch 252 131 = some (.invokevirtual 228, 3) := by decide +kernel
theorem n_252_131 : ∀ l, xpr 252 131 l = l := xpr_no (by decide +kernel)
theorem r_252_134 : xfetch 252 134 = some (.lload 9, 2) := by decide +kernel
theorem n_252_134 : ∀ l, xpr 252 134 l = l := xpr_no (by decide +kernel)
theorem r_252_136 : xfetch 252 136 = some (.invokevirtual 274, 3) := by decide +kernel
theorem n_252_136 : ∀ l, xpr 252 136 l = l := xpr_no (by decide +kernel)
theorem r_252_139 : xfetch 252 139 = some (.return_, 1) := by decide +kernel
theorem n_252_139 : ∀ l, xpr 252 139 l = l := xpr_no (by decide +kernel)
theorem v_Model_writes_0 {S : Option (Nat × (Nat → Int32))} {s : zSt} {Q : Option Value ⊕ Nat → zSt → Prop} {x1 : Int} {x2 : Int} {x3 : Int} {u4 : Int64} 
    (h : wp S 236 0 [(0, rf 252), (1, iv x1), (2, iv 0)] [] s (fun o1 s1 => zkI (fun y1 => (0 ≤ ((40 * y1) + x3) ∧ ((40 * y1) + x3) < 240) ∧ (wp S 245 0 [(0, rf 252), (1, iv x1), (2, iv x2), (3, iv x3)] [] s1 (fun o5 s5 => zkI (fun y5 => wp S 197 0 [(0, iv (zI s1 259 ((40 * y1) + x3)))] [] s5 (fun o7 s7 => zkI (fun y7 => wp S 192 0 [(0, iv (zI s1 259 ((40 * y1) + x3)))] [] s7 (fun o9 s9 => zkI (fun y9 => (y9 = 0 → ((zI s1 259 ((40 * y1) + x3)) ≠ 7 → wp S 236 0 [(0, rf 252), (1, iv x1), (2, iv 3)] [] s9 (fun o13 s13 => zkI (fun y13 => wp S 253 0 [(0, rf 252), (1, iv y5), (2, iv y7), (3, iv y13), (4, .long u4)] [] s13 (fun o15 s15 => zkU (Q rU s15) (fun e15 => False) o15)) (fun e13 => False) o13)) ∧ ((zI s1 259 ((40 * y1) + x3)) = 7 → ((zcmp u4 0) ≠ 0 → wp S 236 0 [(0, rf 252), (1, iv x1), (2, iv 3)] [] s9 (fun o18 s18 => zkI (fun y18 => wp S 253 0 [(0, rf 252), (1, iv y5), (2, iv y7), (3, iv y18), (4, .long 1)] [] s18 (fun o20 s20 => zkU (Q rU s20) (fun e20 => False) o20)) (fun e18 => False) o18)) ∧ ((zcmp u4 0) = 0 → wp S 236 0 [(0, rf 252), (1, iv x1), (2, iv 3)] [] s9 (fun o22 s22 => zkI (fun y22 => wp S 253 0 [(0, rf 252), (1, iv y5), (2, iv y7), (3, iv y22), (4, .long 0)] [] s22 (fun o24 s24 => zkU (Q rU s24) (fun e24 => False) o24)) (fun e22 => False) o22)))) ∧ (y9 ≠ 0 → wp S 250 0 [(0, rf 252), (1, iv x1), (2, iv x3)] [] s9 (fun o26 s26 => zkI (fun y26 => wp S 236 0 [(0, rf 252), (1, iv x1), (2, iv 3)] [] s26 (fun o28 s28 => zkI (fun y28 => wp S 249 0 [(0, rf 252), (1, iv y5), (2, iv 2), (3, iv y28)] [] s28 (fun o30 s30 => zkL (fun y30 => wp S 250 0 [(0, rf 252), (1, iv x1), (2, iv x3)] [] s30 (fun o32 s32 => zkI (fun y32 => wp S 236 0 [(0, rf 252), (1, iv x1), (2, iv 3)] [] s32 (fun o34 s34 => zkI (fun y34 => wp S 253 0 [(0, rf 252), (1, iv y5), (2, iv y7), (3, iv y34), (4, .long ((y30 &&& ((zshlL ((zshlL 1 ((zI s1 259 ((40 * y1) + x3)) - 20)) - 1) y26) ^^^ (-1))) ||| ((zshlL u4 y32) &&& (zshlL ((zshlL 1 ((zI s1 259 ((40 * y1) + x3)) - 20)) - 1) y26))))] [] s34 (fun o36 s36 => zkU (Q rU s36) (fun e36 => False) o36)) (fun e34 => False) o34)) (fun e32 => False) o32)) (fun e30 => False) o30)) (fun e28 => False) o28)) (fun e26 => False) o26))) (fun e9 => False) o9)) (fun e7 => False) o7)) (fun e5 => False) o5))) (fun e1 => False) o1)) :
    wp S 252 0 [(0, rf 252), (1, iv x1), (2, iv x2), (3, iv x3), (4, .long u4)] [] s Q := by
  refine i_aload_n (a := 252) r_252_0 (n_252_0 _) rfl ?_
  refine i_getR (a := 252) (b := 259) r_252_1 (n_252_1 _) rfl rfl rfl (by omega) lf_252 (by omega) ?_
  refine i_bipush r_252_4 (n_252_4 _) rfl ?_
  refine i_aload_n (a := 252) r_252_6 (n_252_6 _) rfl ?_
  refine i_iload_n (x := x1) r_252_7 (n_252_7 _) rfl ?_
  refine i_iconst r_252_8 (n_252_8 _) ?_
  refine wp_virt (b := 252) (rest := [iv 40, rf 259]) (Ls := [(0, rf 252), (1, iv x1), (2, iv 0)]) r_252_9 (n_252_9 _) rfl ⟨rfl, rfl, by decide, by decide⟩ rfl rfl lf_252 ⟨rfl, Nat.le_of_ble_eq_true rfl, Nat.le_of_ble_eq_true rfl⟩ rfl h ?_
  intro o1 s1 h
  rcases h with ⟨y1, q2, rfl, h⟩ | ⟨e1, rfl, h⟩
  · refine .inl ⟨some (iv y1), rfl, ?_⟩
    show wp S 252 12 [(0, rf 252), (1, iv x1), (2, iv x2), (3, iv x3), (4, .long u4)] [iv y1, iv 40, rf 259] s1 Q
    refine i_imul r_252_12 (n_252_12 _) ?_
    refine i_iload_n (x := x3) r_252_13 (n_252_13 _) rfl ?_
    refine i_iadd r_252_14 (n_252_14 _) ?_
    obtain ⟨g3, h⟩ := h
    refine i_iaload (a := 259) (j := (40 * y1) + x3) r_252_15 (n_252_15 _) lf_259 ⟨by omega, by omega⟩ (by omega) (by omega) (fun q4 => ?_)
    refine i_istore (l' := [(0, rf 252), (1, iv x1), (2, iv x2), (3, iv x3), (4, .long u4), (6, iv (zI s1 259 ((40 * y1) + x3)))]) r_252_16 (n_252_16 _) (by decide) rfl ?_
    refine i_aload_n (a := 252) r_252_18 (n_252_18 _) rfl ?_
    refine i_iload_n (x := x1) r_252_19 (n_252_19 _) rfl ?_
    refine i_iload_n (x := x2) r_252_20 (n_252_20 _) rfl ?_
    refine i_iload_n (x := x3) r_252_21 (n_252_21 _) rfl ?_
    refine wp_virt (b := 252) (rest := []) (Ls := [(0, rf 252), (1, iv x1), (2, iv x2), (3, iv x3)]) r_252_22 (n_252_22 _) rfl ⟨rfl, rfl, by decide, by decide⟩ rfl rfl lf_252 ⟨rfl, Nat.le_of_ble_eq_true rfl, Nat.le_of_ble_eq_true rfl⟩ rfl h ?_
    intro o5 s5 h
    rcases h with ⟨y5, q6, rfl, h⟩ | ⟨e5, rfl, h⟩
    · refine .inl ⟨some (iv y5), rfl, ?_⟩
      show wp S 252 25 [(0, rf 252), (1, iv x1), (2, iv x2), (3, iv x3), (4, .long u4), (6, iv (zI s1 259 ((40 * y1) + x3)))] [iv y5] s5 Q
      refine i_istore (l' := [(0, rf 252), (1, iv x1), (2, iv x2), (3, iv x3), (4, .long u4), (6, iv (zI s1 259 ((40 * y1) + x3))), (7, iv y5)]) r_252_25 (n_252_25 _) (by decide) rfl ?_
      refine i_iload (x := zI s1 259 ((40 * y1) + x3)) r_252_27 (n_252_27 _) rfl ?_
      refine wp_stat (rest := []) (Ls := [(0, iv (zI s1 259 ((40 * y1) + x3)))]) r_252_29 (n_252_29 _) rfl ⟨rfl, by decide, by decide, by decide⟩ rfl rfl ⟨rfl, Nat.le_of_ble_eq_true rfl, Nat.le_of_ble_eq_true rfl⟩ rfl h ?_
      intro o7 s7 h
      rcases h with ⟨y7, q8, rfl, h⟩ | ⟨e7, rfl, h⟩
      · refine .inl ⟨some (iv y7), rfl, ?_⟩
        show wp S 252 32 [(0, rf 252), (1, iv x1), (2, iv x2), (3, iv x3), (4, .long u4), (6, iv (zI s1 259 ((40 * y1) + x3))), (7, iv y5)] [iv y7] s7 Q
        refine i_istore (l' := [(0, rf 252), (1, iv x1), (2, iv x2), (3, iv x3), (4, .long u4), (6, iv (zI s1 259 ((40 * y1) + x3))), (7, iv y5), (8, iv y7)]) r_252_32 (n_252_32 _) (by decide) rfl ?_
        refine i_lload (u := u4) r_252_34 (n_252_34 _) rfl ?_
        refine i_lstore (l' := [(0, rf 252), (1, iv x1), (2, iv x2), (3, iv x3), (4, .long u4), (6, iv (zI s1 259 ((40 * y1) + x3))), (7, iv y5), (8, iv y7), (9, .long u4)]) r_252_36 (n_252_36 _) (by decide) rfl ?_
        refine i_iload (x := zI s1 259 ((40 * y1) + x3)) r_252_38 (n_252_38 _) rfl ?_
        refine wp_stat (rest := []) (Ls := [(0, iv (zI s1 259 ((40 * y1) + x3)))]) r_252_40 (n_252_40 _) rfl ⟨rfl, by decide, by decide, by decide⟩ rfl rfl ⟨rfl, Nat.le_of_ble_eq_true rfl, Nat.le_of_ble_eq_true rfl⟩ rfl h ?_
        intro o9 s9 h
        rcases h with ⟨y9, q10, rfl, h⟩ | ⟨e9, rfl, h⟩
        · refine .inl ⟨some (iv y9), rfl, ?_⟩
          show wp S 252 43 [(0, rf 252), (1, iv x1), (2, iv x2), (3, iv x3), (4, .long u4), (6, iv (zI s1 259 ((40 * y1) + x3))), (7, iv y5), (8, iv y7), (9, .long u4)] [iv y9] s9 Q
          refine i_if (t := 102) r_252_43 (n_252_43 _) rfl (T_eq q10 ⟨by omega, by omega⟩) (fun c11 => ?_) (fun c11 => ?_)
          · replace h := h.1 c11
            refine i_iload (x := zI s1 259 ((40 * y1) + x3)) r_252_102 (n_252_102 _) rfl ?_
            refine i_bipush r_252_104 (n_252_104 _) rfl ?_
            refine i_icmp (t := 123) r_252_106 (n_252_106 _) rfl (T_ne q4 ⟨by omega, by omega⟩) (fun c12 => ?_) (fun c12 => ?_)
            · replace h := h.1 c12
              refine i_aload_n (a := 252) r_252_123 (n_252_123 _) rfl ?_
              refine i_iload (x := y5) r_252_124 (n_252_124 _) rfl ?_
              refine i_iload (x := y7) r_252_126 (n_252_126 _) rfl ?_
              refine i_aload_n (a := 252) r_252_128 (n_252_128 _) rfl ?_
              refine i_iload_n (x := x1) r_252_129 (n_252_129 _) rfl ?_
              refine i_iconst r_252_130 (n_252_130 _) ?_
              refine wp_virt (b := 252) (rest := [iv y7, iv y5, rf 252]) (Ls := [(0, rf 252), (1, iv x1), (2, iv 3)]) r_252_131 (n_252_131 _) rfl ⟨rfl, rfl, by decide, by decide⟩ rfl rfl lf_252 ⟨rfl, Nat.le_of_ble_eq_true rfl, Nat.le_of_ble_eq_true rfl⟩ rfl h ?_
              intro o13 s13 h
              rcases h with ⟨y13, q14, rfl, h⟩ | ⟨e13, rfl, h⟩
              · refine .inl ⟨some (iv y13), rfl, ?_⟩
                show wp S 252 134 [(0, rf 252), (1, iv x1), (2, iv x2), (3, iv x3), (4, .long u4), (6, iv (zI s1 259 ((40 * y1) + x3))), (7, iv y5), (8, iv y7), (9, .long u4)] [iv y13, iv y7, iv y5, rf 252] s13 Q
                refine i_lload (u := u4) r_252_134 (n_252_134 _) rfl ?_
                refine wp_virt (b := 252) (rest := []) (Ls := [(0, rf 252), (1, iv y5), (2, iv y7), (3, iv y13), (4, .long u4)]) r_252_136 (n_252_136 _) rfl ⟨rfl, rfl, by decide, by decide⟩ rfl rfl lf_252 ⟨rfl, Nat.le_of_ble_eq_true rfl, Nat.le_of_ble_eq_true rfl⟩ rfl h ?_
                intro o15 s15 h
                rcases h with ⟨rfl, h⟩ | ⟨e15, rfl, h⟩
                · refine .inl ⟨none, rfl, ?_⟩
                  exact i_return r_252_139 (n_252_139 _) rfl h
                · skip
                  exact h.elim
              · skip
                exact h.elim
            · replace h := h.2 c12
              refine i_lload (u := u4) r_252_109 (n_252_109 _) rfl ?_
              refine i_lconst r_252_111 (n_252_111 _) ?_
              refine i_lcmp r_252_112 (n_252_112 _) ?_
              refine i_if (t := 120) r_252_113 (n_252_113 _) rfl (T_ne (zcmp_rng _ _) ⟨by omega, by omega⟩) (fun c17 => ?_) (fun c17 => ?_)
              · replace h := h.1 c17
                refine i_lconst r_252_120 (n_252_120 _) ?_
                refine i_lstore (l' := [(0, rf 252), (1, iv x1), (2, iv x2), (3, iv x3), (4, .long u4), (6, iv (zI s1 259 ((40 * y1) + x3))), (7, iv y5), (8, iv y7), (9, .long 1)]) r_252_121 (n_252_121 _) (by decide) rfl ?_
                refine i_aload_n (a := 252) r_252_123 (n_252_123 _) rfl ?_
                refine i_iload (x := y5) r_252_124 (n_252_124 _) rfl ?_
                refine i_iload (x := y7) r_252_126 (n_252_126 _) rfl ?_
                refine i_aload_n (a := 252) r_252_128 (n_252_128 _) rfl ?_
                refine i_iload_n (x := x1) r_252_129 (n_252_129 _) rfl ?_
                refine i_iconst r_252_130 (n_252_130 _) ?_
                refine wp_virt (b := 252) (rest := [iv y7, iv y5, rf 252]) (Ls := [(0, rf 252), (1, iv x1), (2, iv 3)]) r_252_131 (n_252_131 _) rfl ⟨rfl, rfl, by decide, by decide⟩ rfl rfl lf_252 ⟨rfl, Nat.le_of_ble_eq_true rfl, Nat.le_of_ble_eq_true rfl⟩ rfl h ?_
                intro o18 s18 h
                rcases h with ⟨y18, q19, rfl, h⟩ | ⟨e18, rfl, h⟩
                · refine .inl ⟨some (iv y18), rfl, ?_⟩
                  show wp S 252 134 [(0, rf 252), (1, iv x1), (2, iv x2), (3, iv x3), (4, .long u4), (6, iv (zI s1 259 ((40 * y1) + x3))), (7, iv y5), (8, iv y7), (9, .long 1)] [iv y18, iv y7, iv y5, rf 252] s18 Q
                  refine i_lload (u := 1) r_252_134 (n_252_134 _) rfl ?_
                  refine wp_virt (b := 252) (rest := []) (Ls := [(0, rf 252), (1, iv y5), (2, iv y7), (3, iv y18), (4, .long 1)]) r_252_136 (n_252_136 _) rfl ⟨rfl, rfl, by decide, by decide⟩ rfl rfl lf_252 ⟨rfl, Nat.le_of_ble_eq_true rfl, Nat.le_of_ble_eq_true rfl⟩ rfl h ?_
                  intro o20 s20 h
                  rcases h with ⟨rfl, h⟩ | ⟨e20, rfl, h⟩
                  · refine .inl ⟨none, rfl, ?_⟩
                    exact i_return r_252_139 (n_252_139 _) rfl h
                  · skip
                    exact h.elim
                · skip
                  exact h.elim
              · replace h := h.2 c17
                refine i_lconst r_252_116 (n_252_116 _) ?_
                refine i_goto (t := 121) r_252_117 (n_252_117 _) rfl ?_
                refine i_lstore (l' := [(0, rf 252), (1, iv x1), (2, iv x2), (3, iv x3), (4, .long u4), (6, iv (zI s1 259 ((40 * y1) + x3))), (7, iv y5), (8, iv y7), (9, .long 0)]) r_252_121 (n_252_121 _) (by decide) rfl ?_
                refine i_aload_n (a := 252) r_252_123 (n_252_123 _) rfl ?_
                refine i_iload (x := y5) r_252_124 (n_252_124 _) rfl ?_
                refine i_iload (x := y7) r_252_126 (n_252_126 _) rfl ?_
                refine i_aload_n (a := 252) r_252_128 (n_252_128 _) rfl ?_
                refine i_iload_n (x := x1) r_252_129 (n_252_129 _) rfl ?_
                refine i_iconst r_252_130 (n_252_130 _) ?_
                refine wp_virt (b := 252) (rest := [iv y7, iv y5, rf 252]) (Ls := [(0, rf 252), (1, iv x1), (2, iv 3)]) r_252_131 (n_252_131 _) rfl ⟨rfl, rfl, by decide, by decide⟩ rfl rfl lf_252 ⟨rfl, Nat.le_of_ble_eq_true rfl, Nat.le_of_ble_eq_true rfl⟩ rfl h ?_
                intro o22 s22 h
                rcases h with ⟨y22, q23, rfl, h⟩ | ⟨e22, rfl, h⟩
                · refine .inl ⟨some (iv y22), rfl, ?_⟩
                  show wp S 252 134 [(0, rf 252), (1, iv x1), (2, iv x2), (3, iv x3), (4, .long u4), (6, iv (zI s1 259 ((40 * y1) + x3))), (7, iv y5), (8, iv y7), (9, .long 0)] [iv y22, iv y7, iv y5, rf 252] s22 Q
                  refine i_lload (u := 0) r_252_134 (n_252_134 _) rfl ?_
                  refine wp_virt (b := 252) (rest := []) (Ls := [(0, rf 252), (1, iv y5), (2, iv y7), (3, iv y22), (4, .long 0)]) r_252_136 (n_252_136 _) rfl ⟨rfl, rfl, by decide, by decide⟩ rfl rfl lf_252 ⟨rfl, Nat.le_of_ble_eq_true rfl, Nat.le_of_ble_eq_true rfl⟩ rfl h ?_
                  intro o24 s24 h
                  rcases h with ⟨rfl, h⟩ | ⟨e24, rfl, h⟩
                  · refine .inl ⟨none, rfl, ?_⟩
                    exact i_return r_252_139 (n_252_139 _) rfl h
                  · skip
                    exact h.elim
                · skip
                  exact h.elim
          · replace h := h.2 c11
            refine i_lconst r_252_46 (n_252_46 _) ?_
            refine i_iload (x := zI s1 259 ((40 * y1) + x3)) r_252_47 (n_252_47 _) rfl ?_
            refine i_bipush r_252_49 (n_252_49 _) rfl ?_
            refine i_isub r_252_51 (n_252_51 _) ?_
            refine i_lshl r_252_52 (n_252_52 _) ?_
            refine i_lconst r_252_53 (n_252_53 _) ?_
            refine i_lsub r_252_54 (n_252_54 _) ?_
            refine i_aload_n (a := 252) r_252_55 (n_252_55 _) rfl ?_
            refine i_iload_n (x := x1) r_252_56 (n_252_56 _) rfl ?_
            refine i_iload_n (x := x3) r_252_57 (n_252_57 _) rfl ?_
            refine wp_virt (b := 252) (rest := [.long ((zshlL 1 ((zI s1 259 ((40 * y1) + x3)) - 20)) - 1)]) (Ls := [(0, rf 252), (1, iv x1), (2, iv x3)]) r_252_58 (n_252_58 _) rfl ⟨rfl, rfl, by decide, by decide⟩ rfl rfl lf_252 ⟨rfl, Nat.le_of_ble_eq_true rfl, Nat.le_of_ble_eq_true rfl⟩ rfl h ?_
            intro o26 s26 h
            rcases h with ⟨y26, q27, rfl, h⟩ | ⟨e26, rfl, h⟩
            · refine .inl ⟨some (iv y26), rfl, ?_⟩
              show wp S 252 61 [(0, rf 252), (1, iv x1), (2, iv x2), (3, iv x3), (4, .long u4), (6, iv (zI s1 259 ((40 * y1) + x3))), (7, iv y5), (8, iv y7), (9, .long u4)] [iv y26, .long ((zshlL 1 ((zI s1 259 ((40 * y1) + x3)) - 20)) - 1)] s26 Q
              refine i_lshl r_252_61 (n_252_61 _) ?_
              refine i_lstore (l' := [(0, rf 252), (1, iv x1), (2, iv x2), (3, iv x3), (4, .long u4), (6, iv (zI s1 259 ((40 * y1) + x3))), (7, iv y5), (8, iv y7), (9, .long u4), (11, .long (zshlL ((zshlL 1 ((zI s1 259 ((40 * y1) + x3)) - 20)) - 1) y26))]) r_252_62 (n_252_62 _) (by decide) rfl ?_
              refine i_aload_n (a := 252) r_252_64 (n_252_64 _) rfl ?_
              refine i_iload (x := y5) r_252_65 (n_252_65 _) rfl ?_
              refine i_iconst r_252_67 (n_252_67 _) ?_
              refine i_aload_n (a := 252) r_252_68 (n_252_68 _) rfl ?_
              refine i_iload_n (x := x1) r_252_69 (n_252_69 _) rfl ?_
              refine i_iconst r_252_70 (n_252_70 _) ?_
              refine wp_virt (b := 252) (rest := [iv 2, iv y5, rf 252]) (Ls := [(0, rf 252), (1, iv x1), (2, iv 3)]) r_252_71 (n_252_71 _) rfl ⟨rfl, rfl, by decide, by decide⟩ rfl rfl lf_252 ⟨rfl, Nat.le_of_ble_eq_true rfl, Nat.le_of_ble_eq_true rfl⟩ rfl h ?_
              intro o28 s28 h
              rcases h with ⟨y28, q29, rfl, h⟩ | ⟨e28, rfl, h⟩
              · refine .inl ⟨some (iv y28), rfl, ?_⟩
                show wp S 252 74 [(0, rf 252), (1, iv x1), (2, iv x2), (3, iv x3), (4, .long u4), (6, iv (zI s1 259 ((40 * y1) + x3))), (7, iv y5), (8, iv y7), (9, .long u4), (11, .long (zshlL ((zshlL 1 ((zI s1 259 ((40 * y1) + x3)) - 20)) - 1) y26))] [iv y28, iv 2, iv y5, rf 252] s28 Q
                refine wp_virt (b := 252) (rest := []) (Ls := [(0, rf 252), (1, iv y5), (2, iv 2), (3, iv y28)]) r_252_74 (n_252_74 _) rfl ⟨rfl, rfl, by decide, by decide⟩ rfl rfl lf_252 ⟨rfl, Nat.le_of_ble_eq_true rfl, Nat.le_of_ble_eq_true rfl⟩ rfl h ?_
                intro o30 s30 h
                rcases h with ⟨y30, rfl, h⟩ | ⟨e30, rfl, h⟩
                · refine .inl ⟨some (.long y30), rfl, ?_⟩
                  show wp S 252 77 [(0, rf 252), (1, iv x1), (2, iv x2), (3, iv x3), (4, .long u4), (6, iv (zI s1 259 ((40 * y1) + x3))), (7, iv y5), (8, iv y7), (9, .long u4), (11, .long (zshlL ((zshlL 1 ((zI s1 259 ((40 * y1) + x3)) - 20)) - 1) y26))] [.long y30] s30 Q
                  refine i_lload (u := zshlL ((zshlL 1 ((zI s1 259 ((40 * y1) + x3)) - 20)) - 1) y26) r_252_77 (n_252_77 _) rfl ?_
                  refine i_ldc2 r_252_79 (n_252_79 _) rfl ?_
                  refine i_lxor r_252_82 (n_252_82 _) ?_
                  refine i_land r_252_83 (n_252_83 _) ?_
                  refine i_lload (u := u4) r_252_84 (n_252_84 _) rfl ?_
                  refine i_aload_n (a := 252) r_252_86 (n_252_86 _) rfl ?_
                  refine i_iload_n (x := x1) r_252_87 (n_252_87 _) rfl ?_
                  refine i_iload_n (x := x3) r_252_88 (n_252_88 _) rfl ?_
                  refine wp_virt (b := 252) (rest := [.long u4, .long (y30 &&& ((zshlL ((zshlL 1 ((zI s1 259 ((40 * y1) + x3)) - 20)) - 1) y26) ^^^ (-1)))]) (Ls := [(0, rf 252), (1, iv x1), (2, iv x3)]) r_252_89 (n_252_89 _) rfl ⟨rfl, rfl, by decide, by decide⟩ rfl rfl lf_252 ⟨rfl, Nat.le_of_ble_eq_true rfl, Nat.le_of_ble_eq_true rfl⟩ rfl h ?_
                  intro o32 s32 h
                  rcases h with ⟨y32, q33, rfl, h⟩ | ⟨e32, rfl, h⟩
                  · refine .inl ⟨some (iv y32), rfl, ?_⟩
                    show wp S 252 92 [(0, rf 252), (1, iv x1), (2, iv x2), (3, iv x3), (4, .long u4), (6, iv (zI s1 259 ((40 * y1) + x3))), (7, iv y5), (8, iv y7), (9, .long u4), (11, .long (zshlL ((zshlL 1 ((zI s1 259 ((40 * y1) + x3)) - 20)) - 1) y26))] [iv y32, .long u4, .long (y30 &&& ((zshlL ((zshlL 1 ((zI s1 259 ((40 * y1) + x3)) - 20)) - 1) y26) ^^^ (-1)))] s32 Q
                    refine i_lshl r_252_92 (n_252_92 _) ?_
                    refine i_lload (u := zshlL ((zshlL 1 ((zI s1 259 ((40 * y1) + x3)) - 20)) - 1) y26) r_252_93 (n_252_93 _) rfl ?_
                    refine i_land r_252_95 (n_252_95 _) ?_
                    refine i_lor r_252_96 (n_252_96 _) ?_
                    refine i_lstore (l' := [(0, rf 252), (1, iv x1), (2, iv x2), (3, iv x3), (4, .long u4), (6, iv (zI s1 259 ((40 * y1) + x3))), (7, iv y5), (8, iv y7), (9, .long ((y30 &&& ((zshlL ((zshlL 1 ((zI s1 259 ((40 * y1) + x3)) - 20)) - 1) y26) ^^^ (-1))) ||| ((zshlL u4 y32) &&& (zshlL ((zshlL 1 ((zI s1 259 ((40 * y1) + x3)) - 20)) - 1) y26)))), (11, .long (zshlL ((zshlL 1 ((zI s1 259 ((40 * y1) + x3)) - 20)) - 1) y26))]) r_252_97 (n_252_97 _) (by decide) rfl ?_
                    refine i_goto (t := 123) r_252_99 (n_252_99 _) rfl ?_
                    refine i_aload_n (a := 252) r_252_123 (n_252_123 _) rfl ?_
                    refine i_iload (x := y5) r_252_124 (n_252_124 _) rfl ?_
                    refine i_iload (x := y7) r_252_126 (n_252_126 _) rfl ?_
                    refine i_aload_n (a := 252) r_252_128 (n_252_128 _) rfl ?_
                    refine i_iload_n (x := x1) r_252_129 (n_252_129 _) rfl ?_
                    refine i_iconst r_252_130 (n_252_130 _) ?_
                    refine wp_virt (b := 252) (rest := [iv y7, iv y5, rf 252]) (Ls := [(0, rf 252), (1, iv x1), (2, iv 3)]) r_252_131 (n_252_131 _) rfl ⟨rfl, rfl, by decide, by decide⟩ rfl rfl lf_252 ⟨rfl, Nat.le_of_ble_eq_true rfl, Nat.le_of_ble_eq_true rfl⟩ rfl h ?_
                    intro o34 s34 h
                    rcases h with ⟨y34, q35, rfl, h⟩ | ⟨e34, rfl, h⟩
                    · refine .inl ⟨some (iv y34), rfl, ?_⟩
                      show wp S 252 134 [(0, rf 252), (1, iv x1), (2, iv x2), (3, iv x3), (4, .long u4), (6, iv (zI s1 259 ((40 * y1) + x3))), (7, iv y5), (8, iv y7), (9, .long ((y30 &&& ((zshlL ((zshlL 1 ((zI s1 259 ((40 * y1) + x3)) - 20)) - 1) y26) ^^^ (-1))) ||| ((zshlL u4 y32) &&& (zshlL ((zshlL 1 ((zI s1 259 ((40 * y1) + x3)) - 20)) - 1) y26)))), (11, .long (zshlL ((zshlL 1 ((zI s1 259 ((40 * y1) + x3)) - 20)) - 1) y26))] [iv y34, iv y7, iv y5, rf 252] s34 Q
                      refine i_lload (u := (y30 &&& ((zshlL ((zshlL 1 ((zI s1 259 ((40 * y1) + x3)) - 20)) - 1) y26) ^^^ (-1))) ||| ((zshlL u4 y32) &&& (zshlL ((zshlL 1 ((zI s1 259 ((40 * y1) + x3)) - 20)) - 1) y26))) r_252_134 (n_252_134 _) rfl ?_
                      refine wp_virt (b := 252) (rest := []) (Ls := [(0, rf 252), (1, iv y5), (2, iv y7), (3, iv y34), (4, .long ((y30 &&& ((zshlL ((zshlL 1 ((zI s1 259 ((40 * y1) + x3)) - 20)) - 1) y26) ^^^ (-1))) ||| ((zshlL u4 y32) &&& (zshlL ((zshlL 1 ((zI s1 259 ((40 * y1) + x3)) - 20)) - 1) y26))))]) r_252_136 (n_252_136 _) rfl ⟨rfl, rfl, by decide, by decide⟩ rfl rfl lf_252 ⟨rfl, Nat.le_of_ble_eq_true rfl, Nat.le_of_ble_eq_true rfl⟩ rfl h ?_
                      intro o36 s36 h
                      rcases h with ⟨rfl, h⟩ | ⟨e36, rfl, h⟩
                      · refine .inl ⟨none, rfl, ?_⟩
                        exact i_return r_252_139 (n_252_139 _) rfl h
                      · skip
                        exact h.elim
                    · skip
                      exact h.elim
                  · skip
                    exact h.elim
                · skip
                  exact h.elim
              · skip
                exact h.elim
            · skip
              exact h.elim
        · skip
          exact h.elim
      · skip
        exact h.elim
    · skip
      exact h.elim
  · skip
    exact h.elim
theorem r_253_0 : xfetch 253 0 = some (.iconst 0, 1) := by decide +kernel
theorem n_253_0 : ∀ l, xpr 253 0 l = l := xpr_no (by decide +kernel)
theorem r_253_1 : xfetch 253 1 = some (.istore 6, 2) := by decide +kernel
theorem n_253_1 : ∀ l, xpr 253 1 l = l := xpr_no (by decide +kernel)
theorem r_253_3 : xfetch 253 3 = some (.iload 6, 2) := by decide +kernel
theorem r_253_5 : xfetch 253 5 = some (.iload_n 2, 1) := by decide +kernel
theorem n_253_5 : ∀ l, xpr 253 5 l = l := xpr_no (by decide +kernel)
theorem r_253_6 : xfetch 253 6 = some (.if_icmp .ge 54, 3) := by decide +kernel
theorem n_253_6 : ∀ l, xpr 253 6 l = l := xpr_no (by decide +kernel)
theorem r_253_9 : xfetch 253 9 = some (.iload_n 3, 1) := by decide +kernel
theorem n_253_9 : ∀ l, xpr 253 9 l = l := xpr_no (by decide +kernel)
theorem r_253_10 : xfetch 253 10 = some (.ifCond .ne 10, 3) := by decide +kernel
theorem n_253_10 : ∀ l, xpr 253 10 l = l := xpr_no (by decide +kernel)
theorem r_253_13 : xfetch 253 13 = some (.iload_n 1, 1) := by decide +kernel
theorem n_253_13 : ∀ l, xpr 253 13 l = l := xpr_no (by decide +kernel)
theorem r_253_14 : xfetch 253 14 = some (.iload 6, 2) := by decide +kernel
theorem n_253_14 : ∀ l, xpr 253 14 l = l := xpr_no (by decide +kernel)
theorem r_253_16 : xfetch 253 16 = some (.iadd, 1) := by decide +kernel
theorem n_253_16 : ∀ l, xpr 253 16 l = l := xpr_no (by decide +kernel)
theorem r_253_17 : xfetch 253 17 = some (.goto 11, 3) := by decide +kernel
theorem n_253_17 : ∀ l, xpr 253 17 l = l := xpr_no (by decide +kernel)
theorem r_253_20 : xfetch 253 20 = some (.iload_n 1, 1) := by decide +kernel
theorem n_253_20 : ∀ l, xpr 253 20 l = l := xpr_no (by decide +kernel)
theorem r_253_21 : xfetch 253 21 = some (.iload_n 2, 1) := by decide +kernel
theorem n_253_21 : ∀ l, xpr 253 21 l = l := xpr_no (by decide +kernel)
theorem r_253_22 : xfetch 253 22 = some (.iadd, 1) := by decide +kernel
theorem n_253_22 : ∀ l, xpr 253 22 l = l := xpr_no (by decide +kernel)
theorem r_253_23 : xfetch 253 23 = some (.iconst 1, 1) := by decide +kernel
theorem n_253_23 : ∀ l, xpr 253 23 l = l := xpr_no (by decide +kernel)
theorem r_253_24 : xfetch 253 24 = some (.isub, 1) := by decide +kernel
theorem n_253_24 : ∀ l, xpr 253 24 l = l := xpr_no (by decide +kernel)
theorem r_253_25 : xfetch 253 25 = some (.iload 6, 2) := by decide +kernel
theorem n_253_25 : ∀ l, xpr 253 25 l = l := xpr_no (by decide +kernel)
theorem r_253_27 : xfetch 253 27 = some (.isub, 1) := by decide +kernel
theorem n_253_27 : ∀ l, xpr 253 27 l = l := xpr_no (by decide +kernel)
theorem r_253_28 : xfetch 253 28 = some (.istore 7, 2) := by decide +kernel
theorem n_253_28 : ∀ l, xpr 253 28 l = l := xpr_no (by decide +kernel)
theorem r_253_30 : xfetch 253 30 = some (.aload_n 0, 1) := by decide +kernel
theorem n_253_30 : ∀ l, xpr 253 30 l = l := xpr_no (by decide +kernel)
theorem r_253_31 : xfetch 253 31 = some (.getfield 7, 3) := by decide +kernel
theorem n_253_31 : ∀ l, xpr 253 31 l = l := xpr_no (by decide +kernel)
theorem r_253_34 : xfetch 253 34 = some (.sipush 175, 3) := by decide +kernel
theorem n_253_34 : ∀ l, xpr 253 34 l = l := xpr_no (by decide +kernel)
theorem r_253_37 : xfetch 253 37 = some (.iload 7, 2) := by decide +kernel
theorem n_253_37 : ∀ l, xpr 253 37 l = l := xpr_no (by decide +kernel)
theorem r_253_39 : xfetch 253 39 = some (.iadd, 1) := by decide +kernel
theorem n_253_39 : ∀ l, xpr 253 39 l = l := xpr_no (by decide +kernel)
theorem r_253_40 : xfetch 253 40 = some (.lload 4, 2) := by decide +kernel
theorem n_253_40 : ∀ l, xpr 253 40 l = l := xpr_no (by decide +kernel)
theorem r_253_42 : xfetch 253 42 = some (.bipush 8, 2) := by decide +kernel
theorem n_253_42 : ∀ l, xpr 253 42 l = l := xpr_no (by decide +kernel)
theorem r_253_44 : xfetch 253 44 = some (.iload 6, 2) := by decide +kernel
theorem n_253_44 : ∀ l, xpr 253 44 l = l := xpr_no (by decide +kernel)
theorem r_253_46 : xfetch 253 46 = some (.imul, 1) := by decide +kernel
theorem n_253_46 : ∀ l, xpr 253 46 l = l := xpr_no (by decide +kernel)
theorem r_253_47 : xfetch 253 47 = some (.lshr, 1) := by decide +kernel
theorem n_253_47 : ∀ l, xpr 253 47 l = l := xpr_no (by decide +kernel)
theorem r_253_48 : xfetch 253 48 = some (.ldc2_w 263, 3) := by decide +kernel
theorem n_253_48 : ∀ l, xpr 253 48 l = l := xpr_no (by decide +kernel)
theorem r_253_51 : xfetch 253 51 = some (.land, 1) := by decide +kernel
theorem n_253_51 : ∀ l, xpr 253 51 l = l := xpr_no (by decide +kernel)
theorem r_253_52 : xfetch 253 52 = some (.l2i, 1) := by decide +kernel
theorem n_253_52 : ∀ l, xpr 253 52 l = l := xpr_no (by decide +kernel)
theorem r_253_53 : xfetch 253 53 = some (.iastore, 1) := by decide +kernel
theorem n_253_53 : ∀ l, xpr 253 53 l = l := xpr_no (by decide +kernel)
theorem r_253_54 : xfetch 253 54 = some (.iinc 6 1, 3) := by decide +kernel
theorem n_253_54 : ∀ l, xpr 253 54 l = l := xpr_no (by decide +kernel)
theorem r_253_57 : xfetch 253 57 = some (.goto (-54), 3) := by decide +kernel
theorem n_253_57 : ∀ l, xpr 253 57 l = l := xpr_no (by decide +kernel)
theorem r_253_60 : xfetch 253 60 = some (.return_, 1) := by decide +kernel
theorem n_253_60 : ∀ l, xpr 253 60 l = l := xpr_no (by decide +kernel)
theorem v_Model_puts_0 {S : Option (Nat × (Nat → Int32))} {s : zSt} {Q : Option Value ⊕ Nat → zSt → Prop} {x1 : Int} {x2 : Int} {x3 : Int} {u4 : Int64} 
    (h : wp S 253 3 [(0, rf 252), (1, iv x1), (2, iv x2), (3, iv x3), (4, .long u4), (6, iv 0)] [] s Q) :
    wp S 253 0 [(0, rf 252), (1, iv x1), (2, iv x2), (3, iv x3), (4, .long u4)] [] s Q := by
  refine i_iconst r_253_0 (n_253_0 _) ?_
  refine i_istore (l' := [(0, rf 252), (1, iv x1), (2, iv x2), (3, iv x3), (4, .long u4), (6, iv 0)]) r_253_1 (n_253_1 _) (by decide) rfl ?_
  exact wp_pr (l' := [(0, rf 252), (1, iv x1), (2, iv x2), (3, iv x3), (4, .long u4), (6, iv 0)]) rfl h
theorem v_Model_puts_3 {S : Option (Nat × (Nat → Int32))} {s : zSt} {Q : Option Value ⊕ Nat → zSt → Prop} {x1 : Int} {x2 : Int} {x3 : Int} {u4 : Int64} {x6 : Int} 
    (h : rng x6 ∧ (rng x2 ∧ ((x2 ≤ x6 → Q rU s) ∧ (x6 < x2 → rng x3 ∧ ((x3 ≠ 0 → (0 ≤ (175 + (((x1 + x2) - 1) - x6)) ∧ (175 + (((x1 + x2) - 1) - x6)) < 1199) ∧ (wp S 253 3 [(0, rf 252), (1, iv x1), (2, iv x2), (3, iv x3), (4, .long u4), (6, iv (x6 + 1))] [] (zwI s 253 (175 + (((x1 + x2) - 1) - x6)) (zl2i ((zshrL u4 (8 * x6)) &&& 255))) Q)) ∧ (x3 = 0 → (0 ≤ (175 + (x1 + x6)) ∧ (175 + (x1 + x6)) < 1199) ∧ (wp S 253 3 [(0, rf 252), (1, iv x1), (2, iv x2), (3, iv x3), (4, .long u4), (6, iv (x6 + 1))] [] (zwI s 253 (175 + (x1 + x6)) (zl2i ((zshrL u4 (8 * x6)) &&& 255))) Q))))))) :
    wp S 253 3 [(0, rf 252), (1, iv x1), (2, iv x2), (3, iv x3), (4, .long u4), (6, iv x6)] [] s Q := by
  refine i_iload (x := x6) r_253_3 rfl rfl ?_
  refine i_iload_n (x := x2) r_253_5 (n_253_5 _) rfl ?_
  obtain ⟨g1, h⟩ := h
  obtain ⟨g2, h⟩ := h
  refine i_icmp (t := 60) r_253_6 (n_253_6 _) rfl (T_ge g1 g2) (fun c3 => ?_) (fun c3 => ?_)
  · replace h := h.1 c3
    exact i_return r_253_60 (n_253_60 _) rfl h
  · replace h := h.2 c3
    refine i_iload_n (x := x3) r_253_9 (n_253_9 _) rfl ?_
    obtain ⟨g4, h⟩ := h
    refine i_if (t := 20) r_253_10 (n_253_10 _) rfl (T_ne g4 ⟨by omega, by omega⟩) (fun c5 => ?_) (fun c5 => ?_)
    · replace h := h.1 c5
      refine i_iload_n (x := x1) r_253_20 (n_253_20 _) rfl ?_
      refine i_iload_n (x := x2) r_253_21 (n_253_21 _) rfl ?_
      refine i_iadd r_253_22 (n_253_22 _) ?_
      refine i_iconst r_253_23 (n_253_23 _) ?_
      refine i_isub r_253_24 (n_253_24 _) ?_
      refine i_iload (x := x6) r_253_25 (n_253_25 _) rfl ?_
      refine i_isub r_253_27 (n_253_27 _) ?_
      refine i_istore (l' := [(0, rf 252), (1, iv x1), (2, iv x2), (3, iv x3), (4, .long u4), (6, iv x6), (7, iv (((x1 + x2) - 1) - x6))]) r_253_28 (n_253_28 _) (by decide) rfl ?_
      refine i_aload_n (a := 252) r_253_30 (n_253_30 _) rfl ?_
      refine i_getR (a := 252) (b := 253) r_253_31 (n_253_31 _) rfl rfl rfl (by omega) lf_252 (by omega) ?_
      refine i_sipush r_253_34 (n_253_34 _) rfl ?_
      refine i_iload (x := ((x1 + x2) - 1) - x6) r_253_37 (n_253_37 _) rfl ?_
      refine i_iadd r_253_39 (n_253_39 _) ?_
      refine i_lload (u := u4) r_253_40 (n_253_40 _) rfl ?_
      refine i_bipush r_253_42 (n_253_42 _) rfl ?_
      refine i_iload (x := x6) r_253_44 (n_253_44 _) rfl ?_
      refine i_imul r_253_46 (n_253_46 _) ?_
      refine i_lshr r_253_47 (n_253_47 _) ?_
      refine i_ldc2 r_253_48 (n_253_48 _) rfl ?_
      refine i_land r_253_51 (n_253_51 _) ?_
      refine i_l2i r_253_52 (n_253_52 _) ?_
      obtain ⟨g6, h⟩ := h
      refine i_iastore (a := 253) (j := 175 + (((x1 + x2) - 1) - x6)) (x := zl2i ((zshrL u4 (8 * x6)) &&& 255)) r_253_53 (n_253_53 _) lf_253 ⟨by omega, by omega⟩ (by omega) (by omega) (rng_to _) ?_
      refine i_iinc (x := x6) (l' := [(0, rf 252), (1, iv x1), (2, iv x2), (3, iv x3), (4, .long u4), (6, iv (x6 + 1)), (7, iv (((x1 + x2) - 1) - x6))]) r_253_54 (n_253_54 _) (by decide) rfl rfl ?_
      refine i_goto (t := 3) r_253_57 (n_253_57 _) rfl ?_
      exact wp_pr (l' := [(0, rf 252), (1, iv x1), (2, iv x2), (3, iv x3), (4, .long u4), (6, iv (x6 + 1))]) rfl h
    · replace h := h.2 c5
      refine i_iload_n (x := x1) r_253_13 (n_253_13 _) rfl ?_
      refine i_iload (x := x6) r_253_14 (n_253_14 _) rfl ?_
      refine i_iadd r_253_16 (n_253_16 _) ?_
      refine i_goto (t := 28) r_253_17 (n_253_17 _) rfl ?_
      refine i_istore (l' := [(0, rf 252), (1, iv x1), (2, iv x2), (3, iv x3), (4, .long u4), (6, iv x6), (7, iv (x1 + x6))]) r_253_28 (n_253_28 _) (by decide) rfl ?_
      refine i_aload_n (a := 252) r_253_30 (n_253_30 _) rfl ?_
      refine i_getR (a := 252) (b := 253) r_253_31 (n_253_31 _) rfl rfl rfl (by omega) lf_252 (by omega) ?_
      refine i_sipush r_253_34 (n_253_34 _) rfl ?_
      refine i_iload (x := x1 + x6) r_253_37 (n_253_37 _) rfl ?_
      refine i_iadd r_253_39 (n_253_39 _) ?_
      refine i_lload (u := u4) r_253_40 (n_253_40 _) rfl ?_
      refine i_bipush r_253_42 (n_253_42 _) rfl ?_
      refine i_iload (x := x6) r_253_44 (n_253_44 _) rfl ?_
      refine i_imul r_253_46 (n_253_46 _) ?_
      refine i_lshr r_253_47 (n_253_47 _) ?_
      refine i_ldc2 r_253_48 (n_253_48 _) rfl ?_
      refine i_land r_253_51 (n_253_51 _) ?_
      refine i_l2i r_253_52 (n_253_52 _) ?_
      obtain ⟨g7, h⟩ := h
      refine i_iastore (a := 253) (j := 175 + (x1 + x6)) (x := zl2i ((zshrL u4 (8 * x6)) &&& 255)) r_253_53 (n_253_53 _) lf_253 ⟨by omega, by omega⟩ (by omega) (by omega) (rng_to _) ?_
      refine i_iinc (x := x6) (l' := [(0, rf 252), (1, iv x1), (2, iv x2), (3, iv x3), (4, .long u4), (6, iv (x6 + 1)), (7, iv (x1 + x6))]) r_253_54 (n_253_54 _) (by decide) rfl rfl ?_
      refine i_goto (t := 3) r_253_57 (n_253_57 _) rfl ?_
      exact wp_pr (l' := [(0, rf 252), (1, iv x1), (2, iv x2), (3, iv x3), (4, .long u4), (6, iv (x6 + 1))]) rfl h
theorem r_254_0 : xfetch 254 0 = some (.aload_n 0, 1) := by decide +kernel
theorem n_254_0 : ∀ l, xpr 254 0 l = l := xpr_no (by decide +kernel)
theorem r_254_1 : xfetch 254 1 = some (.aload_n 0, 1) := by decide +kernel
theorem n_254_1 : ∀ l, xpr 254 1 l = l := xpr_no (by decide +kernel)
theorem r_254_2 : xfetch 254 2 = some (.iload_n 1, 1) := by decide +kernel
theorem n_254_2 : ∀ l, xpr 254 2 l = l := xpr_no (by decide +kernel)
theorem r_254_3 : xfetch 254 3 = some (.iconst 0, 1) := by decide +kernel
theorem n_254_3 : ∀ l, xpr 254 3 l = l := xpr_no (by decide +kernel)
theorem r_254_4 : xfetch 254 4 = some (.sipush 1023, 3) := by decide +kernel
theorem n_254_4 : ∀ l, xpr 254 4 l = l := xpr_no (by decide +kernel)
theorem r_254_7 : xfetch 254 7 = some (.invokestatic 88, 3) := by decide +kernel
theorem n_254_7 : ∀ l, xpr 254 7 l = l := xpr_no (by decide +kernel)
theorem r_254_10 : xfetch 254 10 = some (.invokevirtual 175, 3) := by decide +kernel
theorem n_254_10 : ∀ l, xpr 254 10 l = l := xpr_no (by decide +kernel)
theorem r_254_13 : xfetch 254 13 = some (.invokevirtual 84, 3) := by decide +kernel
theorem n_254_13 : ∀ l, xpr 254 13 l = l := xpr_no (by decide +kernel)
theorem r_254_16 : xfetch 254 16 = some (.ifCond .eq 7, 3) := by decide +kernel
theorem n_254_16 : ∀ l, xpr 254 16 l = l := xpr_no (by decide +kernel)
theorem r_254_19 : xfetch 254 19 = some (.iconst 0, 1) := by decide +kernel
theorem n_254_19 : ∀ l, xpr 254 19 l = l := xpr_no (by decide +kernel)
theorem r_254_20 : xfetch 254 20 = some (.goto 13, 3) := by decide +kernel
theorem n_254_20 : ∀ l, xpr 254 20 l = l := xpr_no (by decide +kernel)
theorem r_254_23 : xfetch 254 23 = some (.aload_n 0, 1) := by decide +kernel
theorem n_254_23 : ∀ l, xpr 254 23 l = l := xpr_no (by decide +kernel)
theorem r_254_24 : xfetch 254 24 = some (.getfield 7, 3) := by decide +kernel
theorem n_254_24 : ∀ l, xpr 254 24 l = l := xpr_no (by decide +kernel)
theorem r_254_27 : xfetch 254 27 = some (.sipush 175, 3) := by decide +kernel
theorem n_254_27 : ∀ l, xpr 254 27 l = l := xpr_no (by decide +kernel)
theorem r_254_30 : xfetch 254 30 = some (.iload_n 1, 1) := by decide +kernel
theorem n_254_30 : ∀ l, xpr 254 30 l = l := xpr_no (by decide +kernel)
theorem r_254_31 : xfetch 254 31 = some (.iadd, 1) := by decide +kernel
theorem n_254_31 : ∀ l, xpr 254 31 l = l := xpr_no (by decide +kernel)
theorem r_254_32 : xfetch 254 32 = some (.iaload, 1) := by decide +kernel
theorem n_254_32 : ∀ l, xpr 254 32 l = l := xpr_no (by decide +kernel)
theorem r_254_33 : xfetch 254 33 = some (.ireturn, 1) := by decide +kernel
theorem n_254_33 : ∀ l, xpr 254 33 l = l := xpr_no (by decide +kernel)
theorem v_Model_memory_0 {S : Option (Nat × (Nat → Int32))} {s : zSt} {Q : Option Value ⊕ Nat → zSt → Prop} {x1 : Int} 
    (h : wp S 187 0 [(0, iv x1), (1, iv 0), (2, iv 1023)] [] s (fun o1 s1 => zkI (fun y1 => wp S 213 0 [(0, rf 252), (1, iv y1)] [] s1 (fun o3 s3 => zkI (fun y3 => wp S 179 0 [(0, rf 252), (1, iv y3)] [] s3 (fun o5 s5 => zkI (fun y5 => (y5 = 0 → (0 ≤ (175 + x1) ∧ (175 + x1) < 1199) ∧ (Q (rI (zI s5 253 (175 + x1))) s5)) ∧ (y5 ≠ 0 → Q (rI 0) s5)) (fun e5 => False) o5)) (fun e3 => False) o3)) (fun e1 => False) o1)) :
    wp S 254 0 [(0, rf 252), (1, iv x1)] [] s Q := by
  refine i_aload_n (a := 252) r_254_0 (n_254_0 _) rfl ?_
  refine i_aload_n (a := 252) r_254_1 (n_254_1 _) rfl ?_
  refine i_iload_n (x := x1) r_254_2 (n_254_2 _) rfl ?_
  refine i_iconst r_254_3 (n_254_3 _) ?_
  refine i_sipush r_254_4 (n_254_4 _) rfl ?_
  refine wp_stat (rest := [rf 252, rf 252]) (Ls := [(0, iv x1), (1, iv 0), (2, iv 1023)]) r_254_7 (n_254_7 _) rfl ⟨rfl, by decide, by decide, by decide⟩ rfl rfl ⟨rfl, Nat.le_of_ble_eq_true rfl, Nat.le_of_ble_eq_true rfl⟩ rfl h ?_
  intro o1 s1 h
  rcases h with ⟨y1, q2, rfl, h⟩ | ⟨e1, rfl, h⟩
  · refine .inl ⟨some (iv y1), rfl, ?_⟩
    show wp S 254 10 [(0, rf 252), (1, iv x1)] [iv y1, rf 252, rf 252] s1 Q
    refine wp_virt (b := 252) (rest := [rf 252]) (Ls := [(0, rf 252), (1, iv y1)]) r_254_10 (n_254_10 _) rfl ⟨rfl, rfl, by decide, by decide⟩ rfl rfl lf_252 ⟨rfl, Nat.le_of_ble_eq_true rfl, Nat.le_of_ble_eq_true rfl⟩ rfl h ?_
    intro o3 s3 h
    rcases h with ⟨y3, q4, rfl, h⟩ | ⟨e3, rfl, h⟩
    · refine .inl ⟨some (iv y3), rfl, ?_⟩
      show wp S 254 13 [(0, rf 252), (1, iv x1)] [iv y3, rf 252] s3 Q
      refine wp_virt (b := 252) (rest := []) (Ls := [(0, rf 252), (1, iv y3)]) r_254_13 (n_254_13 _) rfl ⟨rfl, rfl, by decide, by decide⟩ rfl rfl lf_252 ⟨rfl, Nat.le_of_ble_eq_true rfl, Nat.le_of_ble_eq_true rfl⟩ rfl h ?_
      intro o5 s5 h
      rcases h with ⟨y5, q6, rfl, h⟩ | ⟨e5, rfl, h⟩
      · refine .inl ⟨some (iv y5), rfl, ?_⟩
        show wp S 254 16 [(0, rf 252), (1, iv x1)] [iv y5] s5 Q
        refine i_if (t := 23) r_254_16 (n_254_16 _) rfl (T_eq q6 ⟨by omega, by omega⟩) (fun c7 => ?_) (fun c7 => ?_)
        · replace h := h.1 c7
          refine i_aload_n (a := 252) r_254_23 (n_254_23 _) rfl ?_
          refine i_getR (a := 252) (b := 253) r_254_24 (n_254_24 _) rfl rfl rfl (by omega) lf_252 (by omega) ?_
          refine i_sipush r_254_27 (n_254_27 _) rfl ?_
          refine i_iload_n (x := x1) r_254_30 (n_254_30 _) rfl ?_
          refine i_iadd r_254_31 (n_254_31 _) ?_
          obtain ⟨g8, h⟩ := h
          refine i_iaload (a := 253) (j := 175 + x1) r_254_32 (n_254_32 _) lf_253 ⟨by omega, by omega⟩ (by omega) (by omega) (fun q9 => ?_)
          exact i_ireturn r_254_33 (n_254_33 _) rfl h
        · replace h := h.2 c7
          refine i_iconst r_254_19 (n_254_19 _) ?_
          refine i_goto (t := 33) r_254_20 (n_254_20 _) rfl ?_
          exact i_ireturn r_254_33 (n_254_33 _) rfl h
      · skip
        exact h.elim
    · skip
      exact h.elim
  · skip
    exact h.elim
theorem r_255_0 : xfetch 255 0 = some (.aload_n 0, 1) := by decide +kernel
theorem n_255_0 : ∀ l, xpr 255 0 l = l := xpr_no (by decide +kernel)
theorem r_255_1 : xfetch 255 1 = some (.iload_n 1, 1) := by decide +kernel
theorem n_255_1 : ∀ l, xpr 255 1 l = l := xpr_no (by decide +kernel)
theorem r_255_2 : xfetch 255 2 = some (.iconst 0, 1) := by decide +kernel
theorem n_255_2 : ∀ l, xpr 255 2 l = l := xpr_no (by decide +kernel)
theorem r_255_3 : xfetch 255 3 = some (.sipush 1023, 3) := by decide +kernel
theorem n_255_3 : ∀ l, xpr 255 3 l = l := xpr_no (by decide +kernel)
theorem r_255_6 : xfetch 255 6 = some (.invokestatic 88, 3) := by decide +kernel
theorem n_255_6 : ∀ l, xpr 255 6 l = l := xpr_no (by decide +kernel)
theorem r_255_9 : xfetch 255 9 = some (.ifCond .ne 7, 3) := by decide +kernel
theorem n_255_9 : ∀ l, xpr 255 9 l = l := xpr_no (by decide +kernel)
theorem r_255_12 : xfetch 255 12 = some (.iconst 1, 1) := by decide +kernel
theorem n_255_12 : ∀ l, xpr 255 12 l = l := xpr_no (by decide +kernel)
theorem r_255_13 : xfetch 255 13 = some (.goto 19, 3) := by decide +kernel
theorem n_255_13 : ∀ l, xpr 255 13 l = l := xpr_no (by decide +kernel)
theorem r_255_16 : xfetch 255 16 = some (.iload_n 2, 1) := by decide +kernel
theorem n_255_16 : ∀ l, xpr 255 16 l = l := xpr_no (by decide +kernel)
theorem r_255_17 : xfetch 255 17 = some (.iconst 0, 1) := by decide +kernel
theorem n_255_17 : ∀ l, xpr 255 17 l = l := xpr_no (by decide +kernel)
theorem r_255_18 : xfetch 255 18 = some (.sipush 255, 3) := by decide +kernel
theorem n_255_18 : ∀ l, xpr 255 18 l = l := xpr_no (by decide +kernel)
theorem r_255_21 : xfetch 255 21 = some (.invokestatic 88, 3) := by decide +kernel
theorem n_255_21 : ∀ l, xpr 255 21 l = l := xpr_no (by decide +kernel)
theorem r_255_24 : xfetch 255 24 = some (.ifCond .ne 7, 3) := by decide +kernel
theorem n_255_24 : ∀ l, xpr 255 24 l = l := xpr_no (by decide +kernel)
theorem r_255_27 : xfetch 255 27 = some (.iconst 2, 1) := by decide +kernel
theorem n_255_27 : ∀ l, xpr 255 27 l = l := xpr_no (by decide +kernel)
theorem r_255_28 : xfetch 255 28 = some (.goto 4, 3) := by decide +kernel
theorem n_255_28 : ∀ l, xpr 255 28 l = l := xpr_no (by decide +kernel)
theorem r_255_31 : xfetch 255 31 = some (.iconst 0, 1) := by decide +kernel
theorem n_255_31 : ∀ l, xpr 255 31 l = l := xpr_no (by decide +kernel)
theorem r_255_32 : xfetch 255 32 = some (.invokevirtual 84, 3) := by decide +kernel
theorem n_255_32 : ∀ l, xpr 255 32 l = l := xpr_no (by decide +kernel)
theorem r_255_35 : xfetch 255 35 = some (.ifCond .eq 5, 3) := by decide +kernel
theorem n_255_35 : ∀ l, xpr 255 35 l = l := xpr_no (by decide +kernel)
theorem r_255_38 : xfetch 255 38 = some (.iconst 0, 1) := by decide +kernel
theorem n_255_38 : ∀ l, xpr 255 38 l = l := xpr_no (by decide +kernel)
theorem r_255_39 : xfetch 255 39 = some (.ireturn, 1) := by decide +kernel
theorem n_255_39 : ∀ l, xpr 255 39 l = l := xpr_no (by decide +kernel)
theorem r_255_40 : xfetch 255 40 = some (.aload_n 0, 1) := by decide +kernel
theorem n_255_40 : ∀ l, xpr 255 40 l = l := xpr_no (by decide +kernel)
theorem r_255_41 : xfetch 255 41 = some (.invokevirtual 135, 3) := by decide +kernel
theorem n_255_41 : ∀ l, xpr 255 41 l = l := xpr_no (by decide +kernel)
theorem r_255_44 : xfetch 255 44 = some (.aload_n 0, 1) := by decide +kernel
theorem n_255_44 : ∀ l, xpr 255 44 l = l := xpr_no (by decide +kernel)
theorem r_255_45 : xfetch 255 45 = some (.getfield 7, 3) := by decide +kernel
theorem n_255_45 : ∀ l, xpr 255 45 l = l := xpr_no (by decide +kernel)
theorem r_255_48 : xfetch 255 48 = some (.sipush 175, 3) := by decide +kernel
theorem n_255_48 : ∀ l, xpr 255 48 l = l := xpr_no (by decide +kernel)
theorem r_255_51 : xfetch 255 51 = some (.iload_n 1, 1) := by decide +kernel
theorem n_255_51 : ∀ l, xpr 255 51 l = l := xpr_no (by decide +kernel)
theorem r_255_52 : xfetch 255 52 = some (.iadd, 1) := by decide +kernel
theorem n_255_52 : ∀ l, xpr 255 52 l = l := xpr_no (by decide +kernel)
theorem r_255_53 : xfetch 255 53 = some (.iaload, 1) := by decide +kernel
theorem n_255_53 : ∀ l, xpr 255 53 l = l := xpr_no (by decide +kernel)
theorem r_255_54 : xfetch 255 54 = some (.istore_n 3, 1) := by decide +kernel
theorem n_255_54 : ∀ l, xpr 255 54 l = l := xpr_no (by decide +kernel)
theorem r_255_55 : xfetch 255 55 = some (.aload_n 0, 1) := by decide +kernel
theorem n_255_55 : ∀ l, xpr 255 55 l = l := xpr_no (by decide +kernel)
theorem r_255_56 : xfetch 255 56 = some (.getfield 7, 3) := by decide +kernel
theorem n_255_56 : ∀ l, xpr 255 56 l = l := xpr_no (by decide +kernel)
theorem r_255_59 : xfetch 255 59 = some (.sipush 175, 3) := by decide +kernel
theorem n_255_59 : ∀ l, xpr 255 59 l = l := xpr_no (by decide +kernel)
theorem r_255_62 : xfetch 255 62 = some (.iload_n 1, 1) := by decide +kernel
theorem n_255_62 : ∀ l, xpr 255 62 l = l := xpr_no (by decide +kernel)
theorem r_255_63 : xfetch 255 63 = some (.iadd, 1) := by decide +kernel
theorem n_255_63 : ∀ l, xpr 255 63 l = l := xpr_no (by decide +kernel)
theorem r_255_64 : xfetch 255 64 = some (.iload_n 2, 1) := by decide +kernel
theorem n_255_64 : ∀ l, xpr 255 64 l = l := xpr_no (by decide +kernel)
theorem r_255_65 : xfetch 255 65 = some (.iastore, 1) := by decide +kernel
theorem n_255_65 : ∀ l, xpr 255 65 l = l := xpr_no (by decide +kernel)
theorem r_255_66 : xfetch 255 66 = some (.iload_n 3, 1) := by decide +kernel
theorem n_255_66 : ∀ l, xpr 255 66 l = l := xpr_no (by decide +kernel)
theorem r_255_67 : xfetch 255 67 = some (.ireturn, 1) := by decide +kernel
theorem n_255_67 : ∀ l, xpr 255 67 l = l := xpr_no (by decide +kernel)
theorem v_Model_poke_0 {S : Option (Nat × (Nat → Int32))} {s : zSt} {Q : Option Value ⊕ Nat → zSt → Prop} {x1 : Int} {x2 : Int} 
    (h : wp S 187 0 [(0, iv x1), (1, iv 0), (2, iv 1023)] [] s (fun o1 s1 => zkI (fun y1 => (y1 ≠ 0 → wp S 187 0 [(0, iv x2), (1, iv 0), (2, iv 255)] [] s1 (fun o4 s4 => zkI (fun y4 => (y4 ≠ 0 → wp S 179 0 [(0, rf 252), (1, iv 0)] [] s4 (fun o7 s7 => zkI (fun y7 => (y7 = 0 → wp S 182 0 [(0, rf 252)] [] s7 (fun o10 s10 => zkU ((0 ≤ (175 + x1) ∧ (175 + x1) < 1199) ∧ (rng x2 ∧ (Q (rI (zI s10 253 (175 + x1))) (zwI s10 253 (175 + x1) x2)))) (fun e10 => False) o10)) ∧ (y7 ≠ 0 → Q (rI 0) s7)) (fun e7 => False) o7)) ∧ (y4 = 0 → wp S 179 0 [(0, rf 252), (1, iv 2)] [] s4 (fun o15 s15 => zkI (fun y15 => (y15 = 0 → wp S 182 0 [(0, rf 252)] [] s15 (fun o18 s18 => zkU ((0 ≤ (175 + x1) ∧ (175 + x1) < 1199) ∧ (rng x2 ∧ (Q (rI (zI s18 253 (175 + x1))) (zwI s18 253 (175 + x1) x2)))) (fun e18 => False) o18)) ∧ (y15 ≠ 0 → Q (rI 0) s15)) (fun e15 => False) o15))) (fun e4 => False) o4)) ∧ (y1 = 0 → wp S 179 0 [(0, rf 252), (1, iv 1)] [] s1 (fun o23 s23 => zkI (fun y23 => (y23 = 0 → wp S 182 0 [(0, rf 252)] [] s23 (fun o26 s26 => zkU ((0 ≤ (175 + x1) ∧ (175 + x1) < 1199) ∧ (rng x2 ∧ (Q (rI (zI s26 253 (175 + x1))) (zwI s26 253 (175 + x1) x2)))) (fun e26 => False) o26)) ∧ (y23 ≠ 0 → Q (rI 0) s23)) (fun e23 => False) o23))) (fun e1 => False) o1)) :
    wp S 255 0 [(0, rf 252), (1, iv x1), (2, iv x2)] [] s Q := by
  refine i_aload_n (a := 252) r_255_0 (n_255_0 _) rfl ?_
  refine i_iload_n (x := x1) r_255_1 (n_255_1 _) rfl ?_
  refine i_iconst r_255_2 (n_255_2 _) ?_
  refine i_sipush r_255_3 (n_255_3 _) rfl ?_
  refine wp_stat (rest := [rf 252]) (Ls := [(0, iv x1), (1, iv 0), (2, iv 1023)]) r_255_6 (n_255_6 _) rfl ⟨rfl, by decide, by decide, by decide⟩ rfl rfl ⟨rfl, Nat.le_of_ble_eq_true rfl, Nat.le_of_ble_eq_true rfl⟩ rfl h ?_
  intro o1 s1 h
  rcases h with ⟨y1, q2, rfl, h⟩ | ⟨e1, rfl, h⟩
  · refine .inl ⟨some (iv y1), rfl, ?_⟩
    show wp S 255 9 [(0, rf 252), (1, iv x1), (2, iv x2)] [iv y1, rf 252] s1 Q
    refine i_if (t := 16) r_255_9 (n_255_9 _) rfl (T_ne q2 ⟨by omega, by omega⟩) (fun c3 => ?_) (fun c3 => ?_)
    · replace h := h.1 c3
      refine i_iload_n (x := x2) r_255_16 (n_255_16 _) rfl ?_
      refine i_iconst r_255_17 (n_255_17 _) ?_
      refine i_sipush r_255_18 (n_255_18 _) rfl ?_
      refine wp_stat (rest := [rf 252]) (Ls := [(0, iv x2), (1, iv 0), (2, iv 255)]) r_255_21 (n_255_21 _) rfl ⟨rfl, by decide, by decide, by decide⟩ rfl rfl ⟨rfl, Nat.le_of_ble_eq_true rfl, Nat.le_of_ble_eq_true rfl⟩ rfl h ?_
      intro o4 s4 h
      rcases h with ⟨y4, q5, rfl, h⟩ | ⟨e4, rfl, h⟩
      · refine .inl ⟨some (iv y4), rfl, ?_⟩
        show wp S 255 24 [(0, rf 252), (1, iv x1), (2, iv x2)] [iv y4, rf 252] s4 Q
        refine i_if (t := 31) r_255_24 (n_255_24 _) rfl (T_ne q5 ⟨by omega, by omega⟩) (fun c6 => ?_) (fun c6 => ?_)
        · replace h := h.1 c6
          refine i_iconst r_255_31 (n_255_31 _) ?_
          refine wp_virt (b := 252) (rest := []) (Ls := [(0, rf 252), (1, iv 0)]) r_255_32 (n_255_32 _) rfl ⟨rfl, rfl, by decide, by decide⟩ rfl rfl lf_252 ⟨rfl, Nat.le_of_ble_eq_true rfl, Nat.le_of_ble_eq_true rfl⟩ rfl h ?_
          intro o7 s7 h
          rcases h with ⟨y7, q8, rfl, h⟩ | ⟨e7, rfl, h⟩
          · refine .inl ⟨some (iv y7), rfl, ?_⟩
            show wp S 255 35 [(0, rf 252), (1, iv x1), (2, iv x2)] [iv y7] s7 Q
            refine i_if (t := 40) r_255_35 (n_255_35 _) rfl (T_eq q8 ⟨by omega, by omega⟩) (fun c9 => ?_) (fun c9 => ?_)
            · replace h := h.1 c9
              refine i_aload_n (a := 252) r_255_40 (n_255_40 _) rfl ?_
              refine wp_virt (b := 252) (rest := []) (Ls := [(0, rf 252)]) r_255_41 (n_255_41 _) rfl ⟨rfl, rfl, by decide, by decide⟩ rfl rfl lf_252 ⟨rfl, Nat.le_of_ble_eq_true rfl, Nat.le_of_ble_eq_true rfl⟩ rfl h ?_
              intro o10 s10 h
              rcases h with ⟨rfl, h⟩ | ⟨e10, rfl, h⟩
              · refine .inl ⟨none, rfl, ?_⟩
                refine i_aload_n (a := 252) r_255_44 (n_255_44 _) rfl ?_
                refine i_getR (a := 252) (b := 253) r_255_45 (n_255_45 _) rfl rfl rfl (by omega) lf_252 (by omega) ?_
                refine i_sipush r_255_48 (n_255_48 _) rfl ?_
                refine i_iload_n (x := x1) r_255_51 (n_255_51 _) rfl ?_
                refine i_iadd r_255_52 (n_255_52 _) ?_
                obtain ⟨g12, h⟩ := h
                refine i_iaload (a := 253) (j := 175 + x1) r_255_53 (n_255_53 _) lf_253 ⟨by omega, by omega⟩ (by omega) (by omega) (fun q13 => ?_)
                refine i_istore_n (l' := [(0, rf 252), (1, iv x1), (2, iv x2), (3, iv (zI s10 253 (175 + x1)))]) r_255_54 (n_255_54 _) (by decide) rfl ?_
                refine i_aload_n (a := 252) r_255_55 (n_255_55 _) rfl ?_
                refine i_getR (a := 252) (b := 253) r_255_56 (n_255_56 _) rfl rfl rfl (by omega) lf_252 (by omega) ?_
                refine i_sipush r_255_59 (n_255_59 _) rfl ?_
                refine i_iload_n (x := x1) r_255_62 (n_255_62 _) rfl ?_
                refine i_iadd r_255_63 (n_255_63 _) ?_
                refine i_iload_n (x := x2) r_255_64 (n_255_64 _) rfl ?_
                obtain ⟨g14, h⟩ := h
                refine i_iastore (a := 253) (j := 175 + x1) (x := x2) r_255_65 (n_255_65 _) lf_253 ⟨by omega, by omega⟩ (by omega) (by omega) g14 ?_
                refine i_iload_n (x := zI s10 253 (175 + x1)) r_255_66 (n_255_66 _) rfl ?_
                exact i_ireturn r_255_67 (n_255_67 _) rfl h
              · skip
                exact h.elim
            · replace h := h.2 c9
              refine i_iconst r_255_38 (n_255_38 _) ?_
              exact i_ireturn r_255_39 (n_255_39 _) rfl h
          · skip
            exact h.elim
        · replace h := h.2 c6
          refine i_iconst r_255_27 (n_255_27 _) ?_
          refine i_goto (t := 32) r_255_28 (n_255_28 _) rfl ?_
          refine wp_virt (b := 252) (rest := []) (Ls := [(0, rf 252), (1, iv 2)]) r_255_32 (n_255_32 _) rfl ⟨rfl, rfl, by decide, by decide⟩ rfl rfl lf_252 ⟨rfl, Nat.le_of_ble_eq_true rfl, Nat.le_of_ble_eq_true rfl⟩ rfl h ?_
          intro o15 s15 h
          rcases h with ⟨y15, q16, rfl, h⟩ | ⟨e15, rfl, h⟩
          · refine .inl ⟨some (iv y15), rfl, ?_⟩
            show wp S 255 35 [(0, rf 252), (1, iv x1), (2, iv x2)] [iv y15] s15 Q
            refine i_if (t := 40) r_255_35 (n_255_35 _) rfl (T_eq q16 ⟨by omega, by omega⟩) (fun c17 => ?_) (fun c17 => ?_)
            · replace h := h.1 c17
              refine i_aload_n (a := 252) r_255_40 (n_255_40 _) rfl ?_
              refine wp_virt (b := 252) (rest := []) (Ls := [(0, rf 252)]) r_255_41 (n_255_41 _) rfl ⟨rfl, rfl, by decide, by decide⟩ rfl rfl lf_252 ⟨rfl, Nat.le_of_ble_eq_true rfl, Nat.le_of_ble_eq_true rfl⟩ rfl h ?_
              intro o18 s18 h
              rcases h with ⟨rfl, h⟩ | ⟨e18, rfl, h⟩
              · refine .inl ⟨none, rfl, ?_⟩
                refine i_aload_n (a := 252) r_255_44 (n_255_44 _) rfl ?_
                refine i_getR (a := 252) (b := 253) r_255_45 (n_255_45 _) rfl rfl rfl (by omega) lf_252 (by omega) ?_
                refine i_sipush r_255_48 (n_255_48 _) rfl ?_
                refine i_iload_n (x := x1) r_255_51 (n_255_51 _) rfl ?_
                refine i_iadd r_255_52 (n_255_52 _) ?_
                obtain ⟨g20, h⟩ := h
                refine i_iaload (a := 253) (j := 175 + x1) r_255_53 (n_255_53 _) lf_253 ⟨by omega, by omega⟩ (by omega) (by omega) (fun q21 => ?_)
                refine i_istore_n (l' := [(0, rf 252), (1, iv x1), (2, iv x2), (3, iv (zI s18 253 (175 + x1)))]) r_255_54 (n_255_54 _) (by decide) rfl ?_
                refine i_aload_n (a := 252) r_255_55 (n_255_55 _) rfl ?_
                refine i_getR (a := 252) (b := 253) r_255_56 (n_255_56 _) rfl rfl rfl (by omega) lf_252 (by omega) ?_
                refine i_sipush r_255_59 (n_255_59 _) rfl ?_
                refine i_iload_n (x := x1) r_255_62 (n_255_62 _) rfl ?_
                refine i_iadd r_255_63 (n_255_63 _) ?_
                refine i_iload_n (x := x2) r_255_64 (n_255_64 _) rfl ?_
                obtain ⟨g22, h⟩ := h
                refine i_iastore (a := 253) (j := 175 + x1) (x := x2) r_255_65 (n_255_65 _) lf_253 ⟨by omega, by omega⟩ (by omega) (by omega) g22 ?_
                refine i_iload_n (x := zI s18 253 (175 + x1)) r_255_66 (n_255_66 _) rfl ?_
                exact i_ireturn r_255_67 (n_255_67 _) rfl h
              · skip
                exact h.elim
            · replace h := h.2 c17
              refine i_iconst r_255_38 (n_255_38 _) ?_
              exact i_ireturn r_255_39 (n_255_39 _) rfl h
          · skip
            exact h.elim
      · skip
        exact h.elim
    · replace h := h.2 c3
      refine i_iconst r_255_12 (n_255_12 _) ?_
      refine i_goto (t := 32) r_255_13 (n_255_13 _) rfl ?_
      refine wp_virt (b := 252) (rest := []) (Ls := [(0, rf 252), (1, iv 1)]) r_255_32 (n_255_32 _) rfl ⟨rfl, rfl, by decide, by decide⟩ rfl rfl lf_252 ⟨rfl, Nat.le_of_ble_eq_true rfl, Nat.le_of_ble_eq_true rfl⟩ rfl h ?_
      intro o23 s23 h
      rcases h with ⟨y23, q24, rfl, h⟩ | ⟨e23, rfl, h⟩
      · refine .inl ⟨some (iv y23), rfl, ?_⟩
        show wp S 255 35 [(0, rf 252), (1, iv x1), (2, iv x2)] [iv y23] s23 Q
        refine i_if (t := 40) r_255_35 (n_255_35 _) rfl (T_eq q24 ⟨by omega, by omega⟩) (fun c25 => ?_) (fun c25 => ?_)
        · replace h := h.1 c25
          refine i_aload_n (a := 252) r_255_40 (n_255_40 _) rfl ?_
          refine wp_virt (b := 252) (rest := []) (Ls := [(0, rf 252)]) r_255_41 (n_255_41 _) rfl ⟨rfl, rfl, by decide, by decide⟩ rfl rfl lf_252 ⟨rfl, Nat.le_of_ble_eq_true rfl, Nat.le_of_ble_eq_true rfl⟩ rfl h ?_
          intro o26 s26 h
          rcases h with ⟨rfl, h⟩ | ⟨e26, rfl, h⟩
          · refine .inl ⟨none, rfl, ?_⟩
            refine i_aload_n (a := 252) r_255_44 (n_255_44 _) rfl ?_
            refine i_getR (a := 252) (b := 253) r_255_45 (n_255_45 _) rfl rfl rfl (by omega) lf_252 (by omega) ?_
            refine i_sipush r_255_48 (n_255_48 _) rfl ?_
            refine i_iload_n (x := x1) r_255_51 (n_255_51 _) rfl ?_
            refine i_iadd r_255_52 (n_255_52 _) ?_
            obtain ⟨g28, h⟩ := h
            refine i_iaload (a := 253) (j := 175 + x1) r_255_53 (n_255_53 _) lf_253 ⟨by omega, by omega⟩ (by omega) (by omega) (fun q29 => ?_)
            refine i_istore_n (l' := [(0, rf 252), (1, iv x1), (2, iv x2), (3, iv (zI s26 253 (175 + x1)))]) r_255_54 (n_255_54 _) (by decide) rfl ?_
            refine i_aload_n (a := 252) r_255_55 (n_255_55 _) rfl ?_
            refine i_getR (a := 252) (b := 253) r_255_56 (n_255_56 _) rfl rfl rfl (by omega) lf_252 (by omega) ?_
            refine i_sipush r_255_59 (n_255_59 _) rfl ?_
            refine i_iload_n (x := x1) r_255_62 (n_255_62 _) rfl ?_
            refine i_iadd r_255_63 (n_255_63 _) ?_
            refine i_iload_n (x := x2) r_255_64 (n_255_64 _) rfl ?_
            obtain ⟨g30, h⟩ := h
            refine i_iastore (a := 253) (j := 175 + x1) (x := x2) r_255_65 (n_255_65 _) lf_253 ⟨by omega, by omega⟩ (by omega) (by omega) g30 ?_
            refine i_iload_n (x := zI s26 253 (175 + x1)) r_255_66 (n_255_66 _) rfl ?_
            exact i_ireturn r_255_67 (n_255_67 _) rfl h
          · skip
            exact h.elim
        · replace h := h.2 c25
          refine i_iconst r_255_38 (n_255_38 _) ?_
          exact i_ireturn r_255_39 (n_255_39 _) rfl h
      · skip
        exact h.elim
  · skip
    exact h.elim
theorem r_256_0 : xfetch 256 0 = some (.aload_n 0, 1) := by decide +kernel
theorem n_256_0 : ∀ l, xpr 256 0 l = l := xpr_no (by decide +kernel)
theorem r_256_1 : xfetch 256 1 = some (.iconst 0, 1) := by decide +kernel
theorem n_256_1 : ∀ l, xpr 256 1 l = l := xpr_no (by decide +kernel)
theorem r_256_2 : xfetch 256 2 = some (.putfield 77, 3) := by decide +kernel
theorem n_256_2 : ∀ l, xpr 256 2 l = l := xpr_no (by decide +kernel)
theorem r_256_5 : xfetch 256 5 = some (.iconst 0, 1) := by decide +kernel
theorem n_256_5 : ∀ l, xpr 256 5 l = l := xpr_no (by decide +kernel)
theorem r_256_6 : xfetch 256 6 = some (.istore_n 2, 1) := by decide +kernel
theorem n_256_6 : ∀ l, xpr 256 6 l = l := xpr_no (by decide +kernel)
theorem r_256_7 : xfetch 256 7 = some (.iload_n 1, 1) := by decide +kernel
theorem n_256_7 : ∀ l, xpr 256 7 l = l := xpr_no (by decide +kernel)
theorem r_256_8 : xfetch 256 8 = some (.ifCond .eq 41, 3) := by decide +kernel
theorem n_256_8 : ∀ l, xpr 256 8 l = l := xpr_no (by decide +kernel)
theorem r_256_11 : xfetch 256 11 = some (.iconst 0, 1) := by decide +kernel
theorem n_256_11 : ∀ l, xpr 256 11 l = l := xpr_no (by decide +kernel)
theorem r_256_12 : xfetch 256 12 = some (.istore_n 3, 1) := by decide +kernel
theorem n_256_12 : ∀ l, xpr 256 12 l = l := xpr_no (by decide +kernel)
theorem r_256_13 : xfetch 256 13 = some (.iload_n 3, 1) := by decide +kernel
theorem r_256_14 : xfetch 256 14 = some (.sipush 1024, 3) := by decide +kernel
theorem n_256_14 : ∀ l, xpr 256 14 l = l := xpr_no (by decide +kernel)
theorem r_256_17 : xfetch 256 17 = some (.if_icmp .ge 29, 3) := by decide +kernel
theorem n_256_17 : ∀ l, xpr 256 17 l = l := xpr_no (by decide +kernel)
theorem r_256_20 : xfetch 256 20 = some (.aload_n 0, 1) := by decide +kernel
theorem n_256_20 : ∀ l, xpr 256 20 l = l := xpr_no (by decide +kernel)
theorem r_256_21 : xfetch 256 21 = some (.iload_n 3, 1) := by decide +kernel
theorem n_256_21 : ∀ l, xpr 256 21 l = l := xpr_no (by decide +kernel)
theorem r_256_22 : xfetch 256 22 = some (.invokevirtual 234, 3) := by decide +kernel
theorem n_256_22 : ∀ l, xpr 256 22 l = l := xpr_no (by decide +kernel)
theorem r_256_25 : xfetch 256 25 = some (.istore 4, 2) := by decide +kernel
theorem n_256_25 : ∀ l, xpr 256 25 l = l := xpr_no (by decide +kernel)
theorem r_256_27 : xfetch 256 27 = some (.iload 4, 2) := by decide +kernel
theorem n_256_27 : ∀ l, xpr 256 27 l = l := xpr_no (by decide +kernel)
theorem r_256_29 : xfetch 256 29 = some (.iload_n 2, 1) := by decide +kernel
theorem n_256_29 : ∀ l, xpr 256 29 l = l := xpr_no (by decide +kernel)
theorem r_256_30 : xfetch 256 30 = some (.if_icmp .le 8, 3) := by decide +kernel
theorem n_256_30 : ∀ l, xpr 256 30 l = l := xpr_no (by decide +kernel)
theorem r_256_33 : xfetch 256 33 = some (.iload 4, 2) := by decide +kernel
theorem n_256_33 : ∀ l, xpr 256 33 l = l := xpr_no (by decide +kernel)
theorem r_256_35 : xfetch 256 35 = some (.goto 4, 3) := by decide +kernel
theorem n_256_35 : ∀ l, xpr 256 35 l = l := xpr_no (by decide +kernel)
theorem r_256_38 : xfetch 256 38 = some (.iload_n 2, 1) := by decide +kernel
theorem n_256_38 : ∀ l, xpr 256 38 l = l := xpr_no (by decide +kernel)
theorem r_256_39 : xfetch 256 39 = some (.istore_n 2, 1) := by decide +kernel
theorem n_256_39 : ∀ l, xpr 256 39 l = l := xpr_no (by decide +kernel)
theorem r_256_40 : xfetch 256 40 = some (.iinc 3 16, 3) := by decide +kernel
theorem n_256_40 : ∀ l, xpr 256 40 l = l := xpr_no (by decide +kernel)
theorem r_256_43 : xfetch 256 43 = some (.goto (-30), 3) := by decide +kernel
theorem n_256_43 : ∀ l, xpr 256 43 l = l := xpr_no (by decide +kernel)
theorem r_256_46 : xfetch 256 46 = some (.goto 34, 3) := by decide +kernel
theorem n_256_46 : ∀ l, xpr 256 46 l = l := xpr_no (by decide +kernel)
theorem r_256_49 : xfetch 256 49 = some (.iconst 0, 1) := by decide +kernel
theorem n_256_49 : ∀ l, xpr 256 49 l = l := xpr_no (by decide +kernel)
theorem r_256_50 : xfetch 256 50 = some (.istore_n 3, 1) := by decide +kernel
theorem n_256_50 : ∀ l, xpr 256 50 l = l := xpr_no (by decide +kernel)
theorem r_256_51 : xfetch 256 51 = some (.iload_n 3, 1) := by decide +kernel
theorem r_256_52 : xfetch 256 52 = some (.sipush 1024, 3) := by decide +kernel
theorem n_256_52 : ∀ l, xpr 256 52 l = l := xpr_no (by decide +kernel)
theorem r_256_55 : xfetch 256 55 = some (.if_icmp .ge 25, 3) := by decide +kernel
theorem n_256_55 : ∀ l, xpr 256 55 l = l := xpr_no (by decide +kernel)
theorem r_256_58 : xfetch 256 58 = some (.iload_n 2, 1) := by decide +kernel
theorem n_256_58 : ∀ l, xpr 256 58 l = l := xpr_no (by decide +kernel)
theorem r_256_59 : xfetch 256 59 = some (.aload_n 0, 1) := by decide +kernel
theorem n_256_59 : ∀ l, xpr 256 59 l = l := xpr_no (by decide +kernel)
theorem r_256_60 : xfetch 256 60 = some (.iload_n 3, 1) := by decide +kernel
theorem n_256_60 : ∀ l, xpr 256 60 l = l := xpr_no (by decide +kernel)
theorem r_256_61 : xfetch 256 61 = some (.invokevirtual 231, 3) := by decide +kernel
theorem n_256_61 : ∀ l, xpr 256 61 l = l := xpr_no (by decide +kernel)
theorem r_256_64 : xfetch 256 64 = some (.ifCond .eq 7, 3) := by decide +kernel
theorem n_256_64 : ∀ l, xpr 256 64 l = l := xpr_no (by decide +kernel)
theorem r_256_67 : xfetch 256 67 = some (.iconst 0, 1) := by decide +kernel
theorem n_256_67 : ∀ l, xpr 256 67 l = l := xpr_no (by decide +kernel)
theorem r_256_68 : xfetch 256 68 = some (.goto 4, 3) := by decide +kernel
theorem n_256_68 : ∀ l, xpr 256 68 l = l := xpr_no (by decide +kernel)
theorem r_256_71 : xfetch 256 71 = some (.iconst 1, 1) := by decide +kernel
theorem n_256_71 : ∀ l, xpr 256 71 l = l := xpr_no (by decide +kernel)
theorem r_256_72 : xfetch 256 72 = some (.iadd, 1) := by decide +kernel
theorem n_256_72 : ∀ l, xpr 256 72 l = l := xpr_no (by decide +kernel)
theorem r_256_73 : xfetch 256 73 = some (.istore_n 2, 1) := by decide +kernel
theorem n_256_73 : ∀ l, xpr 256 73 l = l := xpr_no (by decide +kernel)
theorem r_256_74 : xfetch 256 74 = some (.iinc 3 1, 3) := by decide +kernel
theorem n_256_74 : ∀ l, xpr 256 74 l = l := xpr_no (by decide +kernel)
theorem r_256_77 : xfetch 256 77 = some (.goto (-26), 3) := by decide +kernel
theorem n_256_77 : ∀ l, xpr 256 77 l = l := xpr_no (by decide +kernel)
theorem r_256_80 : xfetch 256 80 = some (.iload_n 2, 1) := by decide +kernel
theorem n_256_80 : ∀ l, xpr 256 80 l = l := xpr_no (by decide +kernel)
theorem r_256_81 : xfetch 256 81 = some (.ireturn, 1) := by decide +kernel
theorem n_256_81 : ∀ l, xpr 256 81 l = l := xpr_no (by decide +kernel)
theorem v_Model_freeBytes_0 {S : Option (Nat × (Nat → Int32))} {s : zSt} {Q : Option Value ⊕ Nat → zSt → Prop} {x1 : Int} 
    (h : rng x1 ∧ ((x1 = 0 → wp S 256 51 [(0, rf 252), (2, iv 0), (3, iv 0)] [] (zwI s 252 3 0) Q) ∧ (x1 ≠ 0 → wp S 256 13 [(0, rf 252), (2, iv 0), (3, iv 0)] [] (zwI s 252 3 0) Q))) :
    wp S 256 0 [(0, rf 252), (1, iv x1)] [] s Q := by
  refine i_aload_n (a := 252) r_256_0 (n_256_0 _) rfl ?_
  refine i_iconst r_256_1 (n_256_1 _) ?_
  refine i_putI (a := 252) (x := 0) r_256_2 (n_256_2 _) rfl (.inl rfl) rfl lf_252 ⟨by omega, by omega⟩ ?_
  refine i_iconst r_256_5 (n_256_5 _) ?_
  refine i_istore_n (l' := [(0, rf 252), (1, iv x1), (2, iv 0)]) r_256_6 (n_256_6 _) (by decide) rfl ?_
  refine i_iload_n (x := x1) r_256_7 (n_256_7 _) rfl ?_
  obtain ⟨g1, h⟩ := h
  refine i_if (t := 49) r_256_8 (n_256_8 _) rfl (T_eq g1 ⟨by omega, by omega⟩) (fun c2 => ?_) (fun c2 => ?_)
  · replace h := h.1 c2
    refine i_iconst r_256_49 (n_256_49 _) ?_
    refine i_istore_n (l' := [(0, rf 252), (1, iv x1), (2, iv 0), (3, iv 0)]) r_256_50 (n_256_50 _) (by decide) rfl ?_
    exact wp_pr (l' := [(0, rf 252), (2, iv 0), (3, iv 0)]) rfl h
  · replace h := h.2 c2
    refine i_iconst r_256_11 (n_256_11 _) ?_
    refine i_istore_n (l' := [(0, rf 252), (1, iv x1), (2, iv 0), (3, iv 0)]) r_256_12 (n_256_12 _) (by decide) rfl ?_
    exact wp_pr (l' := [(0, rf 252), (2, iv 0), (3, iv 0)]) rfl h
theorem v_Model_freeBytes_13 {S : Option (Nat × (Nat → Int32))} {s : zSt} {Q : Option Value ⊕ Nat → zSt → Prop} {x2 : Int} {x3 : Int} 
    (h : rng x3 ∧ ((1024 ≤ x3 → Q (rI x2) s) ∧ (x3 < 1024 → wp S 234 0 [(0, rf 252), (1, iv x3)] [] s (fun o3 s3 => zkI (fun y3 => rng x2 ∧ ((y3 ≤ x2 → wp S 256 13 [(0, rf 252), (2, iv x2), (3, iv (x3 + 16))] [] s3 Q) ∧ (x2 < y3 → wp S 256 13 [(0, rf 252), (2, iv y3), (3, iv (x3 + 16))] [] s3 Q))) (fun e3 => False) o3)))) :
    wp S 256 13 [(0, rf 252), (2, iv x2), (3, iv x3)] [] s Q := by
  refine i_iload_n (x := x3) r_256_13 rfl rfl ?_
  refine i_sipush r_256_14 (n_256_14 _) rfl ?_
  obtain ⟨g1, h⟩ := h
  refine i_icmp (t := 46) r_256_17 (n_256_17 _) rfl (T_ge g1 ⟨by omega, by omega⟩) (fun c2 => ?_) (fun c2 => ?_)
  · replace h := h.1 c2
    refine i_goto (t := 80) r_256_46 (n_256_46 _) rfl ?_
    refine i_iload_n (x := x2) r_256_80 (n_256_80 _) rfl ?_
    exact i_ireturn r_256_81 (n_256_81 _) rfl h
  · replace h := h.2 c2
    refine i_aload_n (a := 252) r_256_20 (n_256_20 _) rfl ?_
    refine i_iload_n (x := x3) r_256_21 (n_256_21 _) rfl ?_
    refine wp_virt (b := 252) (rest := []) (Ls := [(0, rf 252), (1, iv x3)]) r_256_22 (n_256_22 _) rfl ⟨rfl, rfl, by decide, by decide⟩ rfl rfl lf_252 ⟨rfl, Nat.le_of_ble_eq_true rfl, Nat.le_of_ble_eq_true rfl⟩ rfl h ?_
    intro o3 s3 h
    rcases h with ⟨y3, q4, rfl, h⟩ | ⟨e3, rfl, h⟩
    · refine .inl ⟨some (iv y3), rfl, ?_⟩
      show wp S 256 25 [(0, rf 252), (2, iv x2), (3, iv x3)] [iv y3] s3 Q
      refine i_istore (l' := [(0, rf 252), (2, iv x2), (3, iv x3), (4, iv y3)]) r_256_25 (n_256_25 _) (by decide) rfl ?_
      refine i_iload (x := y3) r_256_27 (n_256_27 _) rfl ?_
      refine i_iload_n (x := x2) r_256_29 (n_256_29 _) rfl ?_
      obtain ⟨g5, h⟩ := h
      refine i_icmp (t := 38) r_256_30 (n_256_30 _) rfl (T_le q4 g5) (fun c6 => ?_) (fun c6 => ?_)
      · replace h := h.1 c6
        refine i_iload_n (x := x2) r_256_38 (n_256_38 _) rfl ?_
        refine i_istore_n (l' := [(0, rf 252), (2, iv x2), (3, iv x3), (4, iv y3)]) r_256_39 (n_256_39 _) (by decide) rfl ?_
        refine i_iinc (x := x3) (l' := [(0, rf 252), (2, iv x2), (3, iv (x3 + 16)), (4, iv y3)]) r_256_40 (n_256_40 _) (by decide) rfl rfl ?_
        refine i_goto (t := 13) r_256_43 (n_256_43 _) rfl ?_
        exact wp_pr (l' := [(0, rf 252), (2, iv x2), (3, iv (x3 + 16))]) rfl h
      · replace h := h.2 c6
        refine i_iload (x := y3) r_256_33 (n_256_33 _) rfl ?_
        refine i_goto (t := 39) r_256_35 (n_256_35 _) rfl ?_
        refine i_istore_n (l' := [(0, rf 252), (2, iv y3), (3, iv x3), (4, iv y3)]) r_256_39 (n_256_39 _) (by decide) rfl ?_
        refine i_iinc (x := x3) (l' := [(0, rf 252), (2, iv y3), (3, iv (x3 + 16)), (4, iv y3)]) r_256_40 (n_256_40 _) (by decide) rfl rfl ?_
        refine i_goto (t := 13) r_256_43 (n_256_43 _) rfl ?_
        exact wp_pr (l' := [(0, rf 252), (2, iv y3), (3, iv (x3 + 16))]) rfl h
    · skip
      exact h.elim
theorem v_Model_freeBytes_51 {S : Option (Nat × (Nat → Int32))} {s : zSt} {Q : Option Value ⊕ Nat → zSt → Prop} {x2 : Int} {x3 : Int} 
    (h : rng x3 ∧ ((1024 ≤ x3 → Q (rI x2) s) ∧ (x3 < 1024 → wp S 235 0 [(0, rf 252), (1, iv x3)] [] s (fun o3 s3 => zkI (fun y3 => (y3 = 0 → wp S 256 51 [(0, rf 252), (2, iv (x2 + 1)), (3, iv (x3 + 1))] [] s3 Q) ∧ (y3 ≠ 0 → wp S 256 51 [(0, rf 252), (2, iv (x2 + 0)), (3, iv (x3 + 1))] [] s3 Q)) (fun e3 => False) o3)))) :
    wp S 256 51 [(0, rf 252), (2, iv x2), (3, iv x3)] [] s Q := by
  refine i_iload_n (x := x3) r_256_51 rfl rfl ?_
  refine i_sipush r_256_52 (n_256_52 _) rfl ?_
  obtain ⟨g1, h⟩ := h
  refine i_icmp (t := 80) r_256_55 (n_256_55 _) rfl (T_ge g1 ⟨by omega, by omega⟩) (fun c2 => ?_) (fun c2 => ?_)
  · replace h := h.1 c2
    refine i_iload_n (x := x2) r_256_80 (n_256_80 _) rfl ?_
    exact i_ireturn r_256_81 (n_256_81 _) rfl h
  · replace h := h.2 c2
    refine i_iload_n (x := x2) r_256_58 (n_256_58 _) rfl ?_
    refine i_aload_n (a := 252) r_256_59 (n_256_59 _) rfl ?_
    refine i_iload_n (x := x3) r_256_60 (n_256_60 _) rfl ?_
    refine wp_virt (b := 252) (rest := [iv x2]) (Ls := [(0, rf 252), (1, iv x3)]) r_256_61 (n_256_61 _) rfl ⟨rfl, rfl, by decide, by decide⟩ rfl rfl lf_252 ⟨rfl, Nat.le_of_ble_eq_true rfl, Nat.le_of_ble_eq_true rfl⟩ rfl h ?_
    intro o3 s3 h
    rcases h with ⟨y3, q4, rfl, h⟩ | ⟨e3, rfl, h⟩
    · refine .inl ⟨some (iv y3), rfl, ?_⟩
      show wp S 256 64 [(0, rf 252), (2, iv x2), (3, iv x3)] [iv y3, iv x2] s3 Q
      refine i_if (t := 71) r_256_64 (n_256_64 _) rfl (T_eq q4 ⟨by omega, by omega⟩) (fun c5 => ?_) (fun c5 => ?_)
      · replace h := h.1 c5
        refine i_iconst r_256_71 (n_256_71 _) ?_
        refine i_iadd r_256_72 (n_256_72 _) ?_
        refine i_istore_n (l' := [(0, rf 252), (2, iv (x2 + 1)), (3, iv x3)]) r_256_73 (n_256_73 _) (by decide) rfl ?_
        refine i_iinc (x := x3) (l' := [(0, rf 252), (2, iv (x2 + 1)), (3, iv (x3 + 1))]) r_256_74 (n_256_74 _) (by decide) rfl rfl ?_
        refine i_goto (t := 51) r_256_77 (n_256_77 _) rfl ?_
        exact wp_pr (l' := [(0, rf 252), (2, iv (x2 + 1)), (3, iv (x3 + 1))]) rfl h
      · replace h := h.2 c5
        refine i_iconst r_256_67 (n_256_67 _) ?_
        refine i_goto (t := 72) r_256_68 (n_256_68 _) rfl ?_
        refine i_iadd r_256_72 (n_256_72 _) ?_
        refine i_istore_n (l' := [(0, rf 252), (2, iv (x2 + 0)), (3, iv x3)]) r_256_73 (n_256_73 _) (by decide) rfl ?_
        refine i_iinc (x := x3) (l' := [(0, rf 252), (2, iv (x2 + 0)), (3, iv (x3 + 1))]) r_256_74 (n_256_74 _) (by decide) rfl rfl ?_
        refine i_goto (t := 51) r_256_77 (n_256_77 _) rfl ?_
        exact wp_pr (l' := [(0, rf 252), (2, iv (x2 + 0)), (3, iv (x3 + 1))]) rfl h
    · skip
      exact h.elim
theorem r_257_0 : xfetch 257 0 = some (.aload_n 0, 1) := by decide +kernel
theorem n_257_0 : ∀ l, xpr 257 0 l = l := xpr_no (by decide +kernel)
theorem r_257_1 : xfetch 257 1 = some (.iload_n 1, 1) := by decide +kernel
theorem n_257_1 : ∀ l, xpr 257 1 l = l := xpr_no (by decide +kernel)
theorem r_257_2 : xfetch 257 2 = some (.invokevirtual 225, 3) := by decide +kernel
theorem n_257_2 : ∀ l, xpr 257 2 l = l := xpr_no (by decide +kernel)
theorem r_257_5 : xfetch 257 5 = some (.istore 4, 2) := by decide +kernel
theorem n_257_5 : ∀ l, xpr 257 5 l = l := xpr_no (by decide +kernel)
theorem r_257_7 : xfetch 257 7 = some (.iload_n 2, 1) := by decide +kernel
theorem n_257_7 : ∀ l, xpr 257 7 l = l := xpr_no (by decide +kernel)
theorem r_257_8 : xfetch 257 8 = some (.iconst 0, 1) := by decide +kernel
theorem n_257_8 : ∀ l, xpr 257 8 l = l := xpr_no (by decide +kernel)
theorem r_257_9 : xfetch 257 9 = some (.bipush 8, 2) := by decide +kernel
theorem n_257_9 : ∀ l, xpr 257 9 l = l := xpr_no (by decide +kernel)
theorem r_257_11 : xfetch 257 11 = some (.invokestatic 88, 3) := by decide +kernel
theorem n_257_11 : ∀ l, xpr 257 11 l = l := xpr_no (by decide +kernel)
theorem r_257_14 : xfetch 257 14 = some (.ifCond .eq 16, 3) := by decide +kernel
theorem n_257_14 : ∀ l, xpr 257 14 l = l := xpr_no (by decide +kernel)
theorem r_257_17 : xfetch 257 17 = some (.iload_n 3, 1) := by decide +kernel
theorem n_257_17 : ∀ l, xpr 257 17 l = l := xpr_no (by decide +kernel)
theorem r_257_18 : xfetch 257 18 = some (.iconst 0, 1) := by decide +kernel
theorem n_257_18 : ∀ l, xpr 257 18 l = l := xpr_no (by decide +kernel)
theorem r_257_19 : xfetch 257 19 = some (.iconst 1, 1) := by decide +kernel
theorem n_257_19 : ∀ l, xpr 257 19 l = l := xpr_no (by decide +kernel)
theorem r_257_20 : xfetch 257 20 = some (.invokestatic 88, 3) := by decide +kernel
theorem n_257_20 : ∀ l, xpr 257 20 l = l := xpr_no (by decide +kernel)
theorem r_257_23 : xfetch 257 23 = some (.ifCond .eq 7, 3) := by decide +kernel
theorem n_257_23 : ∀ l, xpr 257 23 l = l := xpr_no (by decide +kernel)
theorem r_257_26 : xfetch 257 26 = some (.iconst 1, 1) := by decide +kernel
theorem n_257_26 : ∀ l, xpr 257 26 l = l := xpr_no (by decide +kernel)
theorem r_257_27 : xfetch 257 27 = some (.goto 4, 3) := by decide +kernel
theorem n_257_27 : ∀ l, xpr 257 27 l = l := xpr_no (by decide +kernel)
theorem r_257_30 : xfetch 257 30 = some (.iconst 0, 1) := by decide +kernel
theorem n_257_30 : ∀ l, xpr 257 30 l = l := xpr_no (by decide +kernel)
theorem r_257_31 : xfetch 257 31 = some (.istore 5, 2) := by decide +kernel
theorem n_257_31 : ∀ l, xpr 257 31 l = l := xpr_no (by decide +kernel)
theorem r_257_33 : xfetch 257 33 = some (.iconst (-1), 1) := by decide +kernel
theorem n_257_33 : ∀ l, xpr 257 33 l = l := xpr_no (by decide +kernel)
theorem r_257_34 : xfetch 257 34 = some (.istore 6, 2) := by decide +kernel
theorem n_257_34 : ∀ l, xpr 257 34 l = l := xpr_no (by decide +kernel)
theorem r_257_36 : xfetch 257 36 = some (.iload 4, 2) := by decide +kernel
theorem n_257_36 : ∀ l, xpr 257 36 l = l := xpr_no (by decide +kernel)
theorem r_257_38 : xfetch 257 38 = some (.ifCond .eq 35, 3) := by decide +kernel
theorem n_257_38 : ∀ l, xpr 257 38 l = l := xpr_no (by decide +kernel)
theorem r_257_41 : xfetch 257 41 = some (.iload 5, 2) := by decide +kernel
theorem n_257_41 : ∀ l, xpr 257 41 l = l := xpr_no (by decide +kernel)
theorem r_257_43 : xfetch 257 43 = some (.ifCond .eq 30, 3) := by decide +kernel
theorem n_257_43 : ∀ l, xpr 257 43 l = l := xpr_no (by decide +kernel)
theorem r_257_46 : xfetch 257 46 = some (.aload_n 0, 1) := by decide +kernel
theorem n_257_46 : ∀ l, xpr 257 46 l = l := xpr_no (by decide +kernel)
theorem r_257_47 : xfetch 257 47 = some (.invokevirtual 152, 3) := by decide +kernel
theorem n_257_47 : ∀ l, xpr 257 47 l = l := xpr_no (by decide +kernel)
theorem r_257_50 : xfetch 257 50 = some (.aload_n 0, 1) := by decide +kernel
theorem n_257_50 : ∀ l, xpr 257 50 l = l := xpr_no (by decide +kernel)
theorem r_257_51 : xfetch 257 51 = some (.aload_n 0, 1) := by decide +kernel
theorem n_257_51 : ∀ l, xpr 257 51 l = l := xpr_no (by decide +kernel)
theorem r_257_52 : xfetch 257 52 = some (.aload_n 0, 1) := by decide +kernel
theorem n_257_52 : ∀ l, xpr 257 52 l = l := xpr_no (by decide +kernel)
theorem r_257_53 : xfetch 257 53 = some (.iload_n 1, 1) := by decide +kernel
theorem n_257_53 : ∀ l, xpr 257 53 l = l := xpr_no (by decide +kernel)
theorem r_257_54 : xfetch 257 54 = some (.iconst 0, 1) := by decide +kernel
theorem n_257_54 : ∀ l, xpr 257 54 l = l := xpr_no (by decide +kernel)
theorem r_257_55 : xfetch 257 55 = some (.invokevirtual 228, 3) := by decide +kernel
theorem n_257_55 : ∀ l, xpr 257 55 l = l := xpr_no (by decide +kernel)
theorem r_257_58 : xfetch 257 58 = some (.aload_n 0, 1) := by decide +kernel
theorem n_257_58 : ∀ l, xpr 257 58 l = l := xpr_no (by decide +kernel)
theorem r_257_59 : xfetch 257 59 = some (.iload_n 1, 1) := by decide +kernel
theorem n_257_59 : ∀ l, xpr 257 59 l = l := xpr_no (by decide +kernel)
theorem r_257_60 : xfetch 257 60 = some (.iconst 1, 1) := by decide +kernel
theorem n_257_60 : ∀ l, xpr 257 60 l = l := xpr_no (by decide +kernel)
theorem r_257_61 : xfetch 257 61 = some (.invokevirtual 228, 3) := by decide +kernel
theorem n_257_61 : ∀ l, xpr 257 61 l = l := xpr_no (by decide +kernel)
theorem r_257_64 : xfetch 257 64 = some (.iload_n 2, 1) := by decide +kernel
theorem n_257_64 : ∀ l, xpr 257 64 l = l := xpr_no (by decide +kernel)
theorem r_257_65 : xfetch 257 65 = some (.invokevirtual 237, 3) := by decide +kernel
theorem n_257_65 : ∀ l, xpr 257 65 l = l := xpr_no (by decide +kernel)
theorem r_257_68 : xfetch 257 68 = some (.invokevirtual 240, 3) := by decide +kernel
theorem n_257_68 : ∀ l, xpr 257 68 l = l := xpr_no (by decide +kernel)
theorem r_257_71 : xfetch 257 71 = some (.istore 6, 2) := by decide +kernel
theorem n_257_71 : ∀ l, xpr 257 71 l = l := xpr_no (by decide +kernel)
theorem r_257_73 : xfetch 257 73 = some (.aload_n 0, 1) := by decide +kernel
theorem r_257_74 : xfetch 257 74 = some (.iload 4, 2) := by decide +kernel
theorem n_257_74 : ∀ l, xpr 257 74 l = l := xpr_no (by decide +kernel)
theorem r_257_76 : xfetch 257 76 = some (.ifCond .ne 7, 3) := by decide +kernel
theorem n_257_76 : ∀ l, xpr 257 76 l = l := xpr_no (by decide +kernel)
theorem r_257_79 : xfetch 257 79 = some (.iconst 1, 1) := by decide +kernel
theorem n_257_79 : ∀ l, xpr 257 79 l = l := xpr_no (by decide +kernel)
theorem r_257_80 : xfetch 257 80 = some (.goto 23, 3) := by decide +kernel
theorem n_257_80 : ∀ l, xpr 257 80 l = l := xpr_no (by decide +kernel)
theorem r_257_83 : xfetch 257 83 = some (.iload 5, 2) := by decide +kernel
theorem n_257_83 : ∀ l, xpr 257 83 l = l := xpr_no (by decide +kernel)
theorem r_257_85 : xfetch 257 85 = some (.ifCond .ne 7, 3) := by decide +kernel
theorem n_257_85 : ∀ l, xpr 257 85 l = l := xpr_no (by decide +kernel)
theorem r_257_88 : xfetch 257 88 = some (.iconst 2, 1) := by decide +kernel
theorem n_257_88 : ∀ l, xpr 257 88 l = l := xpr_no (by decide +kernel)
theorem r_257_89 : xfetch 257 89 = some (.goto 14, 3) := by decide +kernel
theorem n_257_89 : ∀ l, xpr 257 89 l = l := xpr_no (by decide +kernel)
theorem r_257_92 : xfetch 257 92 = some (.iload 6, 2) := by decide +kernel
theorem n_257_92 : ∀ l, xpr 257 92 l = l := xpr_no (by decide +kernel)
theorem r_257_94 : xfetch 257 94 = some (.iconst (-1), 1) := by decide +kernel
theorem n_257_94 : ∀ l, xpr 257 94 l = l := xpr_no (by decide +kernel)
theorem r_257_95 : xfetch 257 95 = some (.if_icmp .ne 7, 3) := by decide +kernel
theorem n_257_95 : ∀ l, xpr 257 95 l = l := xpr_no (by decide +kernel)
theorem r_257_98 : xfetch 257 98 = some (.iconst 3, 1) := by decide +kernel
theorem n_257_98 : ∀ l, xpr 257 98 l = l := xpr_no (by decide +kernel)
theorem r_257_99 : xfetch 257 99 = some (.goto 4, 3) := by decide +kernel
theorem n_257_99 : ∀ l, xpr 257 99 l = l := xpr_no (by decide +kernel)
theorem r_257_102 : xfetch 257 102 = some (.iconst 0, 1) := by decide +kernel
theorem n_257_102 : ∀ l, xpr 257 102 l = l := xpr_no (by decide +kernel)
theorem r_257_103 : xfetch 257 103 = some (.invokevirtual 84, 3) := by decide +kernel
theorem n_257_103 : ∀ l, xpr 257 103 l = l := xpr_no (by decide +kernel)
theorem r_257_106 : xfetch 257 106 = some (.ifCond .eq 5, 3) := by decide +kernel
theorem n_257_106 : ∀ l, xpr 257 106 l = l := xpr_no (by decide +kernel)
theorem r_257_109 : xfetch 257 109 = some (.iconst 0, 1) := by decide +kernel
theorem n_257_109 : ∀ l, xpr 257 109 l = l := xpr_no (by decide +kernel)
theorem r_257_110 : xfetch 257 110 = some (.ireturn, 1) := by decide +kernel
theorem n_257_110 : ∀ l, xpr 257 110 l = l := xpr_no (by decide +kernel)
theorem r_257_111 : xfetch 257 111 = some (.aload_n 0, 1) := by decide +kernel
theorem n_257_111 : ∀ l, xpr 257 111 l = l := xpr_no (by decide +kernel)
theorem r_257_112 : xfetch 257 112 = some (.invokevirtual 135, 3) := by decide +kernel
theorem n_257_112 : ∀ l, xpr 257 112 l = l := xpr_no (by decide +kernel)
theorem r_257_115 : xfetch 257 115 = some (.aload_n 0, 1) := by decide +kernel
theorem n_257_115 : ∀ l, xpr 257 115 l = l := xpr_no (by decide +kernel)
theorem r_257_116 : xfetch 257 116 = some (.iload_n 1, 1) := by decide +kernel
theorem n_257_116 : ∀ l, xpr 257 116 l = l := xpr_no (by decide +kernel)
theorem r_257_117 : xfetch 257 117 = some (.invokevirtual 284, 3) := by decide +kernel
theorem n_257_117 : ∀ l, xpr 257 117 l = l := xpr_no (by decide +kernel)
theorem r_257_120 : xfetch 257 120 = some (.aload_n 0, 1) := by decide +kernel
theorem n_257_120 : ∀ l, xpr 257 120 l = l := xpr_no (by decide +kernel)
theorem r_257_121 : xfetch 257 121 = some (.iload_n 1, 1) := by decide +kernel
theorem n_257_121 : ∀ l, xpr 257 121 l = l := xpr_no (by decide +kernel)
theorem r_257_122 : xfetch 257 122 = some (.aload_n 0, 1) := by decide +kernel
theorem n_257_122 : ∀ l, xpr 257 122 l = l := xpr_no (by decide +kernel)
theorem r_257_123 : xfetch 257 123 = some (.iload_n 1, 1) := by decide +kernel
theorem n_257_123 : ∀ l, xpr 257 123 l = l := xpr_no (by decide +kernel)
theorem r_257_124 : xfetch 257 124 = some (.iconst 0, 1) := by decide +kernel
theorem n_257_124 : ∀ l, xpr 257 124 l = l := xpr_no (by decide +kernel)
theorem r_257_125 : xfetch 257 125 = some (.invokevirtual 228, 3) := by decide +kernel
theorem n_257_125 : ∀ l, xpr 257 125 l = l := xpr_no (by decide +kernel)
theorem r_257_128 : xfetch 257 128 = some (.aload_n 0, 1) := by decide +kernel
theorem n_257_128 : ∀ l, xpr 257 128 l = l := xpr_no (by decide +kernel)
theorem r_257_129 : xfetch 257 129 = some (.iload_n 1, 1) := by decide +kernel
theorem n_257_129 : ∀ l, xpr 257 129 l = l := xpr_no (by decide +kernel)
theorem r_257_130 : xfetch 257 130 = some (.iconst 1, 1) := by decide +kernel
theorem n_257_130 : ∀ l, xpr 257 130 l = l := xpr_no (by decide +kernel)
theorem r_257_131 : xfetch 257 131 = some (.invokevirtual 228, 3) := by decide +kernel
theorem n_257_131 : ∀ l, xpr 257 131 l = l := xpr_no (by decide +kernel)
theorem r_257_134 : xfetch 257 134 = some (.iload_n 2, 1) := by decide +kernel
theorem n_257_134 : ∀ l, xpr 257 134 l = l := xpr_no (by decide +kernel)
theorem r_257_135 : xfetch 257 135 = some (.iload_n 3, 1) := by decide +kernel
theorem n_257_135 : ∀ l, xpr 257 135 l = l := xpr_no (by decide +kernel)
theorem r_257_136 : xfetch 257 136 = some (.iload 6, 2) := by decide +kernel
theorem n_257_136 : ∀ l, xpr 257 136 l = l := xpr_no (by decide +kernel)
theorem r_257_138 : xfetch 257 138 = some (.invokevirtual 243, 3) := by decide +kernel
theorem n_257_138 : ∀ l, xpr 257 138 l = l := xpr_no (by decide +kernel)
theorem r_257_141 : xfetch 257 141 = some (.iconst 0, 1) := by decide +kernel
theorem n_257_141 : ∀ l, xpr 257 141 l = l := xpr_no (by decide +kernel)
theorem r_257_142 : xfetch 257 142 = some (.istore 7, 2) := by decide +kernel
theorem n_257_142 : ∀ l, xpr 257 142 l = l := xpr_no (by decide +kernel)
theorem r_257_144 : xfetch 257 144 = some (.iload 7, 2) := by decide +kernel
theorem r_257_146 : xfetch 257 146 = some (.aload_n 0, 1) := by decide +kernel
theorem n_257_146 : ∀ l, xpr 257 146 l = l := xpr_no (by decide +kernel)
theorem r_257_147 : xfetch 257 147 = some (.iload_n 1, 1) := by decide +kernel
theorem n_257_147 : ∀ l, xpr 257 147 l = l := xpr_no (by decide +kernel)
theorem r_257_148 : xfetch 257 148 = some (.iconst 1, 1) := by decide +kernel
theorem n_257_148 : ∀ l, xpr 257 148 l = l := xpr_no (by decide +kernel)
theorem r_257_149 : xfetch 257 149 = some (.invokevirtual 228, 3) := by decide +kernel
theorem n_257_149 : ∀ l, xpr 257 149 l = l := xpr_no (by decide +kernel)
theorem r_257_152 : xfetch 257 152 = some (.if_icmp .ge 56, 3) := by decide +kernel
theorem n_257_152 : ∀ l, xpr 257 152 l = l := xpr_no (by decide +kernel)
theorem r_257_155 : xfetch 257 155 = some (.iconst 0, 1) := by decide +kernel
theorem n_257_155 : ∀ l, xpr 257 155 l = l := xpr_no (by decide +kernel)
theorem r_257_156 : xfetch 257 156 = some (.istore 8, 2) := by decide +kernel
theorem n_257_156 : ∀ l, xpr 257 156 l = l := xpr_no (by decide +kernel)
theorem r_257_158 : xfetch 257 158 = some (.iload 8, 2) := by decide +kernel
theorem r_257_160 : xfetch 257 160 = some (.aload_n 0, 1) := by decide +kernel
theorem n_257_160 : ∀ l, xpr 257 160 l = l := xpr_no (by decide +kernel)
theorem r_257_161 : xfetch 257 161 = some (.getfield 19, 3) := by decide +kernel
theorem n_257_161 : ∀ l, xpr 257 161 l = l := xpr_no (by decide +kernel)
theorem r_257_164 : xfetch 257 164 = some (.aload_n 0, 1) := by decide +kernel
theorem n_257_164 : ∀ l, xpr 257 164 l = l := xpr_no (by decide +kernel)
theorem r_257_165 : xfetch 257 165 = some (.iload_n 1, 1) := by decide +kernel
theorem n_257_165 : ∀ l, xpr 257 165 l = l := xpr_no (by decide +kernel)
theorem r_257_166 : xfetch 257 166 = some (.iconst 0, 1) := by decide +kernel
theorem n_257_166 : ∀ l, xpr 257 166 l = l := xpr_no (by decide +kernel)
theorem r_257_167 : xfetch 257 167 = some (.invokevirtual 228, 3) := by decide +kernel
theorem n_257_167 : ∀ l, xpr 257 167 l = l := xpr_no (by decide +kernel)
theorem r_257_170 : xfetch 257 170 = some (.iaload, 1) := by decide +kernel
theorem n_257_170 : ∀ l, xpr 257 170 l = l := xpr_no (by decide +kernel)
theorem r_257_171 : xfetch 257 171 = some (.if_icmp .ge 31, 3) := by decide +kernel
theorem n_257_171 : ∀ l, xpr 257 171 l = l := xpr_no (by decide +kernel)
theorem r_257_174 : xfetch 257 174 = some (.aload_n 0, 1) := by decide +kernel
theorem n_257_174 : ∀ l, xpr 257 174 l = l := xpr_no (by decide +kernel)
theorem r_257_175 : xfetch 257 175 = some (.iload_n 1, 1) := by decide +kernel
theorem n_257_175 : ∀ l, xpr 257 175 l = l := xpr_no (by decide +kernel)
theorem r_257_176 : xfetch 257 176 = some (.iload 7, 2) := by decide +kernel
theorem n_257_176 : ∀ l, xpr 257 176 l = l := xpr_no (by decide +kernel)
theorem r_257_178 : xfetch 257 178 = some (.iload 8, 2) := by decide +kernel
theorem n_257_178 : ∀ l, xpr 257 178 l = l := xpr_no (by decide +kernel)
theorem r_257_180 : xfetch 257 180 = some (.aload_n 0, 1) := by decide +kernel
theorem n_257_180 : ∀ l, xpr 257 180 l = l := xpr_no (by decide +kernel)
theorem r_257_181 : xfetch 257 181 = some (.getfield 67, 3) := by decide +kernel
theorem n_257_181 : ∀ l, xpr 257 181 l = l := xpr_no (by decide +kernel)
theorem r_257_184 : xfetch 257 184 = some (.bipush 40, 2) := by decide +kernel
theorem n_257_184 : ∀ l, xpr 257 184 l = l := xpr_no (by decide +kernel)
theorem r_257_186 : xfetch 257 186 = some (.iload 7, 2) := by decide +kernel
theorem n_257_186 : ∀ l, xpr 257 186 l = l := xpr_no (by decide +kernel)
theorem r_257_188 : xfetch 257 188 = some (.imul, 1) := by decide +kernel
theorem n_257_188 : ∀ l, xpr 257 188 l = l := xpr_no (by decide +kernel)
theorem r_257_189 : xfetch 257 189 = some (.iload 8, 2) := by decide +kernel
theorem n_257_189 : ∀ l, xpr 257 189 l = l := xpr_no (by decide +kernel)
theorem r_257_191 : xfetch 257 191 = some (.iadd, 1) := by decide +kernel
theorem n_257_191 : ∀ l, xpr 257 191 l = l := xpr_no (by decide +kernel)
theorem r_257_192 : xfetch 257 192 = some (.laload, 1) := by decide +kernel
theorem n_257_192 : ∀ l, xpr 257 192 l = l := xpr_no (by decide +kernel)
theorem r_257_193 : xfetch 257 193 = some (.invokevirtual 281, 3) := by decide +kernel
theorem n_257_193 : ∀ l, xpr 257 193 l = l := xpr_no (by decide +kernel)
theorem r_257_196 : xfetch 257 196 = some (.iinc 8 1, 3) := by decide +kernel
theorem n_257_196 : ∀ l, xpr 257 196 l = l := xpr_no (by decide +kernel)
theorem r_257_199 : xfetch 257 199 = some (.goto (-41), 3) := by decide +kernel
theorem n_257_199 : ∀ l, xpr 257 199 l = l := xpr_no (by decide +kernel)
theorem r_257_202 : xfetch 257 202 = some (.iinc 7 1, 3) := by decide +kernel
theorem n_257_202 : ∀ l, xpr 257 202 l = l := xpr_no (by decide +kernel)
theorem r_257_205 : xfetch 257 205 = some (.goto (-61), 3) := by decide +kernel
theorem n_257_205 : ∀ l, xpr 257 205 l = l := xpr_no (by decide +kernel)
theorem r_257_208 : xfetch 257 208 = some (.iload 6, 2) := by decide +kernel
theorem n_257_208 : ∀ l, xpr 257 208 l = l := xpr_no (by decide +kernel)
theorem r_257_210 : xfetch 257 210 = some (.ireturn, 1) := by decide +kernel
theorem n_257_210 : ∀ l, xpr 257 210 l = l := xpr_no (by decide +kernel)
theorem v_Model_convert_0 {S : Option (Nat × (Nat → Int32))} {s : zSt} {Q : Option Value ⊕ Nat → zSt → Prop} {x1 : Int} {x2 : Int} {x3 : Int} 
    (h : wp S 229 0 [(0, rf 252), (1, iv x1)] [] s (fun o1 s1 => zkI (fun y1 => wp S 187 0 [(0, iv x2), (1, iv 0), (2, iv 8)] [] s1 (fun o3 s3 => zkI (fun y3 => (y3 = 0 → (y1 = 0 → wp S 257 73 [(0, rf 252), (1, iv x1), (2, iv x2), (3, iv x3), (4, iv y1), (5, iv 0), (6, iv (-1))] [] s3 Q) ∧ (y1 ≠ 0 → (0 = 0 → wp S 257 73 [(0, rf 252), (1, iv x1), (2, iv x2), (3, iv x3), (4, iv y1), (5, iv 0), (6, iv (-1))] [] s3 Q) ∧ (0 ≠ 0 → wp S 193 0 [(0, rf 252)] [] s3 (fun o8 s8 => zkU (wp S 236 0 [(0, rf 252), (1, iv x1), (2, iv 0)] [] s8 (fun o10 s10 => zkI (fun y10 => wp S 236 0 [(0, rf 252), (1, iv x1), (2, iv 1)] [] s10 (fun o12 s12 => zkI (fun y12 => wp S 230 0 [(0, rf 252), (1, iv y10), (2, iv y12), (3, iv x2)] [] s12 (fun o14 s14 => zkI (fun y14 => wp S 233 0 [(0, rf 252), (1, iv y14)] [] s14 (fun o16 s16 => zkI (fun y16 => wp S 257 73 [(0, rf 252), (1, iv x1), (2, iv x2), (3, iv x3), (4, iv y1), (5, iv 0), (6, iv y16)] [] s16 Q) (fun e16 => False) o16)) (fun e14 => False) o14)) (fun e12 => False) o12)) (fun e10 => False) o10)) (fun e8 => False) o8)))) ∧ (y3 ≠ 0 → wp S 187 0 [(0, iv x3), (1, iv 0), (2, iv 1)] [] s3 (fun o18 s18 => zkI (fun y18 => (y18 = 0 → (y1 = 0 → wp S 257 73 [(0, rf 252), (1, iv x1), (2, iv x2), (3, iv x3), (4, iv y1), (5, iv 0), (6, iv (-1))] [] s18 Q) ∧ (y1 ≠ 0 → (0 = 0 → wp S 257 73 [(0, rf 252), (1, iv x1), (2, iv x2), (3, iv x3), (4, iv y1), (5, iv 0), (6, iv (-1))] [] s18 Q) ∧ (0 ≠ 0 → wp S 193 0 [(0, rf 252)] [] s18 (fun o23 s23 => zkU (wp S 236 0 [(0, rf 252), (1, iv x1), (2, iv 0)] [] s23 (fun o25 s25 => zkI (fun y25 => wp S 236 0 [(0, rf 252), (1, iv x1), (2, iv 1)] [] s25 (fun o27 s27 => zkI (fun y27 => wp S 230 0 [(0, rf 252), (1, iv y25), (2, iv y27), (3, iv x2)] [] s27 (fun o29 s29 => zkI (fun y29 => wp S 233 0 [(0, rf 252), (1, iv y29)] [] s29 (fun o31 s31 => zkI (fun y31 => wp S 257 73 [(0, rf 252), (1, iv x1), (2, iv x2), (3, iv x3), (4, iv y1), (5, iv 0), (6, iv y31)] [] s31 Q) (fun e31 => False) o31)) (fun e29 => False) o29)) (fun e27 => False) o27)) (fun e25 => False) o25)) (fun e23 => False) o23)))) ∧ (y18 ≠ 0 → (y1 = 0 → wp S 257 73 [(0, rf 252), (1, iv x1), (2, iv x2), (3, iv x3), (4, iv y1), (5, iv 1), (6, iv (-1))] [] s18 Q) ∧ (y1 ≠ 0 → (1 = 0 → wp S 257 73 [(0, rf 252), (1, iv x1), (2, iv x2), (3, iv x3), (4, iv y1), (5, iv 1), (6, iv (-1))] [] s18 Q) ∧ (1 ≠ 0 → wp S 193 0 [(0, rf 252)] [] s18 (fun o35 s35 => zkU (wp S 236 0 [(0, rf 252), (1, iv x1), (2, iv 0)] [] s35 (fun o37 s37 => zkI (fun y37 => wp S 236 0 [(0, rf 252), (1, iv x1), (2, iv 1)] [] s37 (fun o39 s39 => zkI (fun y39 => wp S 230 0 [(0, rf 252), (1, iv y37), (2, iv y39), (3, iv x2)] [] s39 (fun o41 s41 => zkI (fun y41 => wp S 233 0 [(0, rf 252), (1, iv y41)] [] s41 (fun o43 s43 => zkI (fun y43 => wp S 257 73 [(0, rf 252), (1, iv x1), (2, iv x2), (3, iv x3), (4, iv y1), (5, iv 1), (6, iv y43)] [] s43 Q) (fun e43 => False) o43)) (fun e41 => False) o41)) (fun e39 => False) o39)) (fun e37 => False) o37)) (fun e35 => False) o35))))) (fun e18 => False) o18))) (fun e3 => False) o3)) (fun e1 => False) o1)) :
    wp S 257 0 [(0, rf 252), (1, iv x1), (2, iv x2), (3, iv x3)] [] s Q := by
  refine i_aload_n (a := 252) r_257_0 (n_257_0 _) rfl ?_
  refine i_iload_n (x := x1) r_257_1 (n_257_1 _) rfl ?_
  refine wp_virt (b := 252) (rest := []) (Ls := [(0, rf 252), (1, iv x1)]) r_257_2 (n_257_2 _) rfl ⟨rfl, rfl, by decide, by decide⟩ rfl rfl lf_252 ⟨rfl, Nat.le_of_ble_eq_true rfl, Nat.le_of_ble_eq_true rfl⟩ rfl h ?_
  intro o1 s1 h
  rcases h with ⟨y1, q2, rfl, h⟩ | ⟨e1, rfl, h⟩
  · refine .inl ⟨some (iv y1), rfl, ?_⟩
    show wp S 257 5 [(0, rf 252), (1, iv x1), (2, iv x2), (3, iv x3)] [iv y1] s1 Q
    refine i_istore (l' := [(0, rf 252), (1, iv x1), (2, iv x2), (3, iv x3), (4, iv y1)]) r_257_5 (n_257_5 _) (by decide) rfl ?_
    refine i_iload_n (x := x2) r_257_7 (n_257_7 _) rfl ?_
    refine i_iconst r_257_8 (n_257_8 _) ?_
    refine i_bipush r_257_9 (n_257_9 _) rfl ?_
    refine wp_stat (rest := []) (Ls := [(0, iv x2), (1, iv 0), (2, iv 8)]) r_257_11 (n_257_11 _) rfl ⟨rfl, by decide, by decide, by decide⟩ rfl rfl ⟨rfl, Nat.le_of_ble_eq_true rfl, Nat.le_of_ble_eq_true rfl⟩ rfl h ?_
    intro o3 s3 h
    rcases h with ⟨y3, q4, rfl, h⟩ | ⟨e3, rfl, h⟩
    · refine .inl ⟨some (iv y3), rfl, ?_⟩
      show wp S 257 14 [(0, rf 252), (1, iv x1), (2, iv x2), (3, iv x3), (4, iv y1)] [iv y3] s3 Q
      refine i_if (t := 30) r_257_14 (n_257_14 _) rfl (T_eq q4 ⟨by omega, by omega⟩) (fun c5 => ?_) (fun c5 => ?_)
      · replace h := h.1 c5
        refine i_iconst r_257_30 (n_257_30 _) ?_
        refine i_istore (l' := [(0, rf 252), (1, iv x1), (2, iv x2), (3, iv x3), (4, iv y1), (5, iv 0)]) r_257_31 (n_257_31 _) (by decide) rfl ?_
        refine i_iconst r_257_33 (n_257_33 _) ?_
        refine i_istore (l' := [(0, rf 252), (1, iv x1), (2, iv x2), (3, iv x3), (4, iv y1), (5, iv 0), (6, iv (-1))]) r_257_34 (n_257_34 _) (by decide) rfl ?_
        refine i_iload (x := y1) r_257_36 (n_257_36 _) rfl ?_
        refine i_if (t := 73) r_257_38 (n_257_38 _) rfl (T_eq q2 ⟨by omega, by omega⟩) (fun c6 => ?_) (fun c6 => ?_)
        · replace h := h.1 c6
          exact wp_pr (l' := [(0, rf 252), (1, iv x1), (2, iv x2), (3, iv x3), (4, iv y1), (5, iv 0), (6, iv (-1))]) rfl h
        · replace h := h.2 c6
          refine i_iload (x := 0) r_257_41 (n_257_41 _) rfl ?_
          refine i_if (t := 73) r_257_43 (n_257_43 _) rfl (T_eq ⟨by omega, by omega⟩ ⟨by omega, by omega⟩) (fun c7 => ?_) (fun c7 => ?_)
          · replace h := h.1 c7
            exact wp_pr (l' := [(0, rf 252), (1, iv x1), (2, iv x2), (3, iv x3), (4, iv y1), (5, iv 0), (6, iv (-1))]) rfl h
          · replace h := h.2 c7
            refine i_aload_n (a := 252) r_257_46 (n_257_46 _) rfl ?_
            refine wp_virt (b := 252) (rest := []) (Ls := [(0, rf 252)]) r_257_47 (n_257_47 _) rfl ⟨rfl, rfl, by decide, by decide⟩ rfl rfl lf_252 ⟨rfl, Nat.le_of_ble_eq_true rfl, Nat.le_of_ble_eq_true rfl⟩ rfl h ?_
            intro o8 s8 h
            rcases h with ⟨rfl, h⟩ | ⟨e8, rfl, h⟩
            · refine .inl ⟨none, rfl, ?_⟩
              refine i_aload_n (a := 252) r_257_50 (n_257_50 _) rfl ?_
              refine i_aload_n (a := 252) r_257_51 (n_257_51 _) rfl ?_
              refine i_aload_n (a := 252) r_257_52 (n_257_52 _) rfl ?_
              refine i_iload_n (x := x1) r_257_53 (n_257_53 _) rfl ?_
              refine i_iconst r_257_54 (n_257_54 _) ?_
              refine wp_virt (b := 252) (rest := [rf 252, rf 252]) (Ls := [(0, rf 252), (1, iv x1), (2, iv 0)]) r_257_55 (n_257_55 _) rfl ⟨rfl, rfl, by decide, by decide⟩ rfl rfl lf_252 ⟨rfl, Nat.le_of_ble_eq_true rfl, Nat.le_of_ble_eq_true rfl⟩ rfl h ?_
              intro o10 s10 h
              rcases h with ⟨y10, q11, rfl, h⟩ | ⟨e10, rfl, h⟩
              · refine .inl ⟨some (iv y10), rfl, ?_⟩
                show wp S 257 58 [(0, rf 252), (1, iv x1), (2, iv x2), (3, iv x3), (4, iv y1), (5, iv 0), (6, iv (-1))] [iv y10, rf 252, rf 252] s10 Q
                refine i_aload_n (a := 252) r_257_58 (n_257_58 _) rfl ?_
                refine i_iload_n (x := x1) r_257_59 (n_257_59 _) rfl ?_
                refine i_iconst r_257_60 (n_257_60 _) ?_
                refine wp_virt (b := 252) (rest := [iv y10, rf 252, rf 252]) (Ls := [(0, rf 252), (1, iv x1), (2, iv 1)]) r_257_61 (n_257_61 _) rfl ⟨rfl, rfl, by decide, by decide⟩ rfl rfl lf_252 ⟨rfl, Nat.le_of_ble_eq_true rfl, Nat.le_of_ble_eq_true rfl⟩ rfl h ?_
                intro o12 s12 h
                rcases h with ⟨y12, q13, rfl, h⟩ | ⟨e12, rfl, h⟩
                · refine .inl ⟨some (iv y12), rfl, ?_⟩
                  show wp S 257 64 [(0, rf 252), (1, iv x1), (2, iv x2), (3, iv x3), (4, iv y1), (5, iv 0), (6, iv (-1))] [iv y12, iv y10, rf 252, rf 252] s12 Q
                  refine i_iload_n (x := x2) r_257_64 (n_257_64 _) rfl ?_
                  refine wp_virt (b := 252) (rest := [rf 252]) (Ls := [(0, rf 252), (1, iv y10), (2, iv y12), (3, iv x2)]) r_257_65 (n_257_65 _) rfl ⟨rfl, rfl, by decide, by decide⟩ rfl rfl lf_252 ⟨rfl, Nat.le_of_ble_eq_true rfl, Nat.le_of_ble_eq_true rfl⟩ rfl h ?_
                  intro o14 s14 h
                  rcases h with ⟨y14, q15, rfl, h⟩ | ⟨e14, rfl, h⟩
                  · refine .inl ⟨some (iv y14), rfl, ?_⟩
                    show wp S 257 68 [(0, rf 252), (1, iv x1), (2, iv x2), (3, iv x3), (4, iv y1), (5, iv 0), (6, iv (-1))] [iv y14, rf 252] s14 Q
                    refine wp_virt (b := 252) (rest := []) (Ls := [(0, rf 252), (1, iv y14)]) r_257_68 (n_257_68 _) rfl ⟨rfl, rfl, by decide, by decide⟩ rfl rfl lf_252 ⟨rfl, Nat.le_of_ble_eq_true rfl, Nat.le_of_ble_eq_true rfl⟩ rfl h ?_
                    intro o16 s16 h
                    rcases h with ⟨y16, q17, rfl, h⟩ | ⟨e16, rfl, h⟩
                    · refine .inl ⟨some (iv y16), rfl, ?_⟩
                      show wp S 257 71 [(0, rf 252), (1, iv x1), (2, iv x2), (3, iv x3), (4, iv y1), (5, iv 0), (6, iv (-1))] [iv y16] s16 Q
                      refine i_istore (l' := [(0, rf 252), (1, iv x1), (2, iv x2), (3, iv x3), (4, iv y1), (5, iv 0), (6, iv y16)]) r_257_71 (n_257_71 _) (by decide) rfl ?_
                      exact wp_pr (l' := [(0, rf 252), (1, iv x1), (2, iv x2), (3, iv x3), (4, iv y1), (5, iv 0), (6, iv y16)]) rfl h
                    · skip
                      exact h.elim
                  · skip
                    exact h.elim
                · skip
                  exact h.elim
              · skip
                exact h.elim
            · skip
              exact h.elim
      · replace h := h.2 c5
        refine i_iload_n (x := x3) r_257_17 (n_257_17 _) rfl ?_
        refine i_iconst r_257_18 (n_257_18 _) ?_
        refine i_iconst r_257_19 (n_257_19 _) ?_
        refine wp_stat (rest := []) (Ls := [(0, iv x3), (1, iv 0), (2, iv 1)]) r_257_20 (n_257_20 _) rfl ⟨rfl, by decide, by decide, by decide⟩ rfl rfl ⟨rfl, Nat.le_of_ble_eq_true rfl, Nat.le_of_ble_eq_true rfl⟩ rfl h ?_
        intro o18 s18 h
        rcases h with ⟨y18, q19, rfl, h⟩ | ⟨e18, rfl, h⟩
        · refine .inl ⟨some (iv y18), rfl, ?_⟩
          show wp S 257 23 [(0, rf 252), (1, iv x1), (2, iv x2), (3, iv x3), (4, iv y1)] [iv y18] s18 Q
          refine i_if (t := 30) r_257_23 (n_257_23 _) rfl (T_eq q19 ⟨by omega, by omega⟩) (fun c20 => ?_) (fun c20 => ?_)
          · replace h := h.1 c20
            refine i_iconst r_257_30 (n_257_30 _) ?_
            refine i_istore (l' := [(0, rf 252), (1, iv x1), (2, iv x2), (3, iv x3), (4, iv y1), (5, iv 0)]) r_257_31 (n_257_31 _) (by decide) rfl ?_
            refine i_iconst r_257_33 (n_257_33 _) ?_
            refine i_istore (l' := [(0, rf 252), (1, iv x1), (2, iv x2), (3, iv x3), (4, iv y1), (5, iv 0), (6, iv (-1))]) r_257_34 (n_257_34 _) (by decide) rfl ?_
            refine i_iload (x := y1) r_257_36 (n_257_36 _) rfl ?_
            refine i_if (t := 73) r_257_38 (n_257_38 _) rfl (T_eq q2 ⟨by omega, by omega⟩) (fun c21 => ?_) (fun c21 => ?_)
            · replace h := h.1 c21
              exact wp_pr (l' := [(0, rf 252), (1, iv x1), (2, iv x2), (3, iv x3), (4, iv y1), (5, iv 0), (6, iv (-1))]) rfl h
            · replace h := h.2 c21
              refine i_iload (x := 0) r_257_41 (n_257_41 _) rfl ?_
              refine i_if (t := 73) r_257_43 (n_257_43 _) rfl (T_eq ⟨by omega, by omega⟩ ⟨by omega, by omega⟩) (fun c22 => ?_) (fun c22 => ?_)
              · replace h := h.1 c22
                exact wp_pr (l' := [(0, rf 252), (1, iv x1), (2, iv x2), (3, iv x3), (4, iv y1), (5, iv 0), (6, iv (-1))]) rfl h
              · replace h := h.2 c22
                refine i_aload_n (a := 252) r_257_46 (n_257_46 _) rfl ?_
                refine wp_virt (b := 252) (rest := []) (Ls := [(0, rf 252)]) r_257_47 (n_257_47 _) rfl ⟨rfl, rfl, by decide, by decide⟩ rfl rfl lf_252 ⟨rfl, Nat.le_of_ble_eq_true rfl, Nat.le_of_ble_eq_true rfl⟩ rfl h ?_
                intro o23 s23 h
                rcases h with ⟨rfl, h⟩ | ⟨e23, rfl, h⟩
                · refine .inl ⟨none, rfl, ?_⟩
                  refine i_aload_n (a := 252) r_257_50 (n_257_50 _) rfl ?_
                  refine i_aload_n (a := 252) r_257_51 (n_257_51 _) rfl ?_
                  refine i_aload_n (a := 252) r_257_52 (n_257_52 _) rfl ?_
                  refine i_iload_n (x := x1) r_257_53 (n_257_53 _) rfl ?_
                  refine i_iconst r_257_54 (n_257_54 _) ?_
                  refine wp_virt (b := 252) (rest := [rf 252, rf 252]) (Ls := [(0, rf 252), (1, iv x1), (2, iv 0)]) r_257_55 (n_257_55 _) rfl ⟨rfl, rfl, by decide, by decide⟩ rfl rfl lf_252 ⟨rfl, Nat.le_of_ble_eq_true rfl, Nat.le_of_ble_eq_true rfl⟩ rfl h ?_
                  intro o25 s25 h
                  rcases h with ⟨y25, q26, rfl, h⟩ | ⟨e25, rfl, h⟩
                  · refine .inl ⟨some (iv y25), rfl, ?_⟩
                    show wp S 257 58 [(0, rf 252), (1, iv x1), (2, iv x2), (3, iv x3), (4, iv y1), (5, iv 0), (6, iv (-1))] [iv y25, rf 252, rf 252] s25 Q
                    refine i_aload_n (a := 252) r_257_58 (n_257_58 _) rfl ?_
                    refine i_iload_n (x := x1) r_257_59 (n_257_59 _) rfl ?_
                    refine i_iconst r_257_60 (n_257_60 _) ?_
                    refine wp_virt (b := 252) (rest := [iv y25, rf 252, rf 252]) (Ls := [(0, rf 252), (1, iv x1), (2, iv 1)]) r_257_61 (n_257_61 _) rfl ⟨rfl, rfl, by decide, by decide⟩ rfl rfl lf_252 ⟨rfl, Nat.le_of_ble_eq_true rfl, Nat.le_of_ble_eq_true rfl⟩ rfl h ?_
                    intro o27 s27 h
                    rcases h with ⟨y27, q28, rfl, h⟩ | ⟨e27, rfl, h⟩
                    · refine .inl ⟨some (iv y27), rfl, ?_⟩
                      show wp S 257 64 [(0, rf 252), (1, iv x1), (2, iv x2), (3, iv x3), (4, iv y1), (5, iv 0), (6, iv (-1))] [iv y27, iv y25, rf 252, rf 252] s27 Q
                      refine i_iload_n (x := x2) r_257_64 (n_257_64 _) rfl ?_
                      refine wp_virt (b := 252) (rest := [rf 252]) (Ls := [(0, rf 252), (1, iv y25), (2, iv y27), (3, iv x2)]) r_257_65 (n_257_65 _) rfl ⟨rfl, rfl, by decide, by decide⟩ rfl rfl lf_252 ⟨rfl, Nat.le_of_ble_eq_true rfl, Nat.le_of_ble_eq_true rfl⟩ rfl h ?_
                      intro o29 s29 h
                      rcases h with ⟨y29, q30, rfl, h⟩ | ⟨e29, rfl, h⟩
                      · refine .inl ⟨some (iv y29), rfl, ?_⟩
                        show wp S 257 68 [(0, rf 252), (1, iv x1), (2, iv x2), (3, iv x3), (4, iv y1), (5, iv 0), (6, iv (-1))] [iv y29, rf 252] s29 Q
                        refine wp_virt (b := 252) (rest := []) (Ls := [(0, rf 252), (1, iv y29)]) r_257_68 (n_257_68 _) rfl ⟨rfl, rfl, by decide, by decide⟩ rfl rfl lf_252 ⟨rfl, Nat.le_of_ble_eq_true rfl, Nat.le_of_ble_eq_true rfl⟩ rfl h ?_
                        intro o31 s31 h
                        rcases h with ⟨y31, q32, rfl, h⟩ | ⟨e31, rfl, h⟩
                        · refine .inl ⟨some (iv y31), rfl, ?_⟩
                          show wp S 257 71 [(0, rf 252), (1, iv x1), (2, iv x2), (3, iv x3), (4, iv y1), (5, iv 0), (6, iv (-1))] [iv y31] s31 Q
                          refine i_istore (l' := [(0, rf 252), (1, iv x1), (2, iv x2), (3, iv x3), (4, iv y1), (5, iv 0), (6, iv y31)]) r_257_71 (n_257_71 _) (by decide) rfl ?_
                          exact wp_pr (l' := [(0, rf 252), (1, iv x1), (2, iv x2), (3, iv x3), (4, iv y1), (5, iv 0), (6, iv y31)]) rfl h
                        · skip
                          exact h.elim
                      · skip
                        exact h.elim
                    · skip
                      exact h.elim
                  · skip
                    exact h.elim
                · skip
                  exact h.elim
          · replace h := h.2 c20
            refine i_iconst r_257_26 (n_257_26 _) ?_
            refine i_goto (t := 31) r_257_27 (n_257_27 _) rfl ?_
            refine i_istore (l' := [(0, rf 252), (1, iv x1), (2, iv x2), (3, iv x3), (4, iv y1), (5, iv 1)]) r_257_31 (n_257_31 _) (by decide) rfl ?_
            refine i_iconst r_257_33 (n_257_33 _) ?_
            refine i_istore (l' := [(0, rf 252), (1, iv x1), (2, iv x2), (3, iv x3), (4, iv y1), (5, iv 1), (6, iv (-1))]) r_257_34 (n_257_34 _) (by decide) rfl ?_
            refine i_iload (x := y1) r_257_36 (n_257_36 _) rfl ?_
            refine i_if (t := 73) r_257_38 (n_257_38 _) rfl (T_eq q2 ⟨by omega, by omega⟩) (fun c33 => ?_) (fun c33 => ?_)
            · replace h := h.1 c33
              exact wp_pr (l' := [(0, rf 252), (1, iv x1), (2, iv x2), (3, iv x3), (4, iv y1), (5, iv 1), (6, iv (-1))]) rfl h
            · replace h := h.2 c33
              refine i_iload (x := 1) r_257_41 (n_257_41 _) rfl ?_
              refine i_if (t := 73) r_257_43 (n_257_43 _) rfl (T_eq ⟨by omega, by omega⟩ ⟨by omega, by omega⟩) (fun c34 => ?_) (fun c34 => ?_)
              · replace h := h.1 c34
                exact wp_pr (l' := [(0, rf 252), (1, iv x1), (2, iv x2), (3, iv x3), (4, iv y1), (5, iv 1), (6, iv (-1))]) rfl h
              · replace h := h.2 c34
                refine i_aload_n (a := 252) r_257_46 (n_257_46 _) rfl ?_
                refine wp_virt (b := 252) (rest := []) (Ls := [(0, rf 252)]) r_257_47 (n_257_47 _) rfl ⟨rfl, rfl, by decide, by decide⟩ rfl rfl lf_252 ⟨rfl, Nat.le_of_ble_eq_true rfl, Nat.le_of_ble_eq_true rfl⟩ rfl h ?_
                intro o35 s35 h
                rcases h with ⟨rfl, h⟩ | ⟨e35, rfl, h⟩
                · refine .inl ⟨none, rfl, ?_⟩
                  refine i_aload_n (a := 252) r_257_50 (n_257_50 _) rfl ?_
                  refine i_aload_n (a := 252) r_257_51 (n_257_51 _) rfl ?_
                  refine i_aload_n (a := 252) r_257_52 (n_257_52 _) rfl ?_
                  refine i_iload_n (x := x1) r_257_53 (n_257_53 _) rfl ?_
                  refine i_iconst r_257_54 (n_257_54 _) ?_
                  refine wp_virt (b := 252) (rest := [rf 252, rf 252]) (Ls := [(0, rf 252), (1, iv x1), (2, iv 0)]) r_257_55 (n_257_55 _) rfl ⟨rfl, rfl, by decide, by decide⟩ rfl rfl lf_252 ⟨rfl, Nat.le_of_ble_eq_true rfl, Nat.le_of_ble_eq_true rfl⟩ rfl h ?_
                  intro o37 s37 h
                  rcases h with ⟨y37, q38, rfl, h⟩ | ⟨e37, rfl, h⟩
                  · refine .inl ⟨some (iv y37), rfl, ?_⟩
                    show wp S 257 58 [(0, rf 252), (1, iv x1), (2, iv x2), (3, iv x3), (4, iv y1), (5, iv 1), (6, iv (-1))] [iv y37, rf 252, rf 252] s37 Q
                    refine i_aload_n (a := 252) r_257_58 (n_257_58 _) rfl ?_
                    refine i_iload_n (x := x1) r_257_59 (n_257_59 _) rfl ?_
                    refine i_iconst r_257_60 (n_257_60 _) ?_
                    refine wp_virt (b := 252) (rest := [iv y37, rf 252, rf 252]) (Ls := [(0, rf 252), (1, iv x1), (2, iv 1)]) r_257_61 (n_257_61 _) rfl ⟨rfl, rfl, by decide, by decide⟩ rfl rfl lf_252 ⟨rfl, Nat.le_of_ble_eq_true rfl, Nat.le_of_ble_eq_true rfl⟩ rfl h ?_
                    intro o39 s39 h
                    rcases h with ⟨y39, q40, rfl, h⟩ | ⟨e39, rfl, h⟩
                    · refine .inl ⟨some (iv y39), rfl, ?_⟩
                      show wp S 257 64 [(0, rf 252), (1, iv x1), (2, iv x2), (3, iv x3), (4, iv y1), (5, iv 1), (6, iv (-1))] [iv y39, iv y37, rf 252, rf 252] s39 Q
                      refine i_iload_n (x := x2) r_257_64 (n_257_64 _) rfl ?_
                      refine wp_virt (b := 252) (rest := [rf 252]) (Ls := [(0, rf 252), (1, iv y37), (2, iv y39), (3, iv x2)]) r_257_65 (n_257_65 _) rfl ⟨rfl, rfl, by decide, by decide⟩ rfl rfl lf_252 ⟨rfl, Nat.le_of_ble_eq_true rfl, Nat.le_of_ble_eq_true rfl⟩ rfl h ?_
                      intro o41 s41 h
                      rcases h with ⟨y41, q42, rfl, h⟩ | ⟨e41, rfl, h⟩
                      · refine .inl ⟨some (iv y41), rfl, ?_⟩
                        show wp S 257 68 [(0, rf 252), (1, iv x1), (2, iv x2), (3, iv x3), (4, iv y1), (5, iv 1), (6, iv (-1))] [iv y41, rf 252] s41 Q
                        refine wp_virt (b := 252) (rest := []) (Ls := [(0, rf 252), (1, iv y41)]) r_257_68 (n_257_68 _) rfl ⟨rfl, rfl, by decide, by decide⟩ rfl rfl lf_252 ⟨rfl, Nat.le_of_ble_eq_true rfl, Nat.le_of_ble_eq_true rfl⟩ rfl h ?_
                        intro o43 s43 h
                        rcases h with ⟨y43, q44, rfl, h⟩ | ⟨e43, rfl, h⟩
                        · refine .inl ⟨some (iv y43), rfl, ?_⟩
                          show wp S 257 71 [(0, rf 252), (1, iv x1), (2, iv x2), (3, iv x3), (4, iv y1), (5, iv 1), (6, iv (-1))] [iv y43] s43 Q
                          refine i_istore (l' := [(0, rf 252), (1, iv x1), (2, iv x2), (3, iv x3), (4, iv y1), (5, iv 1), (6, iv y43)]) r_257_71 (n_257_71 _) (by decide) rfl ?_
                          exact wp_pr (l' := [(0, rf 252), (1, iv x1), (2, iv x2), (3, iv x3), (4, iv y1), (5, iv 1), (6, iv y43)]) rfl h
                        · skip
                          exact h.elim
                      · skip
                        exact h.elim
                    · skip
                      exact h.elim
                  · skip
                    exact h.elim
                · skip
                  exact h.elim
        · skip
          exact h.elim
    · skip
      exact h.elim
  · skip
    exact h.elim
theorem v_Model_convert_73 {S : Option (Nat × (Nat → Int32))} {s : zSt} {Q : Option Value ⊕ Nat → zSt → Prop} {x1 : Int} {x2 : Int} {x3 : Int} {x4 : Int} {x5 : Int} {x6 : Int} 
    (h : rng x4 ∧ ((x4 ≠ 0 → rng x5 ∧ ((x5 ≠ 0 → rng x6 ∧ ((x6 ≠ (-1) → wp S 179 0 [(0, rf 252), (1, iv 0)] [] s (fun o7 s7 => zkI (fun y7 => (y7 = 0 → wp S 182 0 [(0, rf 252)] [] s7 (fun o10 s10 => zkU (wp S 258 0 [(0, rf 252), (1, iv x1)] [] s10 (fun o12 s12 => zkU (wp S 236 0 [(0, rf 252), (1, iv x1), (2, iv 0)] [] s12 (fun o14 s14 => zkI (fun y14 => wp S 236 0 [(0, rf 252), (1, iv x1), (2, iv 1)] [] s14 (fun o16 s16 => zkI (fun y16 => wp S 237 0 [(0, rf 252), (1, iv x1), (2, iv y14), (3, iv y16), (4, iv x2), (5, iv x3), (6, iv x6)] [] s16 (fun o18 s18 => zkU (wp S 257 144 [(0, rf 252), (1, iv x1), (6, iv x6), (7, iv 0)] [] s18 Q) (fun e18 => False) o18)) (fun e16 => False) o16)) (fun e14 => False) o14)) (fun e12 => False) o12)) (fun e10 => False) o10)) ∧ (y7 ≠ 0 → Q (rI 0) s7)) (fun e7 => False) o7)) ∧ (x6 = (-1) → wp S 179 0 [(0, rf 252), (1, iv 3)] [] s (fun o20 s20 => zkI (fun y20 => (y20 = 0 → wp S 182 0 [(0, rf 252)] [] s20 (fun o23 s23 => zkU (wp S 258 0 [(0, rf 252), (1, iv x1)] [] s23 (fun o25 s25 => zkU (wp S 236 0 [(0, rf 252), (1, iv x1), (2, iv 0)] [] s25 (fun o27 s27 => zkI (fun y27 => wp S 236 0 [(0, rf 252), (1, iv x1), (2, iv 1)] [] s27 (fun o29 s29 => zkI (fun y29 => wp S 237 0 [(0, rf 252), (1, iv x1), (2, iv y27), (3, iv y29), (4, iv x2), (5, iv x3), (6, iv x6)] [] s29 (fun o31 s31 => zkU (wp S 257 144 [(0, rf 252), (1, iv x1), (6, iv x6), (7, iv 0)] [] s31 Q) (fun e31 => False) o31)) (fun e29 => False) o29)) (fun e27 => False) o27)) (fun e25 => False) o25)) (fun e23 => False) o23)) ∧ (y20 ≠ 0 → Q (rI 0) s20)) (fun e20 => False) o20)))) ∧ (x5 = 0 → wp S 179 0 [(0, rf 252), (1, iv 2)] [] s (fun o33 s33 => zkI (fun y33 => (y33 = 0 → wp S 182 0 [(0, rf 252)] [] s33 (fun o36 s36 => zkU (wp S 258 0 [(0, rf 252), (1, iv x1)] [] s36 (fun o38 s38 => zkU (wp S 236 0 [(0, rf 252), (1, iv x1), (2, iv 0)] [] s38 (fun o40 s40 => zkI (fun y40 => wp S 236 0 [(0, rf 252), (1, iv x1), (2, iv 1)] [] s40 (fun o42 s42 => zkI (fun y42 => wp S 237 0 [(0, rf 252), (1, iv x1), (2, iv y40), (3, iv y42), (4, iv x2), (5, iv x3), (6, iv x6)] [] s42 (fun o44 s44 => zkU (wp S 257 144 [(0, rf 252), (1, iv x1), (6, iv x6), (7, iv 0)] [] s44 Q) (fun e44 => False) o44)) (fun e42 => False) o42)) (fun e40 => False) o40)) (fun e38 => False) o38)) (fun e36 => False) o36)) ∧ (y33 ≠ 0 → Q (rI 0) s33)) (fun e33 => False) o33)))) ∧ (x4 = 0 → wp S 179 0 [(0, rf 252), (1, iv 1)] [] s (fun o46 s46 => zkI (fun y46 => (y46 = 0 → wp S 182 0 [(0, rf 252)] [] s46 (fun o49 s49 => zkU (wp S 258 0 [(0, rf 252), (1, iv x1)] [] s49 (fun o51 s51 => zkU (wp S 236 0 [(0, rf 252), (1, iv x1), (2, iv 0)] [] s51 (fun o53 s53 => zkI (fun y53 => wp S 236 0 [(0, rf 252), (1, iv x1), (2, iv 1)] [] s53 (fun o55 s55 => zkI (fun y55 => wp S 237 0 [(0, rf 252), (1, iv x1), (2, iv y53), (3, iv y55), (4, iv x2), (5, iv x3), (6, iv x6)] [] s55 (fun o57 s57 => zkU (wp S 257 144 [(0, rf 252), (1, iv x1), (6, iv x6), (7, iv 0)] [] s57 Q) (fun e57 => False) o57)) (fun e55 => False) o55)) (fun e53 => False) o53)) (fun e51 => False) o51)) (fun e49 => False) o49)) ∧ (y46 ≠ 0 → Q (rI 0) s46)) (fun e46 => False) o46)))) :
    wp S 257 73 [(0, rf 252), (1, iv x1), (2, iv x2), (3, iv x3), (4, iv x4), (5, iv x5), (6, iv x6)] [] s Q := by
  refine i_aload_n (a := 252) r_257_73 rfl rfl ?_
  refine i_iload (x := x4) r_257_74 (n_257_74 _) rfl ?_
  obtain ⟨g1, h⟩ := h
  refine i_if (t := 83) r_257_76 (n_257_76 _) rfl (T_ne g1 ⟨by omega, by omega⟩) (fun c2 => ?_) (fun c2 => ?_)
  · replace h := h.1 c2
    refine i_iload (x := x5) r_257_83 (n_257_83 _) rfl ?_
    obtain ⟨g3, h⟩ := h
    refine i_if (t := 92) r_257_85 (n_257_85 _) rfl (T_ne g3 ⟨by omega, by omega⟩) (fun c4 => ?_) (fun c4 => ?_)
    · replace h := h.1 c4
      refine i_iload (x := x6) r_257_92 (n_257_92 _) rfl ?_
      refine i_iconst r_257_94 (n_257_94 _) ?_
      obtain ⟨g5, h⟩ := h
      refine i_icmp (t := 102) r_257_95 (n_257_95 _) rfl (T_ne g5 ⟨by omega, by omega⟩) (fun c6 => ?_) (fun c6 => ?_)
      · replace h := h.1 c6
        refine i_iconst r_257_102 (n_257_102 _) ?_
        refine wp_virt (b := 252) (rest := []) (Ls := [(0, rf 252), (1, iv 0)]) r_257_103 (n_257_103 _) rfl ⟨rfl, rfl, by decide, by decide⟩ rfl rfl lf_252 ⟨rfl, Nat.le_of_ble_eq_true rfl, Nat.le_of_ble_eq_true rfl⟩ rfl h ?_
        intro o7 s7 h
        rcases h with ⟨y7, q8, rfl, h⟩ | ⟨e7, rfl, h⟩
        · refine .inl ⟨some (iv y7), rfl, ?_⟩
          show wp S 257 106 [(0, rf 252), (1, iv x1), (2, iv x2), (3, iv x3), (4, iv x4), (5, iv x5), (6, iv x6)] [iv y7] s7 Q
          refine i_if (t := 111) r_257_106 (n_257_106 _) rfl (T_eq q8 ⟨by omega, by omega⟩) (fun c9 => ?_) (fun c9 => ?_)
          · replace h := h.1 c9
            refine i_aload_n (a := 252) r_257_111 (n_257_111 _) rfl ?_
            refine wp_virt (b := 252) (rest := []) (Ls := [(0, rf 252)]) r_257_112 (n_257_112 _) rfl ⟨rfl, rfl, by decide, by decide⟩ rfl rfl lf_252 ⟨rfl, Nat.le_of_ble_eq_true rfl, Nat.le_of_ble_eq_true rfl⟩ rfl h ?_
            intro o10 s10 h
            rcases h with ⟨rfl, h⟩ | ⟨e10, rfl, h⟩
            · refine .inl ⟨none, rfl, ?_⟩
              refine i_aload_n (a := 252) r_257_115 (n_257_115 _) rfl ?_
              refine i_iload_n (x := x1) r_257_116 (n_257_116 _) rfl ?_
              refine wp_virt (b := 252) (rest := []) (Ls := [(0, rf 252), (1, iv x1)]) r_257_117 (n_257_117 _) rfl ⟨rfl, rfl, by decide, by decide⟩ rfl rfl lf_252 ⟨rfl, Nat.le_of_ble_eq_true rfl, Nat.le_of_ble_eq_true rfl⟩ rfl h ?_
              intro o12 s12 h
              rcases h with ⟨rfl, h⟩ | ⟨e12, rfl, h⟩
              · refine .inl ⟨none, rfl, ?_⟩
                refine i_aload_n (a := 252) r_257_120 (n_257_120 _) rfl ?_
                refine i_iload_n (x := x1) r_257_121 (n_257_121 _) rfl ?_
                refine i_aload_n (a := 252) r_257_122 (n_257_122 _) rfl ?_
                refine i_iload_n (x := x1) r_257_123 (n_257_123 _) rfl ?_
                refine i_iconst r_257_124 (n_257_124 _) ?_
                refine wp_virt (b := 252) (rest := [iv x1, rf 252]) (Ls := [(0, rf 252), (1, iv x1), (2, iv 0)]) r_257_125 (n_257_125 _) rfl ⟨rfl, rfl, by decide, by decide⟩ rfl rfl lf_252 ⟨rfl, Nat.le_of_ble_eq_true rfl, Nat.le_of_ble_eq_true rfl⟩ rfl h ?_
                intro o14 s14 h
                rcases h with ⟨y14, q15, rfl, h⟩ | ⟨e14, rfl, h⟩
                · refine .inl ⟨some (iv y14), rfl, ?_⟩
                  show wp S 257 128 [(0, rf 252), (1, iv x1), (2, iv x2), (3, iv x3), (4, iv x4), (5, iv x5), (6, iv x6)] [iv y14, iv x1, rf 252] s14 Q
                  refine i_aload_n (a := 252) r_257_128 (n_257_128 _) rfl ?_
                  refine i_iload_n (x := x1) r_257_129 (n_257_129 _) rfl ?_
                  refine i_iconst r_257_130 (n_257_130 _) ?_
                  refine wp_virt (b := 252) (rest := [iv y14, iv x1, rf 252]) (Ls := [(0, rf 252), (1, iv x1), (2, iv 1)]) r_257_131 (n_257_131 _) rfl ⟨rfl, rfl, by decide, by decide⟩ rfl rfl lf_252 ⟨rfl, Nat.le_of_ble_eq_true rfl, Nat.le_of_ble_eq_true rfl⟩ rfl h ?_
                  intro o16 s16 h
                  rcases h with ⟨y16, q17, rfl, h⟩ | ⟨e16, rfl, h⟩
                  · refine .inl ⟨some (iv y16), rfl, ?_⟩
                    show wp S 257 134 [(0, rf 252), (1, iv x1), (2, iv x2), (3, iv x3), (4, iv x4), (5, iv x5), (6, iv x6)] [iv y16, iv y14, iv x1, rf 252] s16 Q
                    refine i_iload_n (x := x2) r_257_134 (n_257_134 _) rfl ?_
                    refine i_iload_n (x := x3) r_257_135 (n_257_135 _) rfl ?_
                    refine i_iload (x := x6) r_257_136 (n_257_136 _) rfl ?_
                    refine wp_virt (b := 252) (rest := []) (Ls := [(0, rf 252), (1, iv x1), (2, iv y14), (3, iv y16), (4, iv x2), (5, iv x3), (6, iv x6)]) r_257_138 (n_257_138 _) rfl ⟨rfl, rfl, by decide, by decide⟩ rfl rfl lf_252 ⟨rfl, Nat.le_of_ble_eq_true rfl, Nat.le_of_ble_eq_true rfl⟩ rfl h ?_
                    intro o18 s18 h
                    rcases h with ⟨rfl, h⟩ | ⟨e18, rfl, h⟩
                    · refine .inl ⟨none, rfl, ?_⟩
                      refine i_iconst r_257_141 (n_257_141 _) ?_
                      refine i_istore (l' := [(0, rf 252), (1, iv x1), (2, iv x2), (3, iv x3), (4, iv x4), (5, iv x5), (6, iv x6), (7, iv 0)]) r_257_142 (n_257_142 _) (by decide) rfl ?_
                      exact wp_pr (l' := [(0, rf 252), (1, iv x1), (6, iv x6), (7, iv 0)]) rfl h
                    · skip
                      exact h.elim
                  · skip
                    exact h.elim
                · skip
                  exact h.elim
              · skip
                exact h.elim
            · skip
              exact h.elim
          · replace h := h.2 c9
            refine i_iconst r_257_109 (n_257_109 _) ?_
            exact i_ireturn r_257_110 (n_257_110 _) rfl h
        · skip
          exact h.elim
      · replace h := h.2 c6
        refine i_iconst r_257_98 (n_257_98 _) ?_
        refine i_goto (t := 103) r_257_99 (n_257_99 _) rfl ?_
        refine wp_virt (b := 252) (rest := []) (Ls := [(0, rf 252), (1, iv 3)]) r_257_103 (n_257_103 _) rfl ⟨rfl, rfl, by decide, by decide⟩ rfl rfl lf_252 ⟨rfl, Nat.le_of_ble_eq_true rfl, Nat.le_of_ble_eq_true rfl⟩ rfl h ?_
        intro o20 s20 h
        rcases h with ⟨y20, q21, rfl, h⟩ | ⟨e20, rfl, h⟩
        · refine .inl ⟨some (iv y20), rfl, ?_⟩
          show wp S 257 106 [(0, rf 252), (1, iv x1), (2, iv x2), (3, iv x3), (4, iv x4), (5, iv x5), (6, iv x6)] [iv y20] s20 Q
          refine i_if (t := 111) r_257_106 (n_257_106 _) rfl (T_eq q21 ⟨by omega, by omega⟩) (fun c22 => ?_) (fun c22 => ?_)
          · replace h := h.1 c22
            refine i_aload_n (a := 252) r_257_111 (n_257_111 _) rfl ?_
            refine wp_virt (b := 252) (rest := []) (Ls := [(0, rf 252)]) r_257_112 (n_257_112 _) rfl ⟨rfl, rfl, by decide, by decide⟩ rfl rfl lf_252 ⟨rfl, Nat.le_of_ble_eq_true rfl, Nat.le_of_ble_eq_true rfl⟩ rfl h ?_
            intro o23 s23 h
            rcases h with ⟨rfl, h⟩ | ⟨e23, rfl, h⟩
            · refine .inl ⟨none, rfl, ?_⟩
              refine i_aload_n (a := 252) r_257_115 (n_257_115 _) rfl ?_
              refine i_iload_n (x := x1) r_257_116 (n_257_116 _) rfl ?_
              refine wp_virt (b := 252) (rest := []) (Ls := [(0, rf 252), (1, iv x1)]) r_257_117 (n_257_117 _) rfl ⟨rfl, rfl, by decide, by decide⟩ rfl rfl lf_252 ⟨rfl, Nat.le_of_ble_eq_true rfl, Nat.le_of_ble_eq_true rfl⟩ rfl h ?_
              intro o25 s25 h
              rcases h with ⟨rfl, h⟩ | ⟨e25, rfl, h⟩
              · refine .inl ⟨none, rfl, ?_⟩
                refine i_aload_n (a := 252) r_257_120 (n_257_120 _) rfl ?_
                refine i_iload_n (x := x1) r_257_121 (n_257_121 _) rfl ?_
                refine i_aload_n (a := 252) r_257_122 (n_257_122 _) rfl ?_
                refine i_iload_n (x := x1) r_257_123 (n_257_123 _) rfl ?_
                refine i_iconst r_257_124 (n_257_124 _) ?_
                refine wp_virt (b := 252) (rest := [iv x1, rf 252]) (Ls := [(0, rf 252), (1, iv x1), (2, iv 0)]) r_257_125 (n_257_125 _) rfl ⟨rfl, rfl, by decide, by decide⟩ rfl rfl lf_252 ⟨rfl, Nat.le_of_ble_eq_true rfl, Nat.le_of_ble_eq_true rfl⟩ rfl h ?_
                intro o27 s27 h
                rcases h with ⟨y27, q28, rfl, h⟩ | ⟨e27, rfl, h⟩
                · refine .inl ⟨some (iv y27), rfl, ?_⟩
                  show wp S 257 128 [(0, rf 252), (1, iv x1), (2, iv x2), (3, iv x3), (4, iv x4), (5, iv x5), (6, iv x6)] [iv y27, iv x1, rf 252] s27 Q
                  refine i_aload_n (a := 252) r_257_128 (n_257_128 _) rfl ?_
                  refine i_iload_n (x := x1) r_257_129 (n_257_129 _) rfl ?_
                  refine i_iconst r_257_130 (n_257_130 _) ?_
                  refine wp_virt (b := 252) (rest := [iv y27, iv x1, rf 252]) (Ls := [(0, rf 252), (1, iv x1), (2, iv 1)]) r_257_131 (n_257_131 _) rfl ⟨rfl, rfl, by decide, by decide⟩ rfl rfl lf_252 ⟨rfl, Nat.le_of_ble_eq_true rfl, Nat.le_of_ble_eq_true rfl⟩ rfl h ?_
                  intro o29 s29 h
                  rcases h with ⟨y29, q30, rfl, h⟩ | ⟨e29, rfl, h⟩
                  · refine .inl ⟨some (iv y29), rfl, ?_⟩
                    show wp S 257 134 [(0, rf 252), (1, iv x1), (2, iv x2), (3, iv x3), (4, iv x4), (5, iv x5), (6, iv x6)] [iv y29, iv y27, iv x1, rf 252] s29 Q
                    refine i_iload_n (x := x2) r_257_134 (n_257_134 _) rfl ?_
                    refine i_iload_n (x := x3) r_257_135 (n_257_135 _) rfl ?_
                    refine i_iload (x := x6) r_257_136 (n_257_136 _) rfl ?_
                    refine wp_virt (b := 252) (rest := []) (Ls := [(0, rf 252), (1, iv x1), (2, iv y27), (3, iv y29), (4, iv x2), (5, iv x3), (6, iv x6)]) r_257_138 (n_257_138 _) rfl ⟨rfl, rfl, by decide, by decide⟩ rfl rfl lf_252 ⟨rfl, Nat.le_of_ble_eq_true rfl, Nat.le_of_ble_eq_true rfl⟩ rfl h ?_
                    intro o31 s31 h
                    rcases h with ⟨rfl, h⟩ | ⟨e31, rfl, h⟩
                    · refine .inl ⟨none, rfl, ?_⟩
                      refine i_iconst r_257_141 (n_257_141 _) ?_
                      refine i_istore (l' := [(0, rf 252), (1, iv x1), (2, iv x2), (3, iv x3), (4, iv x4), (5, iv x5), (6, iv x6), (7, iv 0)]) r_257_142 (n_257_142 _) (by decide) rfl ?_
                      exact wp_pr (l' := [(0, rf 252), (1, iv x1), (6, iv x6), (7, iv 0)]) rfl h
                    · skip
                      exact h.elim
                  · skip
                    exact h.elim
                · skip
                  exact h.elim
              · skip
                exact h.elim
            · skip
              exact h.elim
          · replace h := h.2 c22
            refine i_iconst r_257_109 (n_257_109 _) ?_
            exact i_ireturn r_257_110 (n_257_110 _) rfl h
        · skip
          exact h.elim
    · replace h := h.2 c4
      refine i_iconst r_257_88 (n_257_88 _) ?_
      refine i_goto (t := 103) r_257_89 (n_257_89 _) rfl ?_
      refine wp_virt (b := 252) (rest := []) (Ls := [(0, rf 252), (1, iv 2)]) r_257_103 (n_257_103 _) rfl ⟨rfl, rfl, by decide, by decide⟩ rfl rfl lf_252 ⟨rfl, Nat.le_of_ble_eq_true rfl, Nat.le_of_ble_eq_true rfl⟩ rfl h ?_
      intro o33 s33 h
      rcases h with ⟨y33, q34, rfl, h⟩ | ⟨e33, rfl, h⟩
      · refine .inl ⟨some (iv y33), rfl, ?_⟩
        show wp S 257 106 [(0, rf 252), (1, iv x1), (2, iv x2), (3, iv x3), (4, iv x4), (5, iv x5), (6, iv x6)] [iv y33] s33 Q
        refine i_if (t := 111) r_257_106 (n_257_106 _) rfl (T_eq q34 ⟨by omega, by omega⟩) (fun c35 => ?_) (fun c35 => ?_)
        · replace h := h.1 c35
          refine i_aload_n (a := 252) r_257_111 (n_257_111 _) rfl ?_
          refine wp_virt (b := 252) (rest := []) (Ls := [(0, rf 252)]) r_257_112 (n_257_112 _) rfl ⟨rfl, rfl, by decide, by decide⟩ rfl rfl lf_252 ⟨rfl, Nat.le_of_ble_eq_true rfl, Nat.le_of_ble_eq_true rfl⟩ rfl h ?_
          intro o36 s36 h
          rcases h with ⟨rfl, h⟩ | ⟨e36, rfl, h⟩
          · refine .inl ⟨none, rfl, ?_⟩
            refine i_aload_n (a := 252) r_257_115 (n_257_115 _) rfl ?_
            refine i_iload_n (x := x1) r_257_116 (n_257_116 _) rfl ?_
            refine wp_virt (b := 252) (rest := []) (Ls := [(0, rf 252), (1, iv x1)]) r_257_117 (n_257_117 _) rfl ⟨rfl, rfl, by decide, by decide⟩ rfl rfl lf_252 ⟨rfl, Nat.le_of_ble_eq_true rfl, Nat.le_of_ble_eq_true rfl⟩ rfl h ?_
            intro o38 s38 h
            rcases h with ⟨rfl, h⟩ | ⟨e38, rfl, h⟩
            · refine .inl ⟨none, rfl, ?_⟩
              refine i_aload_n (a := 252) r_257_120 (n_257_120 _) rfl ?_
              refine i_iload_n (x := x1) r_257_121 (n_257_121 _) rfl ?_
              refine i_aload_n (a := 252) r_257_122 (n_257_122 _) rfl ?_
              refine i_iload_n (x := x1) r_257_123 (n_257_123 _) rfl ?_
              refine i_iconst r_257_124 (n_257_124 _) ?_
              refine wp_virt (b := 252) (rest := [iv x1, rf 252]) (Ls := [(0, rf 252), (1, iv x1), (2, iv 0)]) r_257_125 (n_257_125 _) rfl ⟨rfl, rfl, by decide, by decide⟩ rfl rfl lf_252 ⟨rfl, Nat.le_of_ble_eq_true rfl, Nat.le_of_ble_eq_true rfl⟩ rfl h ?_
              intro o40 s40 h
              rcases h with ⟨y40, q41, rfl, h⟩ | ⟨e40, rfl, h⟩
              · refine .inl ⟨some (iv y40), rfl, ?_⟩
                show wp S 257 128 [(0, rf 252), (1, iv x1), (2, iv x2), (3, iv x3), (4, iv x4), (5, iv x5), (6, iv x6)] [iv y40, iv x1, rf 252] s40 Q
                refine i_aload_n (a := 252) r_257_128 (n_257_128 _) rfl ?_
                refine i_iload_n (x := x1) r_257_129 (n_257_129 _) rfl ?_
                refine i_iconst r_257_130 (n_257_130 _) ?_
                refine wp_virt (b := 252) (rest := [iv y40, iv x1, rf 252]) (Ls := [(0, rf 252), (1, iv x1), (2, iv 1)]) r_257_131 (n_257_131 _) rfl ⟨rfl, rfl, by decide, by decide⟩ rfl rfl lf_252 ⟨rfl, Nat.le_of_ble_eq_true rfl, Nat.le_of_ble_eq_true rfl⟩ rfl h ?_
                intro o42 s42 h
                rcases h with ⟨y42, q43, rfl, h⟩ | ⟨e42, rfl, h⟩
                · refine .inl ⟨some (iv y42), rfl, ?_⟩
                  show wp S 257 134 [(0, rf 252), (1, iv x1), (2, iv x2), (3, iv x3), (4, iv x4), (5, iv x5), (6, iv x6)] [iv y42, iv y40, iv x1, rf 252] s42 Q
                  refine i_iload_n (x := x2) r_257_134 (n_257_134 _) rfl ?_
                  refine i_iload_n (x := x3) r_257_135 (n_257_135 _) rfl ?_
                  refine i_iload (x := x6) r_257_136 (n_257_136 _) rfl ?_
                  refine wp_virt (b := 252) (rest := []) (Ls := [(0, rf 252), (1, iv x1), (2, iv y40), (3, iv y42), (4, iv x2), (5, iv x3), (6, iv x6)]) r_257_138 (n_257_138 _) rfl ⟨rfl, rfl, by decide, by decide⟩ rfl rfl lf_252 ⟨rfl, Nat.le_of_ble_eq_true rfl, Nat.le_of_ble_eq_true rfl⟩ rfl h ?_
                  intro o44 s44 h
                  rcases h with ⟨rfl, h⟩ | ⟨e44, rfl, h⟩
                  · refine .inl ⟨none, rfl, ?_⟩
                    refine i_iconst r_257_141 (n_257_141 _) ?_
                    refine i_istore (l' := [(0, rf 252), (1, iv x1), (2, iv x2), (3, iv x3), (4, iv x4), (5, iv x5), (6, iv x6), (7, iv 0)]) r_257_142 (n_257_142 _) (by decide) rfl ?_
                    exact wp_pr (l' := [(0, rf 252), (1, iv x1), (6, iv x6), (7, iv 0)]) rfl h
                  · skip
                    exact h.elim
                · skip
                  exact h.elim
              · skip
                exact h.elim
            · skip
              exact h.elim
          · skip
            exact h.elim
        · replace h := h.2 c35
          refine i_iconst r_257_109 (n_257_109 _) ?_
          exact i_ireturn r_257_110 (n_257_110 _) rfl h
      · skip
        exact h.elim
  · replace h := h.2 c2
    refine i_iconst r_257_79 (n_257_79 _) ?_
    refine i_goto (t := 103) r_257_80 (n_257_80 _) rfl ?_
    refine wp_virt (b := 252) (rest := []) (Ls := [(0, rf 252), (1, iv 1)]) r_257_103 (n_257_103 _) rfl ⟨rfl, rfl, by decide, by decide⟩ rfl rfl lf_252 ⟨rfl, Nat.le_of_ble_eq_true rfl, Nat.le_of_ble_eq_true rfl⟩ rfl h ?_
    intro o46 s46 h
    rcases h with ⟨y46, q47, rfl, h⟩ | ⟨e46, rfl, h⟩
    · refine .inl ⟨some (iv y46), rfl, ?_⟩
      show wp S 257 106 [(0, rf 252), (1, iv x1), (2, iv x2), (3, iv x3), (4, iv x4), (5, iv x5), (6, iv x6)] [iv y46] s46 Q
      refine i_if (t := 111) r_257_106 (n_257_106 _) rfl (T_eq q47 ⟨by omega, by omega⟩) (fun c48 => ?_) (fun c48 => ?_)
      · replace h := h.1 c48
        refine i_aload_n (a := 252) r_257_111 (n_257_111 _) rfl ?_
        refine wp_virt (b := 252) (rest := []) (Ls := [(0, rf 252)]) r_257_112 (n_257_112 _) rfl ⟨rfl, rfl, by decide, by decide⟩ rfl rfl lf_252 ⟨rfl, Nat.le_of_ble_eq_true rfl, Nat.le_of_ble_eq_true rfl⟩ rfl h ?_
        intro o49 s49 h
        rcases h with ⟨rfl, h⟩ | ⟨e49, rfl, h⟩
        · refine .inl ⟨none, rfl, ?_⟩
          refine i_aload_n (a := 252) r_257_115 (n_257_115 _) rfl ?_
          refine i_iload_n (x := x1) r_257_116 (n_257_116 _) rfl ?_
          refine wp_virt (b := 252) (rest := []) (Ls := [(0, rf 252), (1, iv x1)]) r_257_117 (n_257_117 _) rfl ⟨rfl, rfl, by decide, by decide⟩ rfl rfl lf_252 ⟨rfl, Nat.le_of_ble_eq_true rfl, Nat.le_of_ble_eq_true rfl⟩ rfl h ?_
          intro o51 s51 h
          rcases h with ⟨rfl, h⟩ | ⟨e51, rfl, h⟩
          · refine .inl ⟨none, rfl, ?_⟩
            refine i_aload_n (a := 252) r_257_120 (n_257_120 _) rfl ?_
            refine i_iload_n (x := x1) r_257_121 (n_257_121 _) rfl ?_
            refine i_aload_n (a := 252) r_257_122 (n_257_122 _) rfl ?_
            refine i_iload_n (x := x1) r_257_123 (n_257_123 _) rfl ?_
            refine i_iconst r_257_124 (n_257_124 _) ?_
            refine wp_virt (b := 252) (rest := [iv x1, rf 252]) (Ls := [(0, rf 252), (1, iv x1), (2, iv 0)]) r_257_125 (n_257_125 _) rfl ⟨rfl, rfl, by decide, by decide⟩ rfl rfl lf_252 ⟨rfl, Nat.le_of_ble_eq_true rfl, Nat.le_of_ble_eq_true rfl⟩ rfl h ?_
            intro o53 s53 h
            rcases h with ⟨y53, q54, rfl, h⟩ | ⟨e53, rfl, h⟩
            · refine .inl ⟨some (iv y53), rfl, ?_⟩
              show wp S 257 128 [(0, rf 252), (1, iv x1), (2, iv x2), (3, iv x3), (4, iv x4), (5, iv x5), (6, iv x6)] [iv y53, iv x1, rf 252] s53 Q
              refine i_aload_n (a := 252) r_257_128 (n_257_128 _) rfl ?_
              refine i_iload_n (x := x1) r_257_129 (n_257_129 _) rfl ?_
              refine i_iconst r_257_130 (n_257_130 _) ?_
              refine wp_virt (b := 252) (rest := [iv y53, iv x1, rf 252]) (Ls := [(0, rf 252), (1, iv x1), (2, iv 1)]) r_257_131 (n_257_131 _) rfl ⟨rfl, rfl, by decide, by decide⟩ rfl rfl lf_252 ⟨rfl, Nat.le_of_ble_eq_true rfl, Nat.le_of_ble_eq_true rfl⟩ rfl h ?_
              intro o55 s55 h
              rcases h with ⟨y55, q56, rfl, h⟩ | ⟨e55, rfl, h⟩
              · refine .inl ⟨some (iv y55), rfl, ?_⟩
                show wp S 257 134 [(0, rf 252), (1, iv x1), (2, iv x2), (3, iv x3), (4, iv x4), (5, iv x5), (6, iv x6)] [iv y55, iv y53, iv x1, rf 252] s55 Q
                refine i_iload_n (x := x2) r_257_134 (n_257_134 _) rfl ?_
                refine i_iload_n (x := x3) r_257_135 (n_257_135 _) rfl ?_
                refine i_iload (x := x6) r_257_136 (n_257_136 _) rfl ?_
                refine wp_virt (b := 252) (rest := []) (Ls := [(0, rf 252), (1, iv x1), (2, iv y53), (3, iv y55), (4, iv x2), (5, iv x3), (6, iv x6)]) r_257_138 (n_257_138 _) rfl ⟨rfl, rfl, by decide, by decide⟩ rfl rfl lf_252 ⟨rfl, Nat.le_of_ble_eq_true rfl, Nat.le_of_ble_eq_true rfl⟩ rfl h ?_
                intro o57 s57 h
                rcases h with ⟨rfl, h⟩ | ⟨e57, rfl, h⟩
                · refine .inl ⟨none, rfl, ?_⟩
                  refine i_iconst r_257_141 (n_257_141 _) ?_
                  refine i_istore (l' := [(0, rf 252), (1, iv x1), (2, iv x2), (3, iv x3), (4, iv x4), (5, iv x5), (6, iv x6), (7, iv 0)]) r_257_142 (n_257_142 _) (by decide) rfl ?_
                  exact wp_pr (l' := [(0, rf 252), (1, iv x1), (6, iv x6), (7, iv 0)]) rfl h
                · skip
                  exact h.elim
              · skip
                exact h.elim
            · skip
              exact h.elim
          · skip
            exact h.elim
        · skip
          exact h.elim
      · replace h := h.2 c48
        refine i_iconst r_257_109 (n_257_109 _) ?_
        exact i_ireturn r_257_110 (n_257_110 _) rfl h
    · skip
      exact h.elim
theorem v_Model_convert_144 {S : Option (Nat × (Nat → Int32))} {s : zSt} {Q : Option Value ⊕ Nat → zSt → Prop} {x1 : Int} {x6 : Int} {x7 : Int} 
    (h : wp S 236 0 [(0, rf 252), (1, iv x1), (2, iv 1)] [] s (fun o1 s1 => zkI (fun y1 => rng x7 ∧ ((y1 ≤ x7 → Q (rI x6) s1) ∧ (x7 < y1 → wp S 257 158 [(0, rf 252), (1, iv x1), (6, iv x6), (7, iv x7), (8, iv 0)] [] s1 Q))) (fun e1 => False) o1)) :
    wp S 257 144 [(0, rf 252), (1, iv x1), (6, iv x6), (7, iv x7)] [] s Q := by
  refine i_iload (x := x7) r_257_144 rfl rfl ?_
  refine i_aload_n (a := 252) r_257_146 (n_257_146 _) rfl ?_
  refine i_iload_n (x := x1) r_257_147 (n_257_147 _) rfl ?_
  refine i_iconst r_257_148 (n_257_148 _) ?_
  refine wp_virt (b := 252) (rest := [iv x7]) (Ls := [(0, rf 252), (1, iv x1), (2, iv 1)]) r_257_149 (n_257_149 _) rfl ⟨rfl, rfl, by decide, by decide⟩ rfl rfl lf_252 ⟨rfl, Nat.le_of_ble_eq_true rfl, Nat.le_of_ble_eq_true rfl⟩ rfl h ?_
  intro o1 s1 h
  rcases h with ⟨y1, q2, rfl, h⟩ | ⟨e1, rfl, h⟩
  · refine .inl ⟨some (iv y1), rfl, ?_⟩
    show wp S 257 152 [(0, rf 252), (1, iv x1), (6, iv x6), (7, iv x7)] [iv y1, iv x7] s1 Q
    obtain ⟨g3, h⟩ := h
    refine i_icmp (t := 208) r_257_152 (n_257_152 _) rfl (T_ge g3 q2) (fun c4 => ?_) (fun c4 => ?_)
    · replace h := h.1 c4
      refine i_iload (x := x6) r_257_208 (n_257_208 _) rfl ?_
      exact i_ireturn r_257_210 (n_257_210 _) rfl h
    · replace h := h.2 c4
      refine i_iconst r_257_155 (n_257_155 _) ?_
      refine i_istore (l' := [(0, rf 252), (1, iv x1), (6, iv x6), (7, iv x7), (8, iv 0)]) r_257_156 (n_257_156 _) (by decide) rfl ?_
      exact wp_pr (l' := [(0, rf 252), (1, iv x1), (6, iv x6), (7, iv x7), (8, iv 0)]) rfl h
  · skip
    exact h.elim
theorem v_Model_convert_158 {S : Option (Nat × (Nat → Int32))} {s : zSt} {Q : Option Value ⊕ Nat → zSt → Prop} {x1 : Int} {x6 : Int} {x7 : Int} {x8 : Int} 
    (h : wp S 236 0 [(0, rf 252), (1, iv x1), (2, iv 0)] [] s (fun o1 s1 => zkI (fun y1 => (0 ≤ y1 ∧ y1 < 6) ∧ (rng x8 ∧ (((zI s1 256 y1) ≤ x8 → wp S 257 144 [(0, rf 252), (1, iv x1), (6, iv x6), (7, iv (x7 + 1))] [] s1 Q) ∧ (x8 < (zI s1 256 y1) → (0 ≤ ((40 * x7) + x8) ∧ ((40 * x7) + x8) < 480) ∧ (wp S 252 0 [(0, rf 252), (1, iv x1), (2, iv x7), (3, iv x8), (4, .long (zL s1 272 ((40 * x7) + x8)))] [] s1 (fun o8 s8 => zkU (wp S 257 158 [(0, rf 252), (1, iv x1), (6, iv x6), (7, iv x7), (8, iv (x8 + 1))] [] s8 Q) (fun e8 => False) o8)))))) (fun e1 => False) o1)) :
    wp S 257 158 [(0, rf 252), (1, iv x1), (6, iv x6), (7, iv x7), (8, iv x8)] [] s Q := by
  refine i_iload (x := x8) r_257_158 rfl rfl ?_
  refine i_aload_n (a := 252) r_257_160 (n_257_160 _) rfl ?_
  refine i_getR (a := 252) (b := 256) r_257_161 (n_257_161 _) rfl rfl rfl (by omega) lf_252 (by omega) ?_
  refine i_aload_n (a := 252) r_257_164 (n_257_164 _) rfl ?_
  refine i_iload_n (x := x1) r_257_165 (n_257_165 _) rfl ?_
  refine i_iconst r_257_166 (n_257_166 _) ?_
  refine wp_virt (b := 252) (rest := [rf 256, iv x8]) (Ls := [(0, rf 252), (1, iv x1), (2, iv 0)]) r_257_167 (n_257_167 _) rfl ⟨rfl, rfl, by decide, by decide⟩ rfl rfl lf_252 ⟨rfl, Nat.le_of_ble_eq_true rfl, Nat.le_of_ble_eq_true rfl⟩ rfl h ?_
  intro o1 s1 h
  rcases h with ⟨y1, q2, rfl, h⟩ | ⟨e1, rfl, h⟩
  · refine .inl ⟨some (iv y1), rfl, ?_⟩
    show wp S 257 170 [(0, rf 252), (1, iv x1), (6, iv x6), (7, iv x7), (8, iv x8)] [iv y1, rf 256, iv x8] s1 Q
    obtain ⟨g3, h⟩ := h
    refine i_iaload (a := 256) (j := y1) r_257_170 (n_257_170 _) lf_256 ⟨by omega, by omega⟩ (by omega) (by omega) (fun q4 => ?_)
    obtain ⟨g5, h⟩ := h
    refine i_icmp (t := 202) r_257_171 (n_257_171 _) rfl (T_ge g5 q4) (fun c6 => ?_) (fun c6 => ?_)
    · replace h := h.1 c6
      refine i_iinc (x := x7) (l' := [(0, rf 252), (1, iv x1), (6, iv x6), (7, iv (x7 + 1)), (8, iv x8)]) r_257_202 (n_257_202 _) (by decide) rfl rfl ?_
      refine i_goto (t := 144) r_257_205 (n_257_205 _) rfl ?_
      exact wp_pr (l' := [(0, rf 252), (1, iv x1), (6, iv x6), (7, iv (x7 + 1))]) rfl h
    · replace h := h.2 c6
      refine i_aload_n (a := 252) r_257_174 (n_257_174 _) rfl ?_
      refine i_iload_n (x := x1) r_257_175 (n_257_175 _) rfl ?_
      refine i_iload (x := x7) r_257_176 (n_257_176 _) rfl ?_
      refine i_iload (x := x8) r_257_178 (n_257_178 _) rfl ?_
      refine i_aload_n (a := 252) r_257_180 (n_257_180 _) rfl ?_
      refine i_getR (a := 252) (b := 272) r_257_181 (n_257_181 _) rfl rfl rfl (by omega) lf_252 (by omega) ?_
      refine i_bipush r_257_184 (n_257_184 _) rfl ?_
      refine i_iload (x := x7) r_257_186 (n_257_186 _) rfl ?_
      refine i_imul r_257_188 (n_257_188 _) ?_
      refine i_iload (x := x8) r_257_189 (n_257_189 _) rfl ?_
      refine i_iadd r_257_191 (n_257_191 _) ?_
      obtain ⟨g7, h⟩ := h
      refine i_laload (a := 272) (j := (40 * x7) + x8) r_257_192 (n_257_192 _) lf_272 ⟨by omega, by omega⟩ (by omega) (by omega) ?_
      refine wp_virt (b := 252) (rest := []) (Ls := [(0, rf 252), (1, iv x1), (2, iv x7), (3, iv x8), (4, .long (zL s1 272 ((40 * x7) + x8)))]) r_257_193 (n_257_193 _) rfl ⟨rfl, rfl, by decide, by decide⟩ rfl rfl lf_252 ⟨rfl, Nat.le_of_ble_eq_true rfl, Nat.le_of_ble_eq_true rfl⟩ rfl h ?_
      intro o8 s8 h
      rcases h with ⟨rfl, h⟩ | ⟨e8, rfl, h⟩
      · refine .inl ⟨none, rfl, ?_⟩
        refine i_iinc (x := x8) (l' := [(0, rf 252), (1, iv x1), (6, iv x6), (7, iv x7), (8, iv (x8 + 1))]) r_257_196 (n_257_196 _) (by decide) rfl rfl ?_
        refine i_goto (t := 158) r_257_199 (n_257_199 _) rfl ?_
        exact wp_pr (l' := [(0, rf 252), (1, iv x1), (6, iv x6), (7, iv x7), (8, iv (x8 + 1))]) rfl h
      · skip
        exact h.elim
  · skip
    exact h.elim
theorem r_258_0 : xfetch 258 0 = some (.iconst 0, 1) := by decide +kernel
theorem n_258_0 : ∀ l, xpr 258 0 l = l := xpr_no (by decide +kernel)
theorem r_258_1 : xfetch 258 1 = some (.istore_n 2, 1) := by decide +kernel
theorem n_258_1 : ∀ l, xpr 258 1 l = l := xpr_no (by decide +kernel)
theorem r_258_2 : xfetch 258 2 = some (.iload_n 2, 1) := by decide +kernel
theorem r_258_3 : xfetch 258 3 = some (.aload_n 0, 1) := by decide +kernel
theorem n_258_3 : ∀ l, xpr 258 3 l = l := xpr_no (by decide +kernel)
theorem r_258_4 : xfetch 258 4 = some (.iload_n 1, 1) := by decide +kernel
theorem n_258_4 : ∀ l, xpr 258 4 l = l := xpr_no (by decide +kernel)
theorem r_258_5 : xfetch 258 5 = some (.iconst 1, 1) := by decide +kernel
theorem n_258_5 : ∀ l, xpr 258 5 l = l := xpr_no (by decide +kernel)
theorem r_258_6 : xfetch 258 6 = some (.invokevirtual 228, 3) := by decide +kernel
theorem n_258_6 : ∀ l, xpr 258 6 l = l := xpr_no (by decide +kernel)
theorem r_258_9 : xfetch 258 9 = some (.if_icmp .ge 50, 3) := by decide +kernel
theorem n_258_9 : ∀ l, xpr 258 9 l = l := xpr_no (by decide +kernel)
theorem r_258_12 : xfetch 258 12 = some (.iconst 0, 1) := by decide +kernel
theorem n_258_12 : ∀ l, xpr 258 12 l = l := xpr_no (by decide +kernel)
theorem r_258_13 : xfetch 258 13 = some (.istore_n 3, 1) := by decide +kernel
theorem n_258_13 : ∀ l, xpr 258 13 l = l := xpr_no (by decide +kernel)
theorem r_258_14 : xfetch 258 14 = some (.iload_n 3, 1) := by decide +kernel
theorem r_258_15 : xfetch 258 15 = some (.aload_n 0, 1) := by decide +kernel
theorem n_258_15 : ∀ l, xpr 258 15 l = l := xpr_no (by decide +kernel)
theorem r_258_16 : xfetch 258 16 = some (.getfield 19, 3) := by decide +kernel
theorem n_258_16 : ∀ l, xpr 258 16 l = l := xpr_no (by decide +kernel)
theorem r_258_19 : xfetch 258 19 = some (.aload_n 0, 1) := by decide +kernel
theorem n_258_19 : ∀ l, xpr 258 19 l = l := xpr_no (by decide +kernel)
theorem r_258_20 : xfetch 258 20 = some (.iload_n 1, 1) := by decide +kernel
theorem n_258_20 : ∀ l, xpr 258 20 l = l := xpr_no (by decide +kernel)
theorem r_258_21 : xfetch 258 21 = some (.iconst 0, 1) := by decide +kernel
theorem n_258_21 : ∀ l, xpr 258 21 l = l := xpr_no (by decide +kernel)
theorem r_258_22 : xfetch 258 22 = some (.invokevirtual 228, 3) := by decide +kernel
theorem n_258_22 : ∀ l, xpr 258 22 l = l := xpr_no (by decide +kernel)
theorem r_258_25 : xfetch 258 25 = some (.iaload, 1) := by decide +kernel
theorem n_258_25 : ∀ l, xpr 258 25 l = l := xpr_no (by decide +kernel)
theorem r_258_26 : xfetch 258 26 = some (.if_icmp .ge 27, 3) := by decide +kernel
theorem n_258_26 : ∀ l, xpr 258 26 l = l := xpr_no (by decide +kernel)
theorem r_258_29 : xfetch 258 29 = some (.aload_n 0, 1) := by decide +kernel
theorem n_258_29 : ∀ l, xpr 258 29 l = l := xpr_no (by decide +kernel)
theorem r_258_30 : xfetch 258 30 = some (.getfield 67, 3) := by decide +kernel
theorem n_258_30 : ∀ l, xpr 258 30 l = l := xpr_no (by decide +kernel)
theorem r_258_33 : xfetch 258 33 = some (.bipush 40, 2) := by decide +kernel
theorem n_258_33 : ∀ l, xpr 258 33 l = l := xpr_no (by decide +kernel)
theorem r_258_35 : xfetch 258 35 = some (.iload_n 2, 1) := by decide +kernel
theorem n_258_35 : ∀ l, xpr 258 35 l = l := xpr_no (by decide +kernel)
theorem r_258_36 : xfetch 258 36 = some (.imul, 1) := by decide +kernel
theorem n_258_36 : ∀ l, xpr 258 36 l = l := xpr_no (by decide +kernel)
theorem r_258_37 : xfetch 258 37 = some (.iload_n 3, 1) := by decide +kernel
theorem n_258_37 : ∀ l, xpr 258 37 l = l := xpr_no (by decide +kernel)
theorem r_258_38 : xfetch 258 38 = some (.iadd, 1) := by decide +kernel
theorem n_258_38 : ∀ l, xpr 258 38 l = l := xpr_no (by decide +kernel)
theorem r_258_39 : xfetch 258 39 = some (.aload_n 0, 1) := by decide +kernel
theorem n_258_39 : ∀ l, xpr 258 39 l = l := xpr_no (by decide +kernel)
theorem r_258_40 : xfetch 258 40 = some (.iload_n 1, 1) := by decide +kernel
theorem n_258_40 : ∀ l, xpr 258 40 l = l := xpr_no (by decide +kernel)
theorem r_258_41 : xfetch 258 41 = some (.iload_n 2, 1) := by decide +kernel
theorem n_258_41 : ∀ l, xpr 258 41 l = l := xpr_no (by decide +kernel)
theorem r_258_42 : xfetch 258 42 = some (.iload_n 3, 1) := by decide +kernel
theorem n_258_42 : ∀ l, xpr 258 42 l = l := xpr_no (by decide +kernel)
theorem r_258_43 : xfetch 258 43 = some (.invokevirtual 278, 3) := by decide +kernel
theorem n_258_43 : ∀ l, xpr 258 43 l = l := xpr_no (by decide +kernel)
theorem r_258_46 : xfetch 258 46 = some (.lastore, 1) := by decide +kernel
theorem n_258_46 : ∀ l, xpr 258 46 l = l := xpr_no (by decide +kernel)
theorem r_258_47 : xfetch 258 47 = some (.iinc 3 1, 3) := by decide +kernel
theorem n_258_47 : ∀ l, xpr 258 47 l = l := xpr_no (by decide +kernel)
theorem r_258_50 : xfetch 258 50 = some (.goto (-36), 3) := by decide +kernel
theorem n_258_50 : ∀ l, xpr 258 50 l = l := xpr_no (by decide +kernel)
theorem r_258_53 : xfetch 258 53 = some (.iinc 2 1, 3) := by decide +kernel
theorem n_258_53 : ∀ l, xpr 258 53 l = l := xpr_no (by decide +kernel)
theorem r_258_56 : xfetch 258 56 = some (.goto (-54), 3) := by decide +kernel
theorem n_258_56 : ∀ l, xpr 258 56 l = l := xpr_no (by decide +kernel)
theorem r_258_59 : xfetch 258 59 = some (.return_, 1) := by decide +kernel
theorem n_258_59 : ∀ l, xpr 258 59 l = l := xpr_no (by decide +kernel)
theorem v_Model_takes_0 {S : Option (Nat × (Nat → Int32))} {s : zSt} {Q : Option Value ⊕ Nat → zSt → Prop} {x1 : Int} 
    (h : wp S 258 2 [(0, rf 252), (1, iv x1), (2, iv 0)] [] s Q) :
    wp S 258 0 [(0, rf 252), (1, iv x1)] [] s Q := by
  refine i_iconst r_258_0 (n_258_0 _) ?_
  refine i_istore_n (l' := [(0, rf 252), (1, iv x1), (2, iv 0)]) r_258_1 (n_258_1 _) (by decide) rfl ?_
  exact wp_pr (l' := [(0, rf 252), (1, iv x1), (2, iv 0)]) rfl h
theorem v_Model_takes_2 {S : Option (Nat × (Nat → Int32))} {s : zSt} {Q : Option Value ⊕ Nat → zSt → Prop} {x1 : Int} {x2 : Int} 
    (h : wp S 236 0 [(0, rf 252), (1, iv x1), (2, iv 1)] [] s (fun o1 s1 => zkI (fun y1 => rng x2 ∧ ((y1 ≤ x2 → Q rU s1) ∧ (x2 < y1 → wp S 258 14 [(0, rf 252), (1, iv x1), (2, iv x2), (3, iv 0)] [] s1 Q))) (fun e1 => False) o1)) :
    wp S 258 2 [(0, rf 252), (1, iv x1), (2, iv x2)] [] s Q := by
  refine i_iload_n (x := x2) r_258_2 rfl rfl ?_
  refine i_aload_n (a := 252) r_258_3 (n_258_3 _) rfl ?_
  refine i_iload_n (x := x1) r_258_4 (n_258_4 _) rfl ?_
  refine i_iconst r_258_5 (n_258_5 _) ?_
  refine wp_virt (b := 252) (rest := [iv x2]) (Ls := [(0, rf 252), (1, iv x1), (2, iv 1)]) r_258_6 (n_258_6 _) rfl ⟨rfl, rfl, by decide, by decide⟩ rfl rfl lf_252 ⟨rfl, Nat.le_of_ble_eq_true rfl, Nat.le_of_ble_eq_true rfl⟩ rfl h ?_
  intro o1 s1 h
  rcases h with ⟨y1, q2, rfl, h⟩ | ⟨e1, rfl, h⟩
  · refine .inl ⟨some (iv y1), rfl, ?_⟩
    show wp S 258 9 [(0, rf 252), (1, iv x1), (2, iv x2)] [iv y1, iv x2] s1 Q
    obtain ⟨g3, h⟩ := h
    refine i_icmp (t := 59) r_258_9 (n_258_9 _) rfl (T_ge g3 q2) (fun c4 => ?_) (fun c4 => ?_)
    · replace h := h.1 c4
      exact i_return r_258_59 (n_258_59 _) rfl h
    · replace h := h.2 c4
      refine i_iconst r_258_12 (n_258_12 _) ?_
      refine i_istore_n (l' := [(0, rf 252), (1, iv x1), (2, iv x2), (3, iv 0)]) r_258_13 (n_258_13 _) (by decide) rfl ?_
      exact wp_pr (l' := [(0, rf 252), (1, iv x1), (2, iv x2), (3, iv 0)]) rfl h
  · skip
    exact h.elim
theorem v_Model_takes_14 {S : Option (Nat × (Nat → Int32))} {s : zSt} {Q : Option Value ⊕ Nat → zSt → Prop} {x1 : Int} {x2 : Int} {x3 : Int} 
    (h : wp S 236 0 [(0, rf 252), (1, iv x1), (2, iv 0)] [] s (fun o1 s1 => zkI (fun y1 => (0 ≤ y1 ∧ y1 < 6) ∧ (rng x3 ∧ (((zI s1 256 y1) ≤ x3 → wp S 258 2 [(0, rf 252), (1, iv x1), (2, iv (x2 + 1))] [] s1 Q) ∧ (x3 < (zI s1 256 y1) → wp S 248 0 [(0, rf 252), (1, iv x1), (2, iv x2), (3, iv x3)] [] s1 (fun o7 s7 => zkL (fun y7 => (0 ≤ ((40 * x2) + x3) ∧ ((40 * x2) + x3) < 480) ∧ (wp S 258 14 [(0, rf 252), (1, iv x1), (2, iv x2), (3, iv (x3 + 1))] [] (zwL s7 272 ((40 * x2) + x3) y7) Q)) (fun e7 => False) o7))))) (fun e1 => False) o1)) :
    wp S 258 14 [(0, rf 252), (1, iv x1), (2, iv x2), (3, iv x3)] [] s Q := by
  refine i_iload_n (x := x3) r_258_14 rfl rfl ?_
  refine i_aload_n (a := 252) r_258_15 (n_258_15 _) rfl ?_
  refine i_getR (a := 252) (b := 256) r_258_16 (n_258_16 _) rfl rfl rfl (by omega) lf_252 (by omega) ?_
  refine i_aload_n (a := 252) r_258_19 (n_258_19 _) rfl ?_
  refine i_iload_n (x := x1) r_258_20 (n_258_20 _) rfl ?_
  refine i_iconst r_258_21 (n_258_21 _) ?_
  refine wp_virt (b := 252) (rest := [rf 256, iv x3]) (Ls := [(0, rf 252), (1, iv x1), (2, iv 0)]) r_258_22 (n_258_22 _) rfl ⟨rfl, rfl, by decide, by decide⟩ rfl rfl lf_252 ⟨rfl, Nat.le_of_ble_eq_true rfl, Nat.le_of_ble_eq_true rfl⟩ rfl h ?_
  intro o1 s1 h
  rcases h with ⟨y1, q2, rfl, h⟩ | ⟨e1, rfl, h⟩
  · refine .inl ⟨some (iv y1), rfl, ?_⟩
    show wp S 258 25 [(0, rf 252), (1, iv x1), (2, iv x2), (3, iv x3)] [iv y1, rf 256, iv x3] s1 Q
    obtain ⟨g3, h⟩ := h
    refine i_iaload (a := 256) (j := y1) r_258_25 (n_258_25 _) lf_256 ⟨by omega, by omega⟩ (by omega) (by omega) (fun q4 => ?_)
    obtain ⟨g5, h⟩ := h
    refine i_icmp (t := 53) r_258_26 (n_258_26 _) rfl (T_ge g5 q4) (fun c6 => ?_) (fun c6 => ?_)
    · replace h := h.1 c6
      refine i_iinc (x := x2) (l' := [(0, rf 252), (1, iv x1), (2, iv (x2 + 1)), (3, iv x3)]) r_258_53 (n_258_53 _) (by decide) rfl rfl ?_
      refine i_goto (t := 2) r_258_56 (n_258_56 _) rfl ?_
      exact wp_pr (l' := [(0, rf 252), (1, iv x1), (2, iv (x2 + 1))]) rfl h
    · replace h := h.2 c6
      refine i_aload_n (a := 252) r_258_29 (n_258_29 _) rfl ?_
      refine i_getR (a := 252) (b := 272) r_258_30 (n_258_30 _) rfl rfl rfl (by omega) lf_252 (by omega) ?_
      refine i_bipush r_258_33 (n_258_33 _) rfl ?_
      refine i_iload_n (x := x2) r_258_35 (n_258_35 _) rfl ?_
      refine i_imul r_258_36 (n_258_36 _) ?_
      refine i_iload_n (x := x3) r_258_37 (n_258_37 _) rfl ?_
      refine i_iadd r_258_38 (n_258_38 _) ?_
      refine i_aload_n (a := 252) r_258_39 (n_258_39 _) rfl ?_
      refine i_iload_n (x := x1) r_258_40 (n_258_40 _) rfl ?_
      refine i_iload_n (x := x2) r_258_41 (n_258_41 _) rfl ?_
      refine i_iload_n (x := x3) r_258_42 (n_258_42 _) rfl ?_
      refine wp_virt (b := 252) (rest := [iv ((40 * x2) + x3), rf 272]) (Ls := [(0, rf 252), (1, iv x1), (2, iv x2), (3, iv x3)]) r_258_43 (n_258_43 _) rfl ⟨rfl, rfl, by decide, by decide⟩ rfl rfl lf_252 ⟨rfl, Nat.le_of_ble_eq_true rfl, Nat.le_of_ble_eq_true rfl⟩ rfl h ?_
      intro o7 s7 h
      rcases h with ⟨y7, rfl, h⟩ | ⟨e7, rfl, h⟩
      · refine .inl ⟨some (.long y7), rfl, ?_⟩
        show wp S 258 46 [(0, rf 252), (1, iv x1), (2, iv x2), (3, iv x3)] [.long y7, iv ((40 * x2) + x3), rf 272] s7 Q
        obtain ⟨g9, h⟩ := h
        refine i_lastore (a := 272) (j := (40 * x2) + x3) r_258_46 (n_258_46 _) lf_272 ⟨by omega, by omega⟩ (by omega) (by omega) ?_
        refine i_iinc (x := x3) (l' := [(0, rf 252), (1, iv x1), (2, iv x2), (3, iv (x3 + 1))]) r_258_47 (n_258_47 _) (by decide) rfl rfl ?_
        refine i_goto (t := 14) r_258_50 (n_258_50 _) rfl ?_
        exact wp_pr (l' := [(0, rf 252), (1, iv x1), (2, iv x2), (3, iv (x3 + 1))]) rfl h
      · skip
        exact h.elim
  · skip
    exact h.elim
theorem r_259_0 : xfetch 259 0 = some (.aload_n 0, 1) := by decide +kernel
theorem n_259_0 : ∀ l, xpr 259 0 l = l := xpr_no (by decide +kernel)
theorem r_259_1 : xfetch 259 1 = some (.iload_n 1, 1) := by decide +kernel
theorem n_259_1 : ∀ l, xpr 259 1 l = l := xpr_no (by decide +kernel)
theorem r_259_2 : xfetch 259 2 = some (.invokevirtual 225, 3) := by decide +kernel
theorem n_259_2 : ∀ l, xpr 259 2 l = l := xpr_no (by decide +kernel)
theorem r_259_5 : xfetch 259 5 = some (.ifCond .eq 15, 3) := by decide +kernel
theorem n_259_5 : ∀ l, xpr 259 5 l = l := xpr_no (by decide +kernel)
theorem r_259_8 : xfetch 259 8 = some (.aload_n 0, 1) := by decide +kernel
theorem n_259_8 : ∀ l, xpr 259 8 l = l := xpr_no (by decide +kernel)
theorem r_259_9 : xfetch 259 9 = some (.iload_n 2, 1) := by decide +kernel
theorem n_259_9 : ∀ l, xpr 259 9 l = l := xpr_no (by decide +kernel)
theorem r_259_10 : xfetch 259 10 = some (.invokevirtual 142, 3) := by decide +kernel
theorem n_259_10 : ∀ l, xpr 259 10 l = l := xpr_no (by decide +kernel)
theorem r_259_13 : xfetch 259 13 = some (.ifCond .eq 7, 3) := by decide +kernel
theorem n_259_13 : ∀ l, xpr 259 13 l = l := xpr_no (by decide +kernel)
theorem r_259_16 : xfetch 259 16 = some (.iconst 1, 1) := by decide +kernel
theorem n_259_16 : ∀ l, xpr 259 16 l = l := xpr_no (by decide +kernel)
theorem r_259_17 : xfetch 259 17 = some (.goto 4, 3) := by decide +kernel
theorem n_259_17 : ∀ l, xpr 259 17 l = l := xpr_no (by decide +kernel)
theorem r_259_20 : xfetch 259 20 = some (.iconst 0, 1) := by decide +kernel
theorem n_259_20 : ∀ l, xpr 259 20 l = l := xpr_no (by decide +kernel)
theorem r_259_21 : xfetch 259 21 = some (.istore 4, 2) := by decide +kernel
theorem n_259_21 : ∀ l, xpr 259 21 l = l := xpr_no (by decide +kernel)
theorem r_259_23 : xfetch 259 23 = some (.iload_n 3, 1) := by decide +kernel
theorem n_259_23 : ∀ l, xpr 259 23 l = l := xpr_no (by decide +kernel)
theorem r_259_24 : xfetch 259 24 = some (.iconst 0, 1) := by decide +kernel
theorem n_259_24 : ∀ l, xpr 259 24 l = l := xpr_no (by decide +kernel)
theorem r_259_25 : xfetch 259 25 = some (.bipush 8, 2) := by decide +kernel
theorem n_259_25 : ∀ l, xpr 259 25 l = l := xpr_no (by decide +kernel)
theorem r_259_27 : xfetch 259 27 = some (.invokestatic 88, 3) := by decide +kernel
theorem n_259_27 : ∀ l, xpr 259 27 l = l := xpr_no (by decide +kernel)
theorem r_259_30 : xfetch 259 30 = some (.istore 5, 2) := by decide +kernel
theorem n_259_30 : ∀ l, xpr 259 30 l = l := xpr_no (by decide +kernel)
theorem r_259_32 : xfetch 259 32 = some (.iconst (-1), 1) := by decide +kernel
theorem n_259_32 : ∀ l, xpr 259 32 l = l := xpr_no (by decide +kernel)
theorem r_259_33 : xfetch 259 33 = some (.istore 6, 2) := by decide +kernel
theorem n_259_33 : ∀ l, xpr 259 33 l = l := xpr_no (by decide +kernel)
theorem r_259_35 : xfetch 259 35 = some (.iload 4, 2) := by decide +kernel
theorem n_259_35 : ∀ l, xpr 259 35 l = l := xpr_no (by decide +kernel)
theorem r_259_37 : xfetch 259 37 = some (.ifCond .eq 38, 3) := by decide +kernel
theorem n_259_37 : ∀ l, xpr 259 37 l = l := xpr_no (by decide +kernel)
theorem r_259_40 : xfetch 259 40 = some (.iload 5, 2) := by decide +kernel
theorem n_259_40 : ∀ l, xpr 259 40 l = l := xpr_no (by decide +kernel)
theorem r_259_42 : xfetch 259 42 = some (.ifCond .eq 33, 3) := by decide +kernel
theorem n_259_42 : ∀ l, xpr 259 42 l = l := xpr_no (by decide +kernel)
theorem r_259_45 : xfetch 259 45 = some (.aload_n 0, 1) := by decide +kernel
theorem n_259_45 : ∀ l, xpr 259 45 l = l := xpr_no (by decide +kernel)
theorem r_259_46 : xfetch 259 46 = some (.iload_n 2, 1) := by decide +kernel
theorem n_259_46 : ∀ l, xpr 259 46 l = l := xpr_no (by decide +kernel)
theorem r_259_47 : xfetch 259 47 = some (.invokevirtual 99, 3) := by decide +kernel
theorem n_259_47 : ∀ l, xpr 259 47 l = l := xpr_no (by decide +kernel)
theorem r_259_50 : xfetch 259 50 = some (.ifCond .le 25, 3) := by decide +kernel
theorem n_259_50 : ∀ l, xpr 259 50 l = l := xpr_no (by decide +kernel)
theorem r_259_53 : xfetch 259 53 = some (.aload_n 0, 1) := by decide +kernel
theorem n_259_53 : ∀ l, xpr 259 53 l = l := xpr_no (by decide +kernel)
theorem r_259_54 : xfetch 259 54 = some (.invokevirtual 152, 3) := by decide +kernel
theorem n_259_54 : ∀ l, xpr 259 54 l = l := xpr_no (by decide +kernel)
theorem r_259_57 : xfetch 259 57 = some (.aload_n 0, 1) := by decide +kernel
theorem n_259_57 : ∀ l, xpr 259 57 l = l := xpr_no (by decide +kernel)
theorem r_259_58 : xfetch 259 58 = some (.aload_n 0, 1) := by decide +kernel
theorem n_259_58 : ∀ l, xpr 259 58 l = l := xpr_no (by decide +kernel)
theorem r_259_59 : xfetch 259 59 = some (.iload_n 2, 1) := by decide +kernel
theorem n_259_59 : ∀ l, xpr 259 59 l = l := xpr_no (by decide +kernel)
theorem r_259_60 : xfetch 259 60 = some (.aload_n 0, 1) := by decide +kernel
theorem n_259_60 : ∀ l, xpr 259 60 l = l := xpr_no (by decide +kernel)
theorem r_259_61 : xfetch 259 61 = some (.iload_n 1, 1) := by decide +kernel
theorem n_259_61 : ∀ l, xpr 259 61 l = l := xpr_no (by decide +kernel)
theorem r_259_62 : xfetch 259 62 = some (.iconst 1, 1) := by decide +kernel
theorem n_259_62 : ∀ l, xpr 259 62 l = l := xpr_no (by decide +kernel)
theorem r_259_63 : xfetch 259 63 = some (.invokevirtual 228, 3) := by decide +kernel
theorem n_259_63 : ∀ l, xpr 259 63 l = l := xpr_no (by decide +kernel)
theorem r_259_66 : xfetch 259 66 = some (.iload_n 3, 1) := by decide +kernel
theorem n_259_66 : ∀ l, xpr 259 66 l = l := xpr_no (by decide +kernel)
theorem r_259_67 : xfetch 259 67 = some (.invokevirtual 237, 3) := by decide +kernel
theorem n_259_67 : ∀ l, xpr 259 67 l = l := xpr_no (by decide +kernel)
theorem r_259_70 : xfetch 259 70 = some (.invokevirtual 240, 3) := by decide +kernel
theorem n_259_70 : ∀ l, xpr 259 70 l = l := xpr_no (by decide +kernel)
theorem r_259_73 : xfetch 259 73 = some (.istore 6, 2) := by decide +kernel
theorem n_259_73 : ∀ l, xpr 259 73 l = l := xpr_no (by decide +kernel)
theorem r_259_75 : xfetch 259 75 = some (.aload_n 0, 1) := by decide +kernel
theorem r_259_76 : xfetch 259 76 = some (.iload 4, 2) := by decide +kernel
theorem n_259_76 : ∀ l, xpr 259 76 l = l := xpr_no (by decide +kernel)
theorem r_259_78 : xfetch 259 78 = some (.ifCond .ne 7, 3) := by decide +kernel
theorem n_259_78 : ∀ l, xpr 259 78 l = l := xpr_no (by decide +kernel)
theorem r_259_81 : xfetch 259 81 = some (.iconst 1, 1) := by decide +kernel
theorem n_259_81 : ∀ l, xpr 259 81 l = l := xpr_no (by decide +kernel)
theorem r_259_82 : xfetch 259 82 = some (.goto 23, 3) := by decide +kernel
theorem n_259_82 : ∀ l, xpr 259 82 l = l := xpr_no (by decide +kernel)
theorem r_259_85 : xfetch 259 85 = some (.iload 5, 2) := by decide +kernel
theorem n_259_85 : ∀ l, xpr 259 85 l = l := xpr_no (by decide +kernel)
theorem r_259_87 : xfetch 259 87 = some (.ifCond .ne 7, 3) := by decide +kernel
theorem n_259_87 : ∀ l, xpr 259 87 l = l := xpr_no (by decide +kernel)
theorem r_259_90 : xfetch 259 90 = some (.iconst 2, 1) := by decide +kernel
theorem n_259_90 : ∀ l, xpr 259 90 l = l := xpr_no (by decide +kernel)
theorem r_259_91 : xfetch 259 91 = some (.goto 14, 3) := by decide +kernel
theorem n_259_91 : ∀ l, xpr 259 91 l = l := xpr_no (by decide +kernel)
theorem r_259_94 : xfetch 259 94 = some (.iload 6, 2) := by decide +kernel
theorem n_259_94 : ∀ l, xpr 259 94 l = l := xpr_no (by decide +kernel)
theorem r_259_96 : xfetch 259 96 = some (.iconst (-1), 1) := by decide +kernel
theorem n_259_96 : ∀ l, xpr 259 96 l = l := xpr_no (by decide +kernel)
theorem r_259_97 : xfetch 259 97 = some (.if_icmp .ne 7, 3) := by decide +kernel
theorem n_259_97 : ∀ l, xpr 259 97 l = l := xpr_no (by decide +kernel)
theorem r_259_100 : xfetch 259 100 = some (.iconst 3, 1) := by decide +kernel
theorem n_259_100 : ∀ l, xpr 259 100 l = l := xpr_no (by decide +kernel)
theorem r_259_101 : xfetch 259 101 = some (.goto 4, 3) := by decide +kernel
theorem n_259_101 : ∀ l, xpr 259 101 l = l := xpr_no (by decide +kernel)
theorem r_259_104 : xfetch 259 104 = some (.iconst 0, 1) := by decide +kernel
theorem n_259_104 : ∀ l, xpr 259 104 l = l := xpr_no (by decide +kernel)
theorem r_259_105 : xfetch 259 105 = some (.invokevirtual 84, 3) := by decide +kernel
theorem n_259_105 : ∀ l, xpr 259 105 l = l := xpr_no (by decide +kernel)
theorem r_259_108 : xfetch 259 108 = some (.ifCond .eq 5, 3) := by decide +kernel
theorem n_259_108 : ∀ l, xpr 259 108 l = l := xpr_no (by decide +kernel)
theorem r_259_111 : xfetch 259 111 = some (.iconst 0, 1) := by decide +kernel
theorem n_259_111 : ∀ l, xpr 259 111 l = l := xpr_no (by decide +kernel)
theorem r_259_112 : xfetch 259 112 = some (.ireturn, 1) := by decide +kernel
theorem n_259_112 : ∀ l, xpr 259 112 l = l := xpr_no (by decide +kernel)
theorem r_259_113 : xfetch 259 113 = some (.aload_n 0, 1) := by decide +kernel
theorem n_259_113 : ∀ l, xpr 259 113 l = l := xpr_no (by decide +kernel)
theorem r_259_114 : xfetch 259 114 = some (.invokevirtual 135, 3) := by decide +kernel
theorem n_259_114 : ∀ l, xpr 259 114 l = l := xpr_no (by decide +kernel)
theorem r_259_117 : xfetch 259 117 = some (.aload_n 0, 1) := by decide +kernel
theorem n_259_117 : ∀ l, xpr 259 117 l = l := xpr_no (by decide +kernel)
theorem r_259_118 : xfetch 259 118 = some (.iload_n 1, 1) := by decide +kernel
theorem n_259_118 : ∀ l, xpr 259 118 l = l := xpr_no (by decide +kernel)
theorem r_259_119 : xfetch 259 119 = some (.invokevirtual 284, 3) := by decide +kernel
theorem n_259_119 : ∀ l, xpr 259 119 l = l := xpr_no (by decide +kernel)
theorem r_259_122 : xfetch 259 122 = some (.aload_n 0, 1) := by decide +kernel
theorem n_259_122 : ∀ l, xpr 259 122 l = l := xpr_no (by decide +kernel)
theorem r_259_123 : xfetch 259 123 = some (.iload_n 1, 1) := by decide +kernel
theorem n_259_123 : ∀ l, xpr 259 123 l = l := xpr_no (by decide +kernel)
theorem r_259_124 : xfetch 259 124 = some (.iconst 0, 1) := by decide +kernel
theorem n_259_124 : ∀ l, xpr 259 124 l = l := xpr_no (by decide +kernel)
theorem r_259_125 : xfetch 259 125 = some (.invokevirtual 228, 3) := by decide +kernel
theorem n_259_125 : ∀ l, xpr 259 125 l = l := xpr_no (by decide +kernel)
theorem r_259_128 : xfetch 259 128 = some (.istore 7, 2) := by decide +kernel
theorem n_259_128 : ∀ l, xpr 259 128 l = l := xpr_no (by decide +kernel)
theorem r_259_130 : xfetch 259 130 = some (.aload_n 0, 1) := by decide +kernel
theorem n_259_130 : ∀ l, xpr 259 130 l = l := xpr_no (by decide +kernel)
theorem r_259_131 : xfetch 259 131 = some (.iload_n 1, 1) := by decide +kernel
theorem n_259_131 : ∀ l, xpr 259 131 l = l := xpr_no (by decide +kernel)
theorem r_259_132 : xfetch 259 132 = some (.iload_n 2, 1) := by decide +kernel
theorem n_259_132 : ∀ l, xpr 259 132 l = l := xpr_no (by decide +kernel)
theorem r_259_133 : xfetch 259 133 = some (.aload_n 0, 1) := by decide +kernel
theorem n_259_133 : ∀ l, xpr 259 133 l = l := xpr_no (by decide +kernel)
theorem r_259_134 : xfetch 259 134 = some (.iload_n 1, 1) := by decide +kernel
theorem n_259_134 : ∀ l, xpr 259 134 l = l := xpr_no (by decide +kernel)
theorem r_259_135 : xfetch 259 135 = some (.iconst 1, 1) := by decide +kernel
theorem n_259_135 : ∀ l, xpr 259 135 l = l := xpr_no (by decide +kernel)
theorem r_259_136 : xfetch 259 136 = some (.invokevirtual 228, 3) := by decide +kernel
theorem n_259_136 : ∀ l, xpr 259 136 l = l := xpr_no (by decide +kernel)
theorem r_259_139 : xfetch 259 139 = some (.iload_n 3, 1) := by decide +kernel
theorem n_259_139 : ∀ l, xpr 259 139 l = l := xpr_no (by decide +kernel)
theorem r_259_140 : xfetch 259 140 = some (.aload_n 0, 1) := by decide +kernel
theorem n_259_140 : ∀ l, xpr 259 140 l = l := xpr_no (by decide +kernel)
theorem r_259_141 : xfetch 259 141 = some (.iload_n 1, 1) := by decide +kernel
theorem n_259_141 : ∀ l, xpr 259 141 l = l := xpr_no (by decide +kernel)
theorem r_259_142 : xfetch 259 142 = some (.iconst 3, 1) := by decide +kernel
theorem n_259_142 : ∀ l, xpr 259 142 l = l := xpr_no (by decide +kernel)
theorem r_259_143 : xfetch 259 143 = some (.invokevirtual 228, 3) := by decide +kernel
theorem n_259_143 : ∀ l, xpr 259 143 l = l := xpr_no (by decide +kernel)
theorem r_259_146 : xfetch 259 146 = some (.iload 6, 2) := by decide +kernel
theorem n_259_146 : ∀ l, xpr 259 146 l = l := xpr_no (by decide +kernel)
theorem r_259_148 : xfetch 259 148 = some (.invokevirtual 243, 3) := by decide +kernel
theorem n_259_148 : ∀ l, xpr 259 148 l = l := xpr_no (by decide +kernel)
theorem r_259_151 : xfetch 259 151 = some (.iconst 0, 1) := by decide +kernel
theorem n_259_151 : ∀ l, xpr 259 151 l = l := xpr_no (by decide +kernel)
theorem r_259_152 : xfetch 259 152 = some (.istore 8, 2) := by decide +kernel
theorem n_259_152 : ∀ l, xpr 259 152 l = l := xpr_no (by decide +kernel)
theorem r_259_154 : xfetch 259 154 = some (.iconst 0, 1) := by decide +kernel
theorem n_259_154 : ∀ l, xpr 259 154 l = l := xpr_no (by decide +kernel)
theorem r_259_155 : xfetch 259 155 = some (.istore 9, 2) := by decide +kernel
theorem n_259_155 : ∀ l, xpr 259 155 l = l := xpr_no (by decide +kernel)
theorem r_259_157 : xfetch 259 157 = some (.iload 9, 2) := by decide +kernel
theorem r_259_159 : xfetch 259 159 = some (.aload_n 0, 1) := by decide +kernel
theorem n_259_159 : ∀ l, xpr 259 159 l = l := xpr_no (by decide +kernel)
theorem r_259_160 : xfetch 259 160 = some (.getfield 19, 3) := by decide +kernel
theorem n_259_160 : ∀ l, xpr 259 160 l = l := xpr_no (by decide +kernel)
theorem r_259_163 : xfetch 259 163 = some (.iload_n 2, 1) := by decide +kernel
theorem n_259_163 : ∀ l, xpr 259 163 l = l := xpr_no (by decide +kernel)
theorem r_259_164 : xfetch 259 164 = some (.iaload, 1) := by decide +kernel
theorem n_259_164 : ∀ l, xpr 259 164 l = l := xpr_no (by decide +kernel)
theorem r_259_165 : xfetch 259 165 = some (.if_icmp .ge 84, 3) := by decide +kernel
theorem n_259_165 : ∀ l, xpr 259 165 l = l := xpr_no (by decide +kernel)
theorem r_259_168 : xfetch 259 168 = some (.aload_n 0, 1) := by decide +kernel
theorem n_259_168 : ∀ l, xpr 259 168 l = l := xpr_no (by decide +kernel)
theorem r_259_169 : xfetch 259 169 = some (.iload 7, 2) := by decide +kernel
theorem n_259_169 : ∀ l, xpr 259 169 l = l := xpr_no (by decide +kernel)
theorem r_259_171 : xfetch 259 171 = some (.iload_n 2, 1) := by decide +kernel
theorem n_259_171 : ∀ l, xpr 259 171 l = l := xpr_no (by decide +kernel)
theorem r_259_172 : xfetch 259 172 = some (.iload 9, 2) := by decide +kernel
theorem n_259_172 : ∀ l, xpr 259 172 l = l := xpr_no (by decide +kernel)
theorem r_259_174 : xfetch 259 174 = some (.invokevirtual 287, 3) := by decide +kernel
theorem n_259_174 : ∀ l, xpr 259 174 l = l := xpr_no (by decide +kernel)
theorem r_259_177 : xfetch 259 177 = some (.istore 10, 2) := by decide +kernel
theorem n_259_177 : ∀ l, xpr 259 177 l = l := xpr_no (by decide +kernel)
theorem r_259_179 : xfetch 259 179 = some (.iload 8, 2) := by decide +kernel
theorem n_259_179 : ∀ l, xpr 259 179 l = l := xpr_no (by decide +kernel)
theorem r_259_181 : xfetch 259 181 = some (.iload 10, 2) := by decide +kernel
theorem n_259_181 : ∀ l, xpr 259 181 l = l := xpr_no (by decide +kernel)
theorem r_259_183 : xfetch 259 183 = some (.iconst (-1), 1) := by decide +kernel
theorem n_259_183 : ∀ l, xpr 259 183 l = l := xpr_no (by decide +kernel)
theorem r_259_184 : xfetch 259 184 = some (.if_icmp .ne 7, 3) := by decide +kernel
theorem n_259_184 : ∀ l, xpr 259 184 l = l := xpr_no (by decide +kernel)
theorem r_259_187 : xfetch 259 187 = some (.iconst 0, 1) := by decide +kernel
theorem n_259_187 : ∀ l, xpr 259 187 l = l := xpr_no (by decide +kernel)
theorem r_259_188 : xfetch 259 188 = some (.goto 4, 3) := by decide +kernel
theorem n_259_188 : ∀ l, xpr 259 188 l = l := xpr_no (by decide +kernel)
theorem r_259_191 : xfetch 259 191 = some (.iconst 1, 1) := by decide +kernel
theorem n_259_191 : ∀ l, xpr 259 191 l = l := xpr_no (by decide +kernel)
theorem r_259_192 : xfetch 259 192 = some (.iadd, 1) := by decide +kernel
theorem n_259_192 : ∀ l, xpr 259 192 l = l := xpr_no (by decide +kernel)
theorem r_259_193 : xfetch 259 193 = some (.istore 8, 2) := by decide +kernel
theorem n_259_193 : ∀ l, xpr 259 193 l = l := xpr_no (by decide +kernel)
theorem r_259_195 : xfetch 259 195 = some (.iconst 0, 1) := by decide +kernel
theorem n_259_195 : ∀ l, xpr 259 195 l = l := xpr_no (by decide +kernel)
theorem r_259_196 : xfetch 259 196 = some (.istore 11, 2) := by decide +kernel
theorem n_259_196 : ∀ l, xpr 259 196 l = l := xpr_no (by decide +kernel)
theorem r_259_198 : xfetch 259 198 = some (.iload 11, 2) := by decide +kernel
theorem r_259_200 : xfetch 259 200 = some (.aload_n 0, 1) := by decide +kernel
theorem n_259_200 : ∀ l, xpr 259 200 l = l := xpr_no (by decide +kernel)
theorem r_259_201 : xfetch 259 201 = some (.iload_n 1, 1) := by decide +kernel
theorem n_259_201 : ∀ l, xpr 259 201 l = l := xpr_no (by decide +kernel)
theorem r_259_202 : xfetch 259 202 = some (.iconst 1, 1) := by decide +kernel
theorem n_259_202 : ∀ l, xpr 259 202 l = l := xpr_no (by decide +kernel)
theorem r_259_203 : xfetch 259 203 = some (.invokevirtual 228, 3) := by decide +kernel
theorem n_259_203 : ∀ l, xpr 259 203 l = l := xpr_no (by decide +kernel)
theorem r_259_206 : xfetch 259 206 = some (.if_icmp .ge 37, 3) := by decide +kernel
theorem n_259_206 : ∀ l, xpr 259 206 l = l := xpr_no (by decide +kernel)
theorem r_259_209 : xfetch 259 209 = some (.iload 10, 2) := by decide +kernel
theorem n_259_209 : ∀ l, xpr 259 209 l = l := xpr_no (by decide +kernel)
theorem r_259_211 : xfetch 259 211 = some (.iconst (-1), 1) := by decide +kernel
theorem n_259_211 : ∀ l, xpr 259 211 l = l := xpr_no (by decide +kernel)
theorem r_259_212 : xfetch 259 212 = some (.if_icmp .eq 31, 3) := by decide +kernel
theorem n_259_212 : ∀ l, xpr 259 212 l = l := xpr_no (by decide +kernel)
theorem r_259_215 : xfetch 259 215 = some (.aload_n 0, 1) := by decide +kernel
theorem n_259_215 : ∀ l, xpr 259 215 l = l := xpr_no (by decide +kernel)
theorem r_259_216 : xfetch 259 216 = some (.iload_n 1, 1) := by decide +kernel
theorem n_259_216 : ∀ l, xpr 259 216 l = l := xpr_no (by decide +kernel)
theorem r_259_217 : xfetch 259 217 = some (.iload 11, 2) := by decide +kernel
theorem n_259_217 : ∀ l, xpr 259 217 l = l := xpr_no (by decide +kernel)
theorem r_259_219 : xfetch 259 219 = some (.iload 9, 2) := by decide +kernel
theorem n_259_219 : ∀ l, xpr 259 219 l = l := xpr_no (by decide +kernel)
theorem r_259_221 : xfetch 259 221 = some (.aload_n 0, 1) := by decide +kernel
theorem n_259_221 : ∀ l, xpr 259 221 l = l := xpr_no (by decide +kernel)
theorem r_259_222 : xfetch 259 222 = some (.getfield 67, 3) := by decide +kernel
theorem n_259_222 : ∀ l, xpr 259 222 l = l := xpr_no (by decide +kernel)
theorem r_259_225 : xfetch 259 225 = some (.bipush 40, 2) := by decide +kernel
theorem n_259_225 : ∀ l, xpr 259 225 l = l := xpr_no (by decide +kernel)
theorem r_259_227 : xfetch 259 227 = some (.iload 11, 2) := by decide +kernel
theorem n_259_227 : ∀ l, xpr 259 227 l = l := xpr_no (by decide +kernel)
theorem r_259_229 : xfetch 259 229 = some (.imul, 1) := by decide +kernel
theorem n_259_229 : ∀ l, xpr 259 229 l = l := xpr_no (by decide +kernel)
theorem r_259_230 : xfetch 259 230 = some (.iload 10, 2) := by decide +kernel
theorem n_259_230 : ∀ l, xpr 259 230 l = l := xpr_no (by decide +kernel)
theorem r_259_232 : xfetch 259 232 = some (.iadd, 1) := by decide +kernel
theorem n_259_232 : ∀ l, xpr 259 232 l = l := xpr_no (by decide +kernel)
theorem r_259_233 : xfetch 259 233 = some (.laload, 1) := by decide +kernel
theorem n_259_233 : ∀ l, xpr 259 233 l = l := xpr_no (by decide +kernel)
theorem r_259_234 : xfetch 259 234 = some (.invokevirtual 281, 3) := by decide +kernel
theorem n_259_234 : ∀ l, xpr 259 234 l = l := xpr_no (by decide +kernel)
theorem r_259_237 : xfetch 259 237 = some (.iinc 11 1, 3) := by decide +kernel
theorem n_259_237 : ∀ l, xpr 259 237 l = l := xpr_no (by decide +kernel)
theorem r_259_240 : xfetch 259 240 = some (.goto (-42), 3) := by decide +kernel
theorem n_259_240 : ∀ l, xpr 259 240 l = l := xpr_no (by decide +kernel)
theorem r_259_243 : xfetch 259 243 = some (.iinc 9 1, 3) := by decide +kernel
theorem n_259_243 : ∀ l, xpr 259 243 l = l := xpr_no (by decide +kernel)
theorem r_259_246 : xfetch 259 246 = some (.goto (-89), 3) := by decide +kernel
theorem n_259_246 : ∀ l, xpr 259 246 l = l := xpr_no (by decide +kernel)
theorem r_259_249 : xfetch 259 249 = some (.iload 8, 2) := by decide +kernel
theorem n_259_249 : ∀ l, xpr 259 249 l = l := xpr_no (by decide +kernel)
theorem r_259_251 : xfetch 259 251 = some (.ireturn, 1) := by decide +kernel
theorem n_259_251 : ∀ l, xpr 259 251 l = l := xpr_no (by decide +kernel)
theorem v_Model_migrate_0 {S : Option (Nat × (Nat → Int32))} {s : zSt} {Q : Option Value ⊕ Nat → zSt → Prop} {x1 : Int} {x2 : Int} {x3 : Int} 
    (h : wp S 229 0 [(0, rf 252), (1, iv x1)] [] s (fun o1 s1 => zkI (fun y1 => (y1 = 0 → wp S 187 0 [(0, iv x3), (1, iv 0), (2, iv 8)] [] s1 (fun o4 s4 => zkI (fun y4 => (0 = 0 → wp S 259 75 [(0, rf 252), (1, iv x1), (2, iv x2), (3, iv x3), (4, iv 0), (5, iv y4), (6, iv (-1))] [] s4 Q) ∧ (0 ≠ 0 → (y4 = 0 → wp S 259 75 [(0, rf 252), (1, iv x1), (2, iv x2), (3, iv x3), (4, iv 0), (5, iv y4), (6, iv (-1))] [] s4 Q) ∧ (y4 ≠ 0 → wp S 189 0 [(0, rf 252), (1, iv x2)] [] s4 (fun o8 s8 => zkI (fun y8 => (y8 ≤ 0 → wp S 259 75 [(0, rf 252), (1, iv x1), (2, iv x2), (3, iv x3), (4, iv 0), (5, iv y4), (6, iv (-1))] [] s8 Q) ∧ (0 < y8 → wp S 193 0 [(0, rf 252)] [] s8 (fun o11 s11 => zkU (wp S 236 0 [(0, rf 252), (1, iv x1), (2, iv 1)] [] s11 (fun o13 s13 => zkI (fun y13 => wp S 230 0 [(0, rf 252), (1, iv x2), (2, iv y13), (3, iv x3)] [] s13 (fun o15 s15 => zkI (fun y15 => wp S 233 0 [(0, rf 252), (1, iv y15)] [] s15 (fun o17 s17 => zkI (fun y17 => wp S 259 75 [(0, rf 252), (1, iv x1), (2, iv x2), (3, iv x3), (4, iv 0), (5, iv y4), (6, iv y17)] [] s17 Q) (fun e17 => False) o17)) (fun e15 => False) o15)) (fun e13 => False) o13)) (fun e11 => False) o11))) (fun e8 => False) o8)))) (fun e4 => False) o4)) ∧ (y1 ≠ 0 → wp S 186 0 [(0, rf 252), (1, iv x2)] [] s1 (fun o19 s19 => zkI (fun y19 => (y19 = 0 → wp S 187 0 [(0, iv x3), (1, iv 0), (2, iv 8)] [] s19 (fun o22 s22 => zkI (fun y22 => (0 = 0 → wp S 259 75 [(0, rf 252), (1, iv x1), (2, iv x2), (3, iv x3), (4, iv 0), (5, iv y22), (6, iv (-1))] [] s22 Q) ∧ (0 ≠ 0 → (y22 = 0 → wp S 259 75 [(0, rf 252), (1, iv x1), (2, iv x2), (3, iv x3), (4, iv 0), (5, iv y22), (6, iv (-1))] [] s22 Q) ∧ (y22 ≠ 0 → wp S 189 0 [(0, rf 252), (1, iv x2)] [] s22 (fun o26 s26 => zkI (fun y26 => (y26 ≤ 0 → wp S 259 75 [(0, rf 252), (1, iv x1), (2, iv x2), (3, iv x3), (4, iv 0), (5, iv y22), (6, iv (-1))] [] s26 Q) ∧ (0 < y26 → wp S 193 0 [(0, rf 252)] [] s26 (fun o29 s29 => zkU (wp S 236 0 [(0, rf 252), (1, iv x1), (2, iv 1)] [] s29 (fun o31 s31 => zkI (fun y31 => wp S 230 0 [(0, rf 252), (1, iv x2), (2, iv y31), (3, iv x3)] [] s31 (fun o33 s33 => zkI (fun y33 => wp S 233 0 [(0, rf 252), (1, iv y33)] [] s33 (fun o35 s35 => zkI (fun y35 => wp S 259 75 [(0, rf 252), (1, iv x1), (2, iv x2), (3, iv x3), (4, iv 0), (5, iv y22), (6, iv y35)] [] s35 Q) (fun e35 => False) o35)) (fun e33 => False) o33)) (fun e31 => False) o31)) (fun e29 => False) o29))) (fun e26 => False) o26)))) (fun e22 => False) o22)) ∧ (y19 ≠ 0 → wp S 187 0 [(0, iv x3), (1, iv 0), (2, iv 8)] [] s19 (fun o37 s37 => zkI (fun y37 => (1 = 0 → wp S 259 75 [(0, rf 252), (1, iv x1), (2, iv x2), (3, iv x3), (4, iv 1), (5, iv y37), (6, iv (-1))] [] s37 Q) ∧ (1 ≠ 0 → (y37 = 0 → wp S 259 75 [(0, rf 252), (1, iv x1), (2, iv x2), (3, iv x3), (4, iv 1), (5, iv y37), (6, iv (-1))] [] s37 Q) ∧ (y37 ≠ 0 → wp S 189 0 [(0, rf 252), (1, iv x2)] [] s37 (fun o41 s41 => zkI (fun y41 => (y41 ≤ 0 → wp S 259 75 [(0, rf 252), (1, iv x1), (2, iv x2), (3, iv x3), (4, iv 1), (5, iv y37), (6, iv (-1))] [] s41 Q) ∧ (0 < y41 → wp S 193 0 [(0, rf 252)] [] s41 (fun o44 s44 => zkU (wp S 236 0 [(0, rf 252), (1, iv x1), (2, iv 1)] [] s44 (fun o46 s46 => zkI (fun y46 => wp S 230 0 [(0, rf 252), (1, iv x2), (2, iv y46), (3, iv x3)] [] s46 (fun o48 s48 => zkI (fun y48 => wp S 233 0 [(0, rf 252), (1, iv y48)] [] s48 (fun o50 s50 => zkI (fun y50 => wp S 259 75 [(0, rf 252), (1, iv x1), (2, iv x2), (3, iv x3), (4, iv 1), (5, iv y37), (6, iv y50)] [] s50 Q) (fun e50 => False) o50)) (fun e48 => False) o48)) (fun e46 => False) o46)) (fun e44 => False) o44))) (fun e41 => False) o41)))) (fun e37 => False) o37))) (fun e19 => False) o19))) (fun e1 => False) o1)) :
    wp S 259 0 [(0, rf 252), (1, iv x1), (2, iv x2), (3, iv x3)] [] s Q := by
  refine i_aload_n (a := 252) r_259_0 (n_259_0 _) rfl ?_
  refine i_iload_n (x := x1) r_259_1 (n_259_1 _) rfl ?_
  refine wp_virt (b := 252) (rest := []) (Ls := [(0, rf 252), (1, iv x1)]) r_259_2 (n_259_2 _) rfl ⟨rfl, rfl, by decide, by decide⟩ rfl rfl lf_252 ⟨rfl, Nat.le_of_ble_eq_true rfl, Nat.le_of_ble_eq_true rfl⟩ rfl h ?_
  intro o1 s1 h
  rcases h with ⟨y1, q2, rfl, h⟩ | ⟨e1, rfl, h⟩
  · refine .inl ⟨some (iv y1), rfl, ?_⟩
    show wp S 259 5 [(0, rf 252), (1, iv x1), (2, iv x2), (3, iv x3)] [iv y1] s1 Q
    refine i_if (t := 20) r_259_5 (n_259_5 _) rfl (T_eq q2 ⟨by omega, by omega⟩) (fun c3 => ?_) (fun c3 => ?_)
    · replace h := h.1 c3
      refine i_iconst r_259_20 (n_259_20 _) ?_
      refine i_istore (l' := [(0, rf 252), (1, iv x1), (2, iv x2), (3, iv x3), (4, iv 0)]) r_259_21 (n_259_21 _) (by decide) rfl ?_
      refine i_iload_n (x := x3) r_259_23 (n_259_23 _) rfl ?_
      refine i_iconst r_259_24 (n_259_24 _) ?_
      refine i_bipush r_259_25 (n_259_25 _) rfl ?_
      refine wp_stat (rest := []) (Ls := [(0, iv x3), (1, iv 0), (2, iv 8)]) r_259_27 (n_259_27 _) rfl ⟨rfl, by decide, by decide, by decide⟩ rfl rfl ⟨rfl, Nat.le_of_ble_eq_true rfl, Nat.le_of_ble_eq_true rfl⟩ rfl h ?_
      intro o4 s4 h
      rcases h with ⟨y4, q5, rfl, h⟩ | ⟨e4, rfl, h⟩
      · refine .inl ⟨some (iv y4), rfl, ?_⟩
        show wp S 259 30 [(0, rf 252), (1, iv x1), (2, iv x2), (3, iv x3), (4, iv 0)] [iv y4] s4 Q
        refine i_istore (l' := [(0, rf 252), (1, iv x1), (2, iv x2), (3, iv x3), (4, iv 0), (5, iv y4)]) r_259_30 (n_259_30 _) (by decide) rfl ?_
        refine i_iconst r_259_32 (n_259_32 _) ?_
        refine i_istore (l' := [(0, rf 252), (1, iv x1), (2, iv x2), (3, iv x3), (4, iv 0), (5, iv y4), (6, iv (-1))]) r_259_33 (n_259_33 _) (by decide) rfl ?_
        refine i_iload (x := 0) r_259_35 (n_259_35 _) rfl ?_
        refine i_if (t := 75) r_259_37 (n_259_37 _) rfl (T_eq ⟨by omega, by omega⟩ ⟨by omega, by omega⟩) (fun c6 => ?_) (fun c6 => ?_)
        · replace h := h.1 c6
          exact wp_pr (l' := [(0, rf 252), (1, iv x1), (2, iv x2), (3, iv x3), (4, iv 0), (5, iv y4), (6, iv (-1))]) rfl h
        · replace h := h.2 c6
          refine i_iload (x := y4) r_259_40 (n_259_40 _) rfl ?_
          refine i_if (t := 75) r_259_42 (n_259_42 _) rfl (T_eq q5 ⟨by omega, by omega⟩) (fun c7 => ?_) (fun c7 => ?_)
          · replace h := h.1 c7
            exact wp_pr (l' := [(0, rf 252), (1, iv x1), (2, iv x2), (3, iv x3), (4, iv 0), (5, iv y4), (6, iv (-1))]) rfl h
          · replace h := h.2 c7
            refine i_aload_n (a := 252) r_259_45 (n_259_45 _) rfl ?_
            refine i_iload_n (x := x2) r_259_46 (n_259_46 _) rfl ?_
            refine wp_virt (b := 252) (rest := []) (Ls := [(0, rf 252), (1, iv x2)]) r_259_47 (n_259_47 _) rfl ⟨rfl, rfl, by decide, by decide⟩ rfl rfl lf_252 ⟨rfl, Nat.le_of_ble_eq_true rfl, Nat.le_of_ble_eq_true rfl⟩ rfl h ?_
            intro o8 s8 h
            rcases h with ⟨y8, q9, rfl, h⟩ | ⟨e8, rfl, h⟩
            · refine .inl ⟨some (iv y8), rfl, ?_⟩
              show wp S 259 50 [(0, rf 252), (1, iv x1), (2, iv x2), (3, iv x3), (4, iv 0), (5, iv y4), (6, iv (-1))] [iv y8] s8 Q
              refine i_if (t := 75) r_259_50 (n_259_50 _) rfl (T_le q9 ⟨by omega, by omega⟩) (fun c10 => ?_) (fun c10 => ?_)
              · replace h := h.1 c10
                exact wp_pr (l' := [(0, rf 252), (1, iv x1), (2, iv x2), (3, iv x3), (4, iv 0), (5, iv y4), (6, iv (-1))]) rfl h
              · replace h := h.2 c10
                refine i_aload_n (a := 252) r_259_53 (n_259_53 _) rfl ?_
                refine wp_virt (b := 252) (rest := []) (Ls := [(0, rf 252)]) r_259_54 (n_259_54 _) rfl ⟨rfl, rfl, by decide, by decide⟩ rfl rfl lf_252 ⟨rfl, Nat.le_of_ble_eq_true rfl, Nat.le_of_ble_eq_true rfl⟩ rfl h ?_
                intro o11 s11 h
                rcases h with ⟨rfl, h⟩ | ⟨e11, rfl, h⟩
                · refine .inl ⟨none, rfl, ?_⟩
                  refine i_aload_n (a := 252) r_259_57 (n_259_57 _) rfl ?_
                  refine i_aload_n (a := 252) r_259_58 (n_259_58 _) rfl ?_
                  refine i_iload_n (x := x2) r_259_59 (n_259_59 _) rfl ?_
                  refine i_aload_n (a := 252) r_259_60 (n_259_60 _) rfl ?_
                  refine i_iload_n (x := x1) r_259_61 (n_259_61 _) rfl ?_
                  refine i_iconst r_259_62 (n_259_62 _) ?_
                  refine wp_virt (b := 252) (rest := [iv x2, rf 252, rf 252]) (Ls := [(0, rf 252), (1, iv x1), (2, iv 1)]) r_259_63 (n_259_63 _) rfl ⟨rfl, rfl, by decide, by decide⟩ rfl rfl lf_252 ⟨rfl, Nat.le_of_ble_eq_true rfl, Nat.le_of_ble_eq_true rfl⟩ rfl h ?_
                  intro o13 s13 h
                  rcases h with ⟨y13, q14, rfl, h⟩ | ⟨e13, rfl, h⟩
                  · refine .inl ⟨some (iv y13), rfl, ?_⟩
                    show wp S 259 66 [(0, rf 252), (1, iv x1), (2, iv x2), (3, iv x3), (4, iv 0), (5, iv y4), (6, iv (-1))] [iv y13, iv x2, rf 252, rf 252] s13 Q
                    refine i_iload_n (x := x3) r_259_66 (n_259_66 _) rfl ?_
                    refine wp_virt (b := 252) (rest := [rf 252]) (Ls := [(0, rf 252), (1, iv x2), (2, iv y13), (3, iv x3)]) r_259_67 (n_259_67 _) rfl ⟨rfl, rfl, by decide, by decide⟩ rfl rfl lf_252 ⟨rfl, Nat.le_of_ble_eq_true rfl, Nat.le_of_ble_eq_true rfl⟩ rfl h ?_
                    intro o15 s15 h
                    rcases h with ⟨y15, q16, rfl, h⟩ | ⟨e15, rfl, h⟩
                    · refine .inl ⟨some (iv y15), rfl, ?_⟩
                      show wp S 259 70 [(0, rf 252), (1, iv x1), (2, iv x2), (3, iv x3), (4, iv 0), (5, iv y4), (6, iv (-1))] [iv y15, rf 252] s15 Q
                      refine wp_virt (b := 252) (rest := []) (Ls := [(0, rf 252), (1, iv y15)]) r_259_70 (n_259_70 _) rfl ⟨rfl, rfl, by decide, by decide⟩ rfl rfl lf_252 ⟨rfl, Nat.le_of_ble_eq_true rfl, Nat.le_of_ble_eq_true rfl⟩ rfl h ?_
                      intro o17 s17 h
                      rcases h with ⟨y17, q18, rfl, h⟩ | ⟨e17, rfl, h⟩
                      · refine .inl ⟨some (iv y17), rfl, ?_⟩
                        show wp S 259 73 [(0, rf 252), (1, iv x1), (2, iv x2), (3, iv x3), (4, iv 0), (5, iv y4), (6, iv (-1))] [iv y17] s17 Q
                        refine i_istore (l' := [(0, rf 252), (1, iv x1), (2, iv x2), (3, iv x3), (4, iv 0), (5, iv y4), (6, iv y17)]) r_259_73 (n_259_73 _) (by decide) rfl ?_
                        exact wp_pr (l' := [(0, rf 252), (1, iv x1), (2, iv x2), (3, iv x3), (4, iv 0), (5, iv y4), (6, iv y17)]) rfl h
                      · skip
                        exact h.elim
                    · skip
                      exact h.elim
                  · skip
                    exact h.elim
                · skip
                  exact h.elim
            · skip
              exact h.elim
      · skip
        exact h.elim
    · replace h := h.2 c3
      refine i_aload_n (a := 252) r_259_8 (n_259_8 _) rfl ?_
      refine i_iload_n (x := x2) r_259_9 (n_259_9 _) rfl ?_
      refine wp_virt (b := 252) (rest := []) (Ls := [(0, rf 252), (1, iv x2)]) r_259_10 (n_259_10 _) rfl ⟨rfl, rfl, by decide, by decide⟩ rfl rfl lf_252 ⟨rfl, Nat.le_of_ble_eq_true rfl, Nat.le_of_ble_eq_true rfl⟩ rfl h ?_
      intro o19 s19 h
      rcases h with ⟨y19, q20, rfl, h⟩ | ⟨e19, rfl, h⟩
      · refine .inl ⟨some (iv y19), rfl, ?_⟩
        show wp S 259 13 [(0, rf 252), (1, iv x1), (2, iv x2), (3, iv x3)] [iv y19] s19 Q
        refine i_if (t := 20) r_259_13 (n_259_13 _) rfl (T_eq q20 ⟨by omega, by omega⟩) (fun c21 => ?_) (fun c21 => ?_)
        · replace h := h.1 c21
          refine i_iconst r_259_20 (n_259_20 _) ?_
          refine i_istore (l' := [(0, rf 252), (1, iv x1), (2, iv x2), (3, iv x3), (4, iv 0)]) r_259_21 (n_259_21 _) (by decide) rfl ?_
          refine i_iload_n (x := x3) r_259_23 (n_259_23 _) rfl ?_
          refine i_iconst r_259_24 (n_259_24 _) ?_
          refine i_bipush r_259_25 (n_259_25 _) rfl ?_
          refine wp_stat (rest := []) (Ls := [(0, iv x3), (1, iv 0), (2, iv 8)]) r_259_27 (n_259_27 _) rfl ⟨rfl, by decide, by decide, by decide⟩ rfl rfl ⟨rfl, Nat.le_of_ble_eq_true rfl, Nat.le_of_ble_eq_true rfl⟩ rfl h ?_
          intro o22 s22 h
          rcases h with ⟨y22, q23, rfl, h⟩ | ⟨e22, rfl, h⟩
          · refine .inl ⟨some (iv y22), rfl, ?_⟩
            show wp S 259 30 [(0, rf 252), (1, iv x1), (2, iv x2), (3, iv x3), (4, iv 0)] [iv y22] s22 Q
            refine i_istore (l' := [(0, rf 252), (1, iv x1), (2, iv x2), (3, iv x3), (4, iv 0), (5, iv y22)]) r_259_30 (n_259_30 _) (by decide) rfl ?_
            refine i_iconst r_259_32 (n_259_32 _) ?_
            refine i_istore (l' := [(0, rf 252), (1, iv x1), (2, iv x2), (3, iv x3), (4, iv 0), (5, iv y22), (6, iv (-1))]) r_259_33 (n_259_33 _) (by decide) rfl ?_
            refine i_iload (x := 0) r_259_35 (n_259_35 _) rfl ?_
            refine i_if (t := 75) r_259_37 (n_259_37 _) rfl (T_eq ⟨by omega, by omega⟩ ⟨by omega, by omega⟩) (fun c24 => ?_) (fun c24 => ?_)
            · replace h := h.1 c24
              exact wp_pr (l' := [(0, rf 252), (1, iv x1), (2, iv x2), (3, iv x3), (4, iv 0), (5, iv y22), (6, iv (-1))]) rfl h
            · replace h := h.2 c24
              refine i_iload (x := y22) r_259_40 (n_259_40 _) rfl ?_
              refine i_if (t := 75) r_259_42 (n_259_42 _) rfl (T_eq q23 ⟨by omega, by omega⟩) (fun c25 => ?_) (fun c25 => ?_)
              · replace h := h.1 c25
                exact wp_pr (l' := [(0, rf 252), (1, iv x1), (2, iv x2), (3, iv x3), (4, iv 0), (5, iv y22), (6, iv (-1))]) rfl h
              · replace h := h.2 c25
                refine i_aload_n (a := 252) r_259_45 (n_259_45 _) rfl ?_
                refine i_iload_n (x := x2) r_259_46 (n_259_46 _) rfl ?_
                refine wp_virt (b := 252) (rest := []) (Ls := [(0, rf 252), (1, iv x2)]) r_259_47 (n_259_47 _) rfl ⟨rfl, rfl, by decide, by decide⟩ rfl rfl lf_252 ⟨rfl, Nat.le_of_ble_eq_true rfl, Nat.le_of_ble_eq_true rfl⟩ rfl h ?_
                intro o26 s26 h
                rcases h with ⟨y26, q27, rfl, h⟩ | ⟨e26, rfl, h⟩
                · refine .inl ⟨some (iv y26), rfl, ?_⟩
                  show wp S 259 50 [(0, rf 252), (1, iv x1), (2, iv x2), (3, iv x3), (4, iv 0), (5, iv y22), (6, iv (-1))] [iv y26] s26 Q
                  refine i_if (t := 75) r_259_50 (n_259_50 _) rfl (T_le q27 ⟨by omega, by omega⟩) (fun c28 => ?_) (fun c28 => ?_)
                  · replace h := h.1 c28
                    exact wp_pr (l' := [(0, rf 252), (1, iv x1), (2, iv x2), (3, iv x3), (4, iv 0), (5, iv y22), (6, iv (-1))]) rfl h
                  · replace h := h.2 c28
                    refine i_aload_n (a := 252) r_259_53 (n_259_53 _) rfl ?_
                    refine wp_virt (b := 252) (rest := []) (Ls := [(0, rf 252)]) r_259_54 (n_259_54 _) rfl ⟨rfl, rfl, by decide, by decide⟩ rfl rfl lf_252 ⟨rfl, Nat.le_of_ble_eq_true rfl, Nat.le_of_ble_eq_true rfl⟩ rfl h ?_
                    intro o29 s29 h
                    rcases h with ⟨rfl, h⟩ | ⟨e29, rfl, h⟩
                    · refine .inl ⟨none, rfl, ?_⟩
                      refine i_aload_n (a := 252) r_259_57 (n_259_57 _) rfl ?_
                      refine i_aload_n (a := 252) r_259_58 (n_259_58 _) rfl ?_
                      refine i_iload_n (x := x2) r_259_59 (n_259_59 _) rfl ?_
                      refine i_aload_n (a := 252) r_259_60 (n_259_60 _) rfl ?_
                      refine i_iload_n (x := x1) r_259_61 (n_259_61 _) rfl ?_
                      refine i_iconst r_259_62 (n_259_62 _) ?_
                      refine wp_virt (b := 252) (rest := [iv x2, rf 252, rf 252]) (Ls := [(0, rf 252), (1, iv x1), (2, iv 1)]) r_259_63 (n_259_63 _) rfl ⟨rfl, rfl, by decide, by decide⟩ rfl rfl lf_252 ⟨rfl, Nat.le_of_ble_eq_true rfl, Nat.le_of_ble_eq_true rfl⟩ rfl h ?_
                      intro o31 s31 h
                      rcases h with ⟨y31, q32, rfl, h⟩ | ⟨e31, rfl, h⟩
                      · refine .inl ⟨some (iv y31), rfl, ?_⟩
                        show wp S 259 66 [(0, rf 252), (1, iv x1), (2, iv x2), (3, iv x3), (4, iv 0), (5, iv y22), (6, iv (-1))] [iv y31, iv x2, rf 252, rf 252] s31 Q
                        refine i_iload_n (x := x3) r_259_66 (n_259_66 _) rfl ?_
                        refine wp_virt (b := 252) (rest := [rf 252]) (Ls := [(0, rf 252), (1, iv x2), (2, iv y31), (3, iv x3)]) r_259_67 (n_259_67 _) rfl ⟨rfl, rfl, by decide, by decide⟩ rfl rfl lf_252 ⟨rfl, Nat.le_of_ble_eq_true rfl, Nat.le_of_ble_eq_true rfl⟩ rfl h ?_
                        intro o33 s33 h
                        rcases h with ⟨y33, q34, rfl, h⟩ | ⟨e33, rfl, h⟩
                        · refine .inl ⟨some (iv y33), rfl, ?_⟩
                          show wp S 259 70 [(0, rf 252), (1, iv x1), (2, iv x2), (3, iv x3), (4, iv 0), (5, iv y22), (6, iv (-1))] [iv y33, rf 252] s33 Q
                          refine wp_virt (b := 252) (rest := []) (Ls := [(0, rf 252), (1, iv y33)]) r_259_70 (n_259_70 _) rfl ⟨rfl, rfl, by decide, by decide⟩ rfl rfl lf_252 ⟨rfl, Nat.le_of_ble_eq_true rfl, Nat.le_of_ble_eq_true rfl⟩ rfl h ?_
                          intro o35 s35 h
                          rcases h with ⟨y35, q36, rfl, h⟩ | ⟨e35, rfl, h⟩
                          · refine .inl ⟨some (iv y35), rfl, ?_⟩
                            show wp S 259 73 [(0, rf 252), (1, iv x1), (2, iv x2), (3, iv x3), (4, iv 0), (5, iv y22), (6, iv (-1))] [iv y35] s35 Q
                            refine i_istore (l' := [(0, rf 252), (1, iv x1), (2, iv x2), (3, iv x3), (4, iv 0), (5, iv y22), (6, iv y35)]) r_259_73 (n_259_73 _) (by decide) rfl ?_
                            exact wp_pr (l' := [(0, rf 252), (1, iv x1), (2, iv x2), (3, iv x3), (4, iv 0), (5, iv y22), (6, iv y35)]) rfl h
                          · skip
                            exact h.elim
                        · skip
                          exact h.elim
                      · skip
                        exact h.elim
                    · skip
                      exact h.elim
                · skip
                  exact h.elim
          · skip
            exact h.elim
        · replace h := h.2 c21
          refine i_iconst r_259_16 (n_259_16 _) ?_
          refine i_goto (t := 21) r_259_17 (n_259_17 _) rfl ?_
          refine i_istore (l' := [(0, rf 252), (1, iv x1), (2, iv x2), (3, iv x3), (4, iv 1)]) r_259_21 (n_259_21 _) (by decide) rfl ?_
          refine i_iload_n (x := x3) r_259_23 (n_259_23 _) rfl ?_
          refine i_iconst r_259_24 (n_259_24 _) ?_
          refine i_bipush r_259_25 (n_259_25 _) rfl ?_
          refine wp_stat (rest := []) (Ls := [(0, iv x3), (1, iv 0), (2, iv 8)]) r_259_27 (n_259_27 _) rfl ⟨rfl, by decide, by decide, by decide⟩ rfl rfl ⟨rfl, Nat.le_of_ble_eq_true rfl, Nat.le_of_ble_eq_true rfl⟩ rfl h ?_
          intro o37 s37 h
          rcases h with ⟨y37, q38, rfl, h⟩ | ⟨e37, rfl, h⟩
          · refine .inl ⟨some (iv y37), rfl, ?_⟩
            show wp S 259 30 [(0, rf 252), (1, iv x1), (2, iv x2), (3, iv x3), (4, iv 1)] [iv y37] s37 Q
            refine i_istore (l' := [(0, rf 252), (1, iv x1), (2, iv x2), (3, iv x3), (4, iv 1), (5, iv y37)]) r_259_30 (n_259_30 _) (by decide) rfl ?_
            refine i_iconst r_259_32 (n_259_32 _) ?_
            refine i_istore (l' := [(0, rf 252), (1, iv x1), (2, iv x2), (3, iv x3), (4, iv 1), (5, iv y37), (6, iv (-1))]) r_259_33 (n_259_33 _) (by decide) rfl ?_
            refine i_iload (x := 1) r_259_35 (n_259_35 _) rfl ?_
            refine i_if (t := 75) r_259_37 (n_259_37 _) rfl (T_eq ⟨by omega, by omega⟩ ⟨by omega, by omega⟩) (fun c39 => ?_) (fun c39 => ?_)
            · replace h := h.1 c39
              exact wp_pr (l' := [(0, rf 252), (1, iv x1), (2, iv x2), (3, iv x3), (4, iv 1), (5, iv y37), (6, iv (-1))]) rfl h
            · replace h := h.2 c39
              refine i_iload (x := y37) r_259_40 (n_259_40 _) rfl ?_
              refine i_if (t := 75) r_259_42 (n_259_42 _) rfl (T_eq q38 ⟨by omega, by omega⟩) (fun c40 => ?_) (fun c40 => ?_)
              · replace h := h.1 c40
                exact wp_pr (l' := [(0, rf 252), (1, iv x1), (2, iv x2), (3, iv x3), (4, iv 1), (5, iv y37), (6, iv (-1))]) rfl h
              · replace h := h.2 c40
                refine i_aload_n (a := 252) r_259_45 (n_259_45 _) rfl ?_
                refine i_iload_n (x := x2) r_259_46 (n_259_46 _) rfl ?_
                refine wp_virt (b := 252) (rest := []) (Ls := [(0, rf 252), (1, iv x2)]) r_259_47 (n_259_47 _) rfl ⟨rfl, rfl, by decide, by decide⟩ rfl rfl lf_252 ⟨rfl, Nat.le_of_ble_eq_true rfl, Nat.le_of_ble_eq_true rfl⟩ rfl h ?_
                intro o41 s41 h
                rcases h with ⟨y41, q42, rfl, h⟩ | ⟨e41, rfl, h⟩
                · refine .inl ⟨some (iv y41), rfl, ?_⟩
                  show wp S 259 50 [(0, rf 252), (1, iv x1), (2, iv x2), (3, iv x3), (4, iv 1), (5, iv y37), (6, iv (-1))] [iv y41] s41 Q
                  refine i_if (t := 75) r_259_50 (n_259_50 _) rfl (T_le q42 ⟨by omega, by omega⟩) (fun c43 => ?_) (fun c43 => ?_)
                  · replace h := h.1 c43
                    exact wp_pr (l' := [(0, rf 252), (1, iv x1), (2, iv x2), (3, iv x3), (4, iv 1), (5, iv y37), (6, iv (-1))]) rfl h
                  · replace h := h.2 c43
                    refine i_aload_n (a := 252) r_259_53 (n_259_53 _) rfl ?_
                    refine wp_virt (b := 252) (rest := []) (Ls := [(0, rf 252)]) r_259_54 (n_259_54 _) rfl ⟨rfl, rfl, by decide, by decide⟩ rfl rfl lf_252 ⟨rfl, Nat.le_of_ble_eq_true rfl, Nat.le_of_ble_eq_true rfl⟩ rfl h ?_
                    intro o44 s44 h
                    rcases h with ⟨rfl, h⟩ | ⟨e44, rfl, h⟩
                    · refine .inl ⟨none, rfl, ?_⟩
                      refine i_aload_n (a := 252) r_259_57 (n_259_57 _) rfl ?_
                      refine i_aload_n (a := 252) r_259_58 (n_259_58 _) rfl ?_
                      refine i_iload_n (x := x2) r_259_59 (n_259_59 _) rfl ?_
                      refine i_aload_n (a := 252) r_259_60 (n_259_60 _) rfl ?_
                      refine i_iload_n (x := x1) r_259_61 (n_259_61 _) rfl ?_
                      refine i_iconst r_259_62 (n_259_62 _) ?_
                      refine wp_virt (b := 252) (rest := [iv x2, rf 252, rf 252]) (Ls := [(0, rf 252), (1, iv x1), (2, iv 1)]) r_259_63 (n_259_63 _) rfl ⟨rfl, rfl, by decide, by decide⟩ rfl rfl lf_252 ⟨rfl, Nat.le_of_ble_eq_true rfl, Nat.le_of_ble_eq_true rfl⟩ rfl h ?_
                      intro o46 s46 h
                      rcases h with ⟨y46, q47, rfl, h⟩ | ⟨e46, rfl, h⟩
                      · refine .inl ⟨some (iv y46), rfl, ?_⟩
                        show wp S 259 66 [(0, rf 252), (1, iv x1), (2, iv x2), (3, iv x3), (4, iv 1), (5, iv y37), (6, iv (-1))] [iv y46, iv x2, rf 252, rf 252] s46 Q
                        refine i_iload_n (x := x3) r_259_66 (n_259_66 _) rfl ?_
                        refine wp_virt (b := 252) (rest := [rf 252]) (Ls := [(0, rf 252), (1, iv x2), (2, iv y46), (3, iv x3)]) r_259_67 (n_259_67 _) rfl ⟨rfl, rfl, by decide, by decide⟩ rfl rfl lf_252 ⟨rfl, Nat.le_of_ble_eq_true rfl, Nat.le_of_ble_eq_true rfl⟩ rfl h ?_
                        intro o48 s48 h
                        rcases h with ⟨y48, q49, rfl, h⟩ | ⟨e48, rfl, h⟩
                        · refine .inl ⟨some (iv y48), rfl, ?_⟩
                          show wp S 259 70 [(0, rf 252), (1, iv x1), (2, iv x2), (3, iv x3), (4, iv 1), (5, iv y37), (6, iv (-1))] [iv y48, rf 252] s48 Q
                          refine wp_virt (b := 252) (rest := []) (Ls := [(0, rf 252), (1, iv y48)]) r_259_70 (n_259_70 _) rfl ⟨rfl, rfl, by decide, by decide⟩ rfl rfl lf_252 ⟨rfl, Nat.le_of_ble_eq_true rfl, Nat.le_of_ble_eq_true rfl⟩ rfl h ?_
                          intro o50 s50 h
                          rcases h with ⟨y50, q51, rfl, h⟩ | ⟨e50, rfl, h⟩
                          · refine .inl ⟨some (iv y50), rfl, ?_⟩
                            show wp S 259 73 [(0, rf 252), (1, iv x1), (2, iv x2), (3, iv x3), (4, iv 1), (5, iv y37), (6, iv (-1))] [iv y50] s50 Q
                            refine i_istore (l' := [(0, rf 252), (1, iv x1), (2, iv x2), (3, iv x3), (4, iv 1), (5, iv y37), (6, iv y50)]) r_259_73 (n_259_73 _) (by decide) rfl ?_
                            exact wp_pr (l' := [(0, rf 252), (1, iv x1), (2, iv x2), (3, iv x3), (4, iv 1), (5, iv y37), (6, iv y50)]) rfl h
                          · skip
                            exact h.elim
                        · skip
                          exact h.elim
                      · skip
                        exact h.elim
                    · skip
                      exact h.elim
                · skip
                  exact h.elim
          · skip
            exact h.elim
      · skip
        exact h.elim
  · skip
    exact h.elim
theorem v_Model_migrate_75 {S : Option (Nat × (Nat → Int32))} {s : zSt} {Q : Option Value ⊕ Nat → zSt → Prop} {x1 : Int} {x2 : Int} {x3 : Int} {x4 : Int} {x5 : Int} {x6 : Int} 
    (h : rng x4 ∧ ((x4 ≠ 0 → rng x5 ∧ ((x5 ≠ 0 → rng x6 ∧ ((x6 ≠ (-1) → wp S 179 0 [(0, rf 252), (1, iv 0)] [] s (fun o7 s7 => zkI (fun y7 => (y7 = 0 → wp S 182 0 [(0, rf 252)] [] s7 (fun o10 s10 => zkU (wp S 258 0 [(0, rf 252), (1, iv x1)] [] s10 (fun o12 s12 => zkU (wp S 236 0 [(0, rf 252), (1, iv x1), (2, iv 0)] [] s12 (fun o14 s14 => zkI (fun y14 => wp S 236 0 [(0, rf 252), (1, iv x1), (2, iv 1)] [] s14 (fun o16 s16 => zkI (fun y16 => wp S 236 0 [(0, rf 252), (1, iv x1), (2, iv 3)] [] s16 (fun o18 s18 => zkI (fun y18 => wp S 237 0 [(0, rf 252), (1, iv x1), (2, iv x2), (3, iv y16), (4, iv x3), (5, iv y18), (6, iv x6)] [] s18 (fun o20 s20 => zkU (wp S 259 157 [(0, rf 252), (1, iv x1), (2, iv x2), (7, iv y14), (8, iv 0), (9, iv 0)] [] s20 Q) (fun e20 => False) o20)) (fun e18 => False) o18)) (fun e16 => False) o16)) (fun e14 => False) o14)) (fun e12 => False) o12)) (fun e10 => False) o10)) ∧ (y7 ≠ 0 → Q (rI 0) s7)) (fun e7 => False) o7)) ∧ (x6 = (-1) → wp S 179 0 [(0, rf 252), (1, iv 3)] [] s (fun o22 s22 => zkI (fun y22 => (y22 = 0 → wp S 182 0 [(0, rf 252)] [] s22 (fun o25 s25 => zkU (wp S 258 0 [(0, rf 252), (1, iv x1)] [] s25 (fun o27 s27 => zkU (wp S 236 0 [(0, rf 252), (1, iv x1), (2, iv 0)] [] s27 (fun o29 s29 => zkI (fun y29 => wp S 236 0 [(0, rf 252), (1, iv x1), (2, iv 1)] [] s29 (fun o31 s31 => zkI (fun y31 => wp S 236 0 [(0, rf 252), (1, iv x1), (2, iv 3)] [] s31 (fun o33 s33 => zkI (fun y33 => wp S 237 0 [(0, rf 252), (1, iv x1), (2, iv x2), (3, iv y31), (4, iv x3), (5, iv y33), (6, iv x6)] [] s33 (fun o35 s35 => zkU (wp S 259 157 [(0, rf 252), (1, iv x1), (2, iv x2), (7, iv y29), (8, iv 0), (9, iv 0)] [] s35 Q) (fun e35 => False) o35)) (fun e33 => False) o33)) (fun e31 => False) o31)) (fun e29 => False) o29)) (fun e27 => False) o27)) (fun e25 => False) o25)) ∧ (y22 ≠ 0 → Q (rI 0) s22)) (fun e22 => False) o22)))) ∧ (x5 = 0 → wp S 179 0 [(0, rf 252), (1, iv 2)] [] s (fun o37 s37 => zkI (fun y37 => (y37 = 0 → wp S 182 0 [(0, rf 252)] [] s37 (fun o40 s40 => zkU (wp S 258 0 [(0, rf 252), (1, iv x1)] [] s40 (fun o42 s42 => zkU (wp S 236 0 [(0, rf 252), (1, iv x1), (2, iv 0)] [] s42 (fun o44 s44 => zkI (fun y44 => wp S 236 0 [(0, rf 252), (1, iv x1), (2, iv 1)] [] s44 (fun o46 s46 => zkI (fun y46 => wp S 236 0 [(0, rf 252), (1, iv x1), (2, iv 3)] [] s46 (fun o48 s48 => zkI (fun y48 => wp S 237 0 [(0, rf 252), (1, iv x1), (2, iv x2), (3, iv y46), (4, iv x3), (5, iv y48), (6, iv x6)] [] s48 (fun o50 s50 => zkU (wp S 259 157 [(0, rf 252), (1, iv x1), (2, iv x2), (7, iv y44), (8, iv 0), (9, iv 0)] [] s50 Q) (fun e50 => False) o50)) (fun e48 => False) o48)) (fun e46 => False) o46)) (fun e44 => False) o44)) (fun e42 => False) o42)) (fun e40 => False) o40)) ∧ (y37 ≠ 0 → Q (rI 0) s37)) (fun e37 => False) o37)))) ∧ (x4 = 0 → wp S 179 0 [(0, rf 252), (1, iv 1)] [] s (fun o52 s52 => zkI (fun y52 => (y52 = 0 → wp S 182 0 [(0, rf 252)] [] s52 (fun o55 s55 => zkU (wp S 258 0 [(0, rf 252), (1, iv x1)] [] s55 (fun o57 s57 => zkU (wp S 236 0 [(0, rf 252), (1, iv x1), (2, iv 0)] [] s57 (fun o59 s59 => zkI (fun y59 => wp S 236 0 [(0, rf 252), (1, iv x1), (2, iv 1)] [] s59 (fun o61 s61 => zkI (fun y61 => wp S 236 0 [(0, rf 252), (1, iv x1), (2, iv 3)] [] s61 (fun o63 s63 => zkI (fun y63 => wp S 237 0 [(0, rf 252), (1, iv x1), (2, iv x2), (3, iv y61), (4, iv x3), (5, iv y63), (6, iv x6)] [] s63 (fun o65 s65 => zkU (wp S 259 157 [(0, rf 252), (1, iv x1), (2, iv x2), (7, iv y59), (8, iv 0), (9, iv 0)] [] s65 Q) (fun e65 => False) o65)) (fun e63 => False) o63)) (fun e61 => False) o61)) (fun e59 => False) o59)) (fun e57 => False) o57)) (fun e55 => False) o55)) ∧ (y52 ≠ 0 → Q (rI 0) s52)) (fun e52 => False) o52)))) :
    wp S 259 75 [(0, rf 252), (1, iv x1), (2, iv x2), (3, iv x3), (4, iv x4), (5, iv x5), (6, iv x6)] [] s Q := by
  refine i_aload_n (a := 252) r_259_75 rfl rfl ?_
  refine i_iload (x := x4) r_259_76 (n_259_76 _) rfl ?_
  obtain ⟨g1, h⟩ := h
  refine i_if (t := 85) r_259_78 (n_259_78 _) rfl (T_ne g1 ⟨by omega, by omega⟩) (fun c2 => ?_) (fun c2 => ?_)
  · replace h := h.1 c2
    refine i_iload (x := x5) r_259_85 (n_259_85 _) rfl ?_
    obtain ⟨g3, h⟩ := h
    refine i_if (t := 94) r_259_87 (n_259_87 _) rfl (T_ne g3 ⟨by omega, by omega⟩) (fun c4 => ?_) (fun c4 => ?_)
    · replace h := h.1 c4
      refine i_iload (x := x6) r_259_94 (n_259_94 _) rfl ?_
      refine i_iconst r_259_96 (n_259_96 _) ?_
      obtain ⟨g5, h⟩ := h
      refine i_icmp (t := 104) r_259_97 (n_259_97 _) rfl (T_ne g5 ⟨by omega, by omega⟩) (fun c6 => ?_) (fun c6 => ?_)
      · replace h := h.1 c6
        refine i_iconst r_259_104 (n_259_104 _) ?_
        refine wp_virt (b := 252) (rest := []) (Ls := [(0, rf 252), (1, iv 0)]) r_259_105 (n_259_105 _) rfl ⟨rfl, rfl, by decide, by decide⟩ rfl rfl lf_252 ⟨rfl, Nat.le_of_ble_eq_true rfl, Nat.le_of_ble_eq_true rfl⟩ rfl h ?_
        intro o7 s7 h
        rcases h with ⟨y7, q8, rfl, h⟩ | ⟨e7, rfl, h⟩
        · refine .inl ⟨some (iv y7), rfl, ?_⟩
          show wp S 259 108 [(0, rf 252), (1, iv x1), (2, iv x2), (3, iv x3), (4, iv x4), (5, iv x5), (6, iv x6)] [iv y7] s7 Q
          refine i_if (t := 113) r_259_108 (n_259_108 _) rfl (T_eq q8 ⟨by omega, by omega⟩) (fun c9 => ?_) (fun c9 => ?_)
          · replace h := h.1 c9
            refine i_aload_n (a := 252) r_259_113 (n_259_113 _) rfl ?_
            refine wp_virt (b := 252) (rest := []) (Ls := [(0, rf 252)]) r_259_114 (n_259_114 _) rfl ⟨rfl, rfl, by decide, by decide⟩ rfl rfl lf_252 ⟨rfl, Nat.le_of_ble_eq_true rfl, Nat.le_of_ble_eq_true rfl⟩ rfl h ?_
            intro o10 s10 h
            rcases h with ⟨rfl, h⟩ | ⟨e10, rfl, h⟩
            · refine .inl ⟨none, rfl, ?_⟩
              refine i_aload_n (a := 252) r_259_117 (n_259_117 _) rfl ?_
              refine i_iload_n (x := x1) r_259_118 (n_259_118 _) rfl ?_
              refine wp_virt (b := 252) (rest := []) (Ls := [(0, rf 252), (1, iv x1)]) r_259_119 (n_259_119 _) rfl ⟨rfl, rfl, by decide, by decide⟩ rfl rfl lf_252 ⟨rfl, Nat.le_of_ble_eq_true rfl, Nat.le_of_ble_eq_true rfl⟩ rfl h ?_
              intro o12 s12 h
              rcases h with ⟨rfl, h⟩ | ⟨e12, rfl, h⟩
              · refine .inl ⟨none, rfl, ?_⟩
                refine i_aload_n (a := 252) r_259_122 (n_259_122 _) rfl ?_
                refine i_iload_n (x := x1) r_259_123 (n_259_123 _) rfl ?_
                refine i_iconst r_259_124 (n_259_124 _) ?_
                refine wp_virt (b := 252) (rest := []) (Ls := [(0, rf 252), (1, iv x1), (2, iv 0)]) r_259_125 (n_259_125 _) rfl ⟨rfl, rfl, by decide, by decide⟩ rfl rfl lf_252 ⟨rfl, Nat.le_of_ble_eq_true rfl, Nat.le_of_ble_eq_true rfl⟩ rfl h ?_
                intro o14 s14 h
                rcases h with ⟨y14, q15, rfl, h⟩ | ⟨e14, rfl, h⟩
                · refine .inl ⟨some (iv y14), rfl, ?_⟩
                  show wp S 259 128 [(0, rf 252), (1, iv x1), (2, iv x2), (3, iv x3), (4, iv x4), (5, iv x5), (6, iv x6)] [iv y14] s14 Q
                  refine i_istore (l' := [(0, rf 252), (1, iv x1), (2, iv x2), (3, iv x3), (4, iv x4), (5, iv x5), (6, iv x6), (7, iv y14)]) r_259_128 (n_259_128 _) (by decide) rfl ?_
                  refine i_aload_n (a := 252) r_259_130 (n_259_130 _) rfl ?_
                  refine i_iload_n (x := x1) r_259_131 (n_259_131 _) rfl ?_
                  refine i_iload_n (x := x2) r_259_132 (n_259_132 _) rfl ?_
                  refine i_aload_n (a := 252) r_259_133 (n_259_133 _) rfl ?_
                  refine i_iload_n (x := x1) r_259_134 (n_259_134 _) rfl ?_
                  refine i_iconst r_259_135 (n_259_135 _) ?_
                  refine wp_virt (b := 252) (rest := [iv x2, iv x1, rf 252]) (Ls := [(0, rf 252), (1, iv x1), (2, iv 1)]) r_259_136 (n_259_136 _) rfl ⟨rfl, rfl, by decide, by decide⟩ rfl rfl lf_252 ⟨rfl, Nat.le_of_ble_eq_true rfl, Nat.le_of_ble_eq_true rfl⟩ rfl h ?_
                  intro o16 s16 h
                  rcases h with ⟨y16, q17, rfl, h⟩ | ⟨e16, rfl, h⟩
                  · refine .inl ⟨some (iv y16), rfl, ?_⟩
                    show wp S 259 139 [(0, rf 252), (1, iv x1), (2, iv x2), (3, iv x3), (4, iv x4), (5, iv x5), (6, iv x6), (7, iv y14)] [iv y16, iv x2, iv x1, rf 252] s16 Q
                    refine i_iload_n (x := x3) r_259_139 (n_259_139 _) rfl ?_
                    refine i_aload_n (a := 252) r_259_140 (n_259_140 _) rfl ?_
                    refine i_iload_n (x := x1) r_259_141 (n_259_141 _) rfl ?_
                    refine i_iconst r_259_142 (n_259_142 _) ?_
                    refine wp_virt (b := 252) (rest := [iv x3, iv y16, iv x2, iv x1, rf 252]) (Ls := [(0, rf 252), (1, iv x1), (2, iv 3)]) r_259_143 (n_259_143 _) rfl ⟨rfl, rfl, by decide, by decide⟩ rfl rfl lf_252 ⟨rfl, Nat.le_of_ble_eq_true rfl, Nat.le_of_ble_eq_true rfl⟩ rfl h ?_
                    intro o18 s18 h
                    rcases h with ⟨y18, q19, rfl, h⟩ | ⟨e18, rfl, h⟩
                    · refine .inl ⟨some (iv y18), rfl, ?_⟩
                      show wp S 259 146 [(0, rf 252), (1, iv x1), (2, iv x2), (3, iv x3), (4, iv x4), (5, iv x5), (6, iv x6), (7, iv y14)] [iv y18, iv x3, iv y16, iv x2, iv x1, rf 252] s18 Q
                      refine i_iload (x := x6) r_259_146 (n_259_146 _) rfl ?_
                      refine wp_virt (b := 252) (rest := []) (Ls := [(0, rf 252), (1, iv x1), (2, iv x2), (3, iv y16), (4, iv x3), (5, iv y18), (6, iv x6)]) r_259_148 (n_259_148 _) rfl ⟨rfl, rfl, by decide, by decide⟩ rfl rfl lf_252 ⟨rfl, Nat.le_of_ble_eq_true rfl, Nat.le_of_ble_eq_true rfl⟩ rfl h ?_
                      intro o20 s20 h
                      rcases h with ⟨rfl, h⟩ | ⟨e20, rfl, h⟩
                      · refine .inl ⟨none, rfl, ?_⟩
                        refine i_iconst r_259_151 (n_259_151 _) ?_
                        refine i_istore (l' := [(0, rf 252), (1, iv x1), (2, iv x2), (3, iv x3), (4, iv x4), (5, iv x5), (6, iv x6), (7, iv y14), (8, iv 0)]) r_259_152 (n_259_152 _) (by decide) rfl ?_
                        refine i_iconst r_259_154 (n_259_154 _) ?_
                        refine i_istore (l' := [(0, rf 252), (1, iv x1), (2, iv x2), (3, iv x3), (4, iv x4), (5, iv x5), (6, iv x6), (7, iv y14), (8, iv 0), (9, iv 0)]) r_259_155 (n_259_155 _) (by decide) rfl ?_
                        exact wp_pr (l' := [(0, rf 252), (1, iv x1), (2, iv x2), (7, iv y14), (8, iv 0), (9, iv 0)]) rfl h
                      · skip
                        exact h.elim
                    · skip
                      exact h.elim
                  · skip
                    exact h.elim
                · skip
                  exact h.elim
              · skip
                exact h.elim
            · skip
              exact h.elim
          · replace h := h.2 c9
            refine i_iconst r_259_111 (n_259_111 _) ?_
            exact i_ireturn r_259_112 (n_259_112 _) rfl h
        · skip
          exact h.elim
      · replace h := h.2 c6
        refine i_iconst r_259_100 (n_259_100 _) ?_
        refine i_goto (t := 105) r_259_101 (n_259_101 _) rfl ?_
        refine wp_virt (b := 252) (rest := []) (Ls := [(0, rf 252), (1, iv 3)]) r_259_105 (n_259_105 _) rfl ⟨rfl, rfl, by decide, by decide⟩ rfl rfl lf_252 ⟨rfl, Nat.le_of_ble_eq_true rfl, Nat.le_of_ble_eq_true rfl⟩ rfl h ?_
        intro o22 s22 h
        rcases h with ⟨y22, q23, rfl, h⟩ | ⟨e22, rfl, h⟩
        · refine .inl ⟨some (iv y22), rfl, ?_⟩
          show wp S 259 108 [(0, rf 252), (1, iv x1), (2, iv x2), (3, iv x3), (4, iv x4), (5, iv x5), (6, iv x6)] [iv y22] s22 Q
          refine i_if (t := 113) r_259_108 (n_259_108 _) rfl (T_eq q23 ⟨by omega, by omega⟩) (fun c24 => ?_) (fun c24 => ?_)
          · replace h := h.1 c24
            refine i_aload_n (a := 252) r_259_113 (n_259_113 _) rfl ?_
            refine wp_virt (b := 252) (rest := []) (Ls := [(0, rf 252)]) r_259_114 (n_259_114 _) rfl ⟨rfl, rfl, by decide, by decide⟩ rfl rfl lf_252 ⟨rfl, Nat.le_of_ble_eq_true rfl, Nat.le_of_ble_eq_true rfl⟩ rfl h ?_
            intro o25 s25 h
            rcases h with ⟨rfl, h⟩ | ⟨e25, rfl, h⟩
            · refine .inl ⟨none, rfl, ?_⟩
              refine i_aload_n (a := 252) r_259_117 (n_259_117 _) rfl ?_
              refine i_iload_n (x := x1) r_259_118 (n_259_118 _) rfl ?_
              refine wp_virt (b := 252) (rest := []) (Ls := [(0, rf 252), (1, iv x1)]) r_259_119 (n_259_119 _) rfl ⟨rfl, rfl, by decide, by decide⟩ rfl rfl lf_252 ⟨rfl, Nat.le_of_ble_eq_true rfl, Nat.le_of_ble_eq_true rfl⟩ rfl h ?_
              intro o27 s27 h
              rcases h with ⟨rfl, h⟩ | ⟨e27, rfl, h⟩
              · refine .inl ⟨none, rfl, ?_⟩
                refine i_aload_n (a := 252) r_259_122 (n_259_122 _) rfl ?_
                refine i_iload_n (x := x1) r_259_123 (n_259_123 _) rfl ?_
                refine i_iconst r_259_124 (n_259_124 _) ?_
                refine wp_virt (b := 252) (rest := []) (Ls := [(0, rf 252), (1, iv x1), (2, iv 0)]) r_259_125 (n_259_125 _) rfl ⟨rfl, rfl, by decide, by decide⟩ rfl rfl lf_252 ⟨rfl, Nat.le_of_ble_eq_true rfl, Nat.le_of_ble_eq_true rfl⟩ rfl h ?_
                intro o29 s29 h
                rcases h with ⟨y29, q30, rfl, h⟩ | ⟨e29, rfl, h⟩
                · refine .inl ⟨some (iv y29), rfl, ?_⟩
                  show wp S 259 128 [(0, rf 252), (1, iv x1), (2, iv x2), (3, iv x3), (4, iv x4), (5, iv x5), (6, iv x6)] [iv y29] s29 Q
                  refine i_istore (l' := [(0, rf 252), (1, iv x1), (2, iv x2), (3, iv x3), (4, iv x4), (5, iv x5), (6, iv x6), (7, iv y29)]) r_259_128 (n_259_128 _) (by decide) rfl ?_
                  refine i_aload_n (a := 252) r_259_130 (n_259_130 _) rfl ?_
                  refine i_iload_n (x := x1) r_259_131 (n_259_131 _) rfl ?_
                  refine i_iload_n (x := x2) r_259_132 (n_259_132 _) rfl ?_
                  refine i_aload_n (a := 252) r_259_133 (n_259_133 _) rfl ?_
                  refine i_iload_n (x := x1) r_259_134 (n_259_134 _) rfl ?_
                  refine i_iconst r_259_135 (n_259_135 _) ?_
                  refine wp_virt (b := 252) (rest := [iv x2, iv x1, rf 252]) (Ls := [(0, rf 252), (1, iv x1), (2, iv 1)]) r_259_136 (n_259_136 _) rfl ⟨rfl, rfl, by decide, by decide⟩ rfl rfl lf_252 ⟨rfl, Nat.le_of_ble_eq_true rfl, Nat.le_of_ble_eq_true rfl⟩ rfl h ?_
                  intro o31 s31 h
                  rcases h with ⟨y31, q32, rfl, h⟩ | ⟨e31, rfl, h⟩
                  · refine .inl ⟨some (iv y31), rfl, ?_⟩
                    show wp S 259 139 [(0, rf 252), (1, iv x1), (2, iv x2), (3, iv x3), (4, iv x4), (5, iv x5), (6, iv x6), (7, iv y29)] [iv y31, iv x2, iv x1, rf 252] s31 Q
                    refine i_iload_n (x := x3) r_259_139 (n_259_139 _) rfl ?_
                    refine i_aload_n (a := 252) r_259_140 (n_259_140 _) rfl ?_
                    refine i_iload_n (x := x1) r_259_141 (n_259_141 _) rfl ?_
                    refine i_iconst r_259_142 (n_259_142 _) ?_
                    refine wp_virt (b := 252) (rest := [iv x3, iv y31, iv x2, iv x1, rf 252]) (Ls := [(0, rf 252), (1, iv x1), (2, iv 3)]) r_259_143 (n_259_143 _) rfl ⟨rfl, rfl, by decide, by decide⟩ rfl rfl lf_252 ⟨rfl, Nat.le_of_ble_eq_true rfl, Nat.le_of_ble_eq_true rfl⟩ rfl h ?_
                    intro o33 s33 h
                    rcases h with ⟨y33, q34, rfl, h⟩ | ⟨e33, rfl, h⟩
                    · refine .inl ⟨some (iv y33), rfl, ?_⟩
                      show wp S 259 146 [(0, rf 252), (1, iv x1), (2, iv x2), (3, iv x3), (4, iv x4), (5, iv x5), (6, iv x6), (7, iv y29)] [iv y33, iv x3, iv y31, iv x2, iv x1, rf 252] s33 Q
                      refine i_iload (x := x6) r_259_146 (n_259_146 _) rfl ?_
                      refine wp_virt (b := 252) (rest := []) (Ls := [(0, rf 252), (1, iv x1), (2, iv x2), (3, iv y31), (4, iv x3), (5, iv y33), (6, iv x6)]) r_259_148 (n_259_148 _) rfl ⟨rfl, rfl, by decide, by decide⟩ rfl rfl lf_252 ⟨rfl, Nat.le_of_ble_eq_true rfl, Nat.le_of_ble_eq_true rfl⟩ rfl h ?_
                      intro o35 s35 h
                      rcases h with ⟨rfl, h⟩ | ⟨e35, rfl, h⟩
                      · refine .inl ⟨none, rfl, ?_⟩
                        refine i_iconst r_259_151 (n_259_151 _) ?_
                        refine i_istore (l' := [(0, rf 252), (1, iv x1), (2, iv x2), (3, iv x3), (4, iv x4), (5, iv x5), (6, iv x6), (7, iv y29), (8, iv 0)]) r_259_152 (n_259_152 _) (by decide) rfl ?_
                        refine i_iconst r_259_154 (n_259_154 _) ?_
                        refine i_istore (l' := [(0, rf 252), (1, iv x1), (2, iv x2), (3, iv x3), (4, iv x4), (5, iv x5), (6, iv x6), (7, iv y29), (8, iv 0), (9, iv 0)]) r_259_155 (n_259_155 _) (by decide) rfl ?_
                        exact wp_pr (l' := [(0, rf 252), (1, iv x1), (2, iv x2), (7, iv y29), (8, iv 0), (9, iv 0)]) rfl h
                      · skip
                        exact h.elim
                    · skip
                      exact h.elim
                  · skip
                    exact h.elim
                · skip
                  exact h.elim
              · skip
                exact h.elim
            · skip
              exact h.elim
          · replace h := h.2 c24
            refine i_iconst r_259_111 (n_259_111 _) ?_
            exact i_ireturn r_259_112 (n_259_112 _) rfl h
        · skip
          exact h.elim
    · replace h := h.2 c4
      refine i_iconst r_259_90 (n_259_90 _) ?_
      refine i_goto (t := 105) r_259_91 (n_259_91 _) rfl ?_
      refine wp_virt (b := 252) (rest := []) (Ls := [(0, rf 252), (1, iv 2)]) r_259_105 (n_259_105 _) rfl ⟨rfl, rfl, by decide, by decide⟩ rfl rfl lf_252 ⟨rfl, Nat.le_of_ble_eq_true rfl, Nat.le_of_ble_eq_true rfl⟩ rfl h ?_
      intro o37 s37 h
      rcases h with ⟨y37, q38, rfl, h⟩ | ⟨e37, rfl, h⟩
      · refine .inl ⟨some (iv y37), rfl, ?_⟩
        show wp S 259 108 [(0, rf 252), (1, iv x1), (2, iv x2), (3, iv x3), (4, iv x4), (5, iv x5), (6, iv x6)] [iv y37] s37 Q
        refine i_if (t := 113) r_259_108 (n_259_108 _) rfl (T_eq q38 ⟨by omega, by omega⟩) (fun c39 => ?_) (fun c39 => ?_)
        · replace h := h.1 c39
          refine i_aload_n (a := 252) r_259_113 (n_259_113 _) rfl ?_
          refine wp_virt (b := 252) (rest := []) (Ls := [(0, rf 252)]) r_259_114 (n_259_114 _) rfl ⟨rfl, rfl, by decide, by decide⟩ rfl rfl lf_252 ⟨rfl, Nat.le_of_ble_eq_true rfl, Nat.le_of_ble_eq_true rfl⟩ rfl h ?_
          intro o40 s40 h
          rcases h with ⟨rfl, h⟩ | ⟨e40, rfl, h⟩
          · refine .inl ⟨none, rfl, ?_⟩
            refine i_aload_n (a := 252) r_259_117 (n_259_117 _) rfl ?_
            refine i_iload_n (x := x1) r_259_118 (n_259_118 _) rfl ?_
            refine wp_virt (b := 252) (rest := []) (Ls := [(0, rf 252), (1, iv x1)]) r_259_119 (n_259_119 _) rfl ⟨rfl, rfl, by decide, by decide⟩ rfl rfl lf_252 ⟨rfl, Nat.le_of_ble_eq_true rfl, Nat.le_of_ble_eq_true rfl⟩ rfl h ?_
            intro o42 s42 h
            rcases h with ⟨rfl, h⟩ | ⟨e42, rfl, h⟩
            · refine .inl ⟨none, rfl, ?_⟩
              refine i_aload_n (a := 252) r_259_122 (n_259_122 _) rfl ?_
              refine i_iload_n (x := x1) r_259_123 (n_259_123 _) rfl ?_
              refine i_iconst r_259_124 (n_259_124 _) ?_
              refine wp_virt (b := 252) (rest := []) (Ls := [(0, rf 252), (1, iv x1), (2, iv 0)]) r_259_125 (n_259_125 _) rfl ⟨rfl, rfl, by decide, by decide⟩ rfl rfl lf_252 ⟨rfl, Nat.le_of_ble_eq_true rfl, Nat.le_of_ble_eq_true rfl⟩ rfl h ?_
              intro o44 s44 h
              rcases h with ⟨y44, q45, rfl, h⟩ | ⟨e44, rfl, h⟩
              · refine .inl ⟨some (iv y44), rfl, ?_⟩
                show wp S 259 128 [(0, rf 252), (1, iv x1), (2, iv x2), (3, iv x3), (4, iv x4), (5, iv x5), (6, iv x6)] [iv y44] s44 Q
                refine i_istore (l' := [(0, rf 252), (1, iv x1), (2, iv x2), (3, iv x3), (4, iv x4), (5, iv x5), (6, iv x6), (7, iv y44)]) r_259_128 (n_259_128 _) (by decide) rfl ?_
                refine i_aload_n (a := 252) r_259_130 (n_259_130 _) rfl ?_
                refine i_iload_n (x := x1) r_259_131 (n_259_131 _) rfl ?_
                refine i_iload_n (x := x2) r_259_132 (n_259_132 _) rfl ?_
                refine i_aload_n (a := 252) r_259_133 (n_259_133 _) rfl ?_
                refine i_iload_n (x := x1) r_259_134 (n_259_134 _) rfl ?_
                refine i_iconst r_259_135 (n_259_135 _) ?_
                refine wp_virt (b := 252) (rest := [iv x2, iv x1, rf 252]) (Ls := [(0, rf 252), (1, iv x1), (2, iv 1)]) r_259_136 (n_259_136 _) rfl ⟨rfl, rfl, by decide, by decide⟩ rfl rfl lf_252 ⟨rfl, Nat.le_of_ble_eq_true rfl, Nat.le_of_ble_eq_true rfl⟩ rfl h ?_
                intro o46 s46 h
                rcases h with ⟨y46, q47, rfl, h⟩ | ⟨e46, rfl, h⟩
                · refine .inl ⟨some (iv y46), rfl, ?_⟩
                  show wp S 259 139 [(0, rf 252), (1, iv x1), (2, iv x2), (3, iv x3), (4, iv x4), (5, iv x5), (6, iv x6), (7, iv y44)] [iv y46, iv x2, iv x1, rf 252] s46 Q
                  refine i_iload_n (x := x3) r_259_139 (n_259_139 _) rfl ?_
                  refine i_aload_n (a := 252) r_259_140 (n_259_140 _) rfl ?_
                  refine i_iload_n (x := x1) r_259_141 (n_259_141 _) rfl ?_
                  refine i_iconst r_259_142 (n_259_142 _) ?_
                  refine wp_virt (b := 252) (rest := [iv x3, iv y46, iv x2, iv x1, rf 252]) (Ls := [(0, rf 252), (1, iv x1), (2, iv 3)]) r_259_143 (n_259_143 _) rfl ⟨rfl, rfl, by decide, by decide⟩ rfl rfl lf_252 ⟨rfl, Nat.le_of_ble_eq_true rfl, Nat.le_of_ble_eq_true rfl⟩ rfl h ?_
                  intro o48 s48 h
                  rcases h with ⟨y48, q49, rfl, h⟩ | ⟨e48, rfl, h⟩
                  · refine .inl ⟨some (iv y48), rfl, ?_⟩
                    show wp S 259 146 [(0, rf 252), (1, iv x1), (2, iv x2), (3, iv x3), (4, iv x4), (5, iv x5), (6, iv x6), (7, iv y44)] [iv y48, iv x3, iv y46, iv x2, iv x1, rf 252] s48 Q
                    refine i_iload (x := x6) r_259_146 (n_259_146 _) rfl ?_
                    refine wp_virt (b := 252) (rest := []) (Ls := [(0, rf 252), (1, iv x1), (2, iv x2), (3, iv y46), (4, iv x3), (5, iv y48), (6, iv x6)]) r_259_148 (n_259_148 _) rfl ⟨rfl, rfl, by decide, by decide⟩ rfl rfl lf_252 ⟨rfl, Nat.le_of_ble_eq_true rfl, Nat.le_of_ble_eq_true rfl⟩ rfl h ?_
                    intro o50 s50 h
                    rcases h with ⟨rfl, h⟩ | ⟨e50, rfl, h⟩
                    · refine .inl ⟨none, rfl, ?_⟩
                      refine i_iconst r_259_151 (n_259_151 _) ?_
                      refine i_istore (l' := [(0, rf 252), (1, iv x1), (2, iv x2), (3, iv x3), (4, iv x4), (5, iv x5), (6, iv x6), (7, iv y44), (8, iv 0)]) r_259_152 (n_259_152 _) (by decide) rfl ?_
                      refine i_iconst r_259_154 (n_259_154 _) ?_
                      refine i_istore (l' := [(0, rf 252), (1, iv x1), (2, iv x2), (3, iv x3), (4, iv x4), (5, iv x5), (6, iv x6), (7, iv y44), (8, iv 0), (9, iv 0)]) r_259_155 (n_259_155 _) (by decide) rfl ?_
                      exact wp_pr (l' := [(0, rf 252), (1, iv x1), (2, iv x2), (7, iv y44), (8, iv 0), (9, iv 0)]) rfl h
                    · skip
                      exact h.elim
                  · skip
                    exact h.elim
                · skip
                  exact h.elim
              · skip
                exact h.elim
            · skip
              exact h.elim
          · skip
            exact h.elim
        · replace h := h.2 c39
          refine i_iconst r_259_111 (n_259_111 _) ?_
          exact i_ireturn r_259_112 (n_259_112 _) rfl h
      · skip
        exact h.elim
  · replace h := h.2 c2
    refine i_iconst r_259_81 (n_259_81 _) ?_
    refine i_goto (t := 105) r_259_82 (n_259_82 _) rfl ?_
    refine wp_virt (b := 252) (rest := []) (Ls := [(0, rf 252), (1, iv 1)]) r_259_105 (n_259_105 _) rfl ⟨rfl, rfl, by decide, by decide⟩ rfl rfl lf_252 ⟨rfl, Nat.le_of_ble_eq_true rfl, Nat.le_of_ble_eq_true rfl⟩ rfl h ?_
    intro o52 s52 h
    rcases h with ⟨y52, q53, rfl, h⟩ | ⟨e52, rfl, h⟩
    · refine .inl ⟨some (iv y52), rfl, ?_⟩
      show wp S 259 108 [(0, rf 252), (1, iv x1), (2, iv x2), (3, iv x3), (4, iv x4), (5, iv x5), (6, iv x6)] [iv y52] s52 Q
      refine i_if (t := 113) r_259_108 (n_259_108 _) rfl (T_eq q53 ⟨by omega, by omega⟩) (fun c54 => ?_) (fun c54 => ?_)
      · replace h := h.1 c54
        refine i_aload_n (a := 252) r_259_113 (n_259_113 _) rfl ?_
        refine wp_virt (b := 252) (rest := []) (Ls := [(0, rf 252)]) r_259_114 (n_259_114 _) rfl ⟨rfl, rfl, by decide, by decide⟩ rfl rfl lf_252 ⟨rfl, Nat.le_of_ble_eq_true rfl, Nat.le_of_ble_eq_true rfl⟩ rfl h ?_
        intro o55 s55 h
        rcases h with ⟨rfl, h⟩ | ⟨e55, rfl, h⟩
        · refine .inl ⟨none, rfl, ?_⟩
          refine i_aload_n (a := 252) r_259_117 (n_259_117 _) rfl ?_
          refine i_iload_n (x := x1) r_259_118 (n_259_118 _) rfl ?_
          refine wp_virt (b := 252) (rest := []) (Ls := [(0, rf 252), (1, iv x1)]) r_259_119 (n_259_119 _) rfl ⟨rfl, rfl, by decide, by decide⟩ rfl rfl lf_252 ⟨rfl, Nat.le_of_ble_eq_true rfl, Nat.le_of_ble_eq_true rfl⟩ rfl h ?_
          intro o57 s57 h
          rcases h with ⟨rfl, h⟩ | ⟨e57, rfl, h⟩
          · refine .inl ⟨none, rfl, ?_⟩
            refine i_aload_n (a := 252) r_259_122 (n_259_122 _) rfl ?_
            refine i_iload_n (x := x1) r_259_123 (n_259_123 _) rfl ?_
            refine i_iconst r_259_124 (n_259_124 _) ?_
            refine wp_virt (b := 252) (rest := []) (Ls := [(0, rf 252), (1, iv x1), (2, iv 0)]) r_259_125 (n_259_125 _) rfl ⟨rfl, rfl, by decide, by decide⟩ rfl rfl lf_252 ⟨rfl, Nat.le_of_ble_eq_true rfl, Nat.le_of_ble_eq_true rfl⟩ rfl h ?_
            intro o59 s59 h
            rcases h with ⟨y59, q60, rfl, h⟩ | ⟨e59, rfl, h⟩
            · refine .inl ⟨some (iv y59), rfl, ?_⟩
              show wp S 259 128 [(0, rf 252), (1, iv x1), (2, iv x2), (3, iv x3), (4, iv x4), (5, iv x5), (6, iv x6)] [iv y59] s59 Q
              refine i_istore (l' := [(0, rf 252), (1, iv x1), (2, iv x2), (3, iv x3), (4, iv x4), (5, iv x5), (6, iv x6), (7, iv y59)]) r_259_128 (n_259_128 _) (by decide) rfl ?_
              refine i_aload_n (a := 252) r_259_130 (n_259_130 _) rfl ?_
              refine i_iload_n (x := x1) r_259_131 (n_259_131 _) rfl ?_
              refine i_iload_n (x := x2) r_259_132 (n_259_132 _) rfl ?_
              refine i_aload_n (a := 252) r_259_133 (n_259_133 _) rfl ?_
              refine i_iload_n (x := x1) r_259_134 (n_259_134 _) rfl ?_
              refine i_iconst r_259_135 (n_259_135 _) ?_
              refine wp_virt (b := 252) (rest := [iv x2, iv x1, rf 252]) (Ls := [(0, rf 252), (1, iv x1), (2, iv 1)]) r_259_136 (n_259_136 _) rfl ⟨rfl, rfl, by decide, by decide⟩ rfl rfl lf_252 ⟨rfl, Nat.le_of_ble_eq_true rfl, Nat.le_of_ble_eq_true rfl⟩ rfl h ?_
              intro o61 s61 h
              rcases h with ⟨y61, q62, rfl, h⟩ | ⟨e61, rfl, h⟩
              · refine .inl ⟨some (iv y61), rfl, ?_⟩
                show wp S 259 139 [(0, rf 252), (1, iv x1), (2, iv x2), (3, iv x3), (4, iv x4), (5, iv x5), (6, iv x6), (7, iv y59)] [iv y61, iv x2, iv x1, rf 252] s61 Q
                refine i_iload_n (x := x3) r_259_139 (n_259_139 _) rfl ?_
                refine i_aload_n (a := 252) r_259_140 (n_259_140 _) rfl ?_
                refine i_iload_n (x := x1) r_259_141 (n_259_141 _) rfl ?_
                refine i_iconst r_259_142 (n_259_142 _) ?_
                refine wp_virt (b := 252) (rest := [iv x3, iv y61, iv x2, iv x1, rf 252]) (Ls := [(0, rf 252), (1, iv x1), (2, iv 3)]) r_259_143 (n_259_143 _) rfl ⟨rfl, rfl, by decide, by decide⟩ rfl rfl lf_252 ⟨rfl, Nat.le_of_ble_eq_true rfl, Nat.le_of_ble_eq_true rfl⟩ rfl h ?_
                intro o63 s63 h
                rcases h with ⟨y63, q64, rfl, h⟩ | ⟨e63, rfl, h⟩
                · refine .inl ⟨some (iv y63), rfl, ?_⟩
                  show wp S 259 146 [(0, rf 252), (1, iv x1), (2, iv x2), (3, iv x3), (4, iv x4), (5, iv x5), (6, iv x6), (7, iv y59)] [iv y63, iv x3, iv y61, iv x2, iv x1, rf 252] s63 Q
                  refine i_iload (x := x6) r_259_146 (n_259_146 _) rfl ?_
                  refine wp_virt (b := 252) (rest := []) (Ls := [(0, rf 252), (1, iv x1), (2, iv x2), (3, iv y61), (4, iv x3), (5, iv y63), (6, iv x6)]) r_259_148 (n_259_148 _) rfl ⟨rfl, rfl, by decide, by decide⟩ rfl rfl lf_252 ⟨rfl, Nat.le_of_ble_eq_true rfl, Nat.le_of_ble_eq_true rfl⟩ rfl h ?_
                  intro o65 s65 h
                  rcases h with ⟨rfl, h⟩ | ⟨e65, rfl, h⟩
                  · refine .inl ⟨none, rfl, ?_⟩
                    refine i_iconst r_259_151 (n_259_151 _) ?_
                    refine i_istore (l' := [(0, rf 252), (1, iv x1), (2, iv x2), (3, iv x3), (4, iv x4), (5, iv x5), (6, iv x6), (7, iv y59), (8, iv 0)]) r_259_152 (n_259_152 _) (by decide) rfl ?_
                    refine i_iconst r_259_154 (n_259_154 _) ?_
                    refine i_istore (l' := [(0, rf 252), (1, iv x1), (2, iv x2), (3, iv x3), (4, iv x4), (5, iv x5), (6, iv x6), (7, iv y59), (8, iv 0), (9, iv 0)]) r_259_155 (n_259_155 _) (by decide) rfl ?_
                    exact wp_pr (l' := [(0, rf 252), (1, iv x1), (2, iv x2), (7, iv y59), (8, iv 0), (9, iv 0)]) rfl h
                  · skip
                    exact h.elim
                · skip
                  exact h.elim
              · skip
                exact h.elim
            · skip
              exact h.elim
          · skip
            exact h.elim
        · skip
          exact h.elim
      · replace h := h.2 c54
        refine i_iconst r_259_111 (n_259_111 _) ?_
        exact i_ireturn r_259_112 (n_259_112 _) rfl h
    · skip
      exact h.elim
theorem v_Model_migrate_157 {S : Option (Nat × (Nat → Int32))} {s : zSt} {Q : Option Value ⊕ Nat → zSt → Prop} {x1 : Int} {x2 : Int} {x7 : Int} {x8 : Int} {x9 : Int} 
    (h : (0 ≤ x2 ∧ x2 < 6) ∧ (rng x9 ∧ (((zI s 256 x2) ≤ x9 → Q (rI x8) s) ∧ (x9 < (zI s 256 x2) → wp S 260 0 [(0, rf 252), (1, iv x7), (2, iv x2), (3, iv x9)] [] s (fun o5 s5 => zkI (fun y5 => (y5 ≠ (-1) → wp S 259 198 [(0, rf 252), (1, iv x1), (2, iv x2), (7, iv x7), (8, iv (x8 + 1)), (9, iv x9), (10, iv y5), (11, iv 0)] [] s5 Q) ∧ (y5 = (-1) → wp S 259 198 [(0, rf 252), (1, iv x1), (2, iv x2), (7, iv x7), (8, iv (x8 + 0)), (9, iv x9), (10, iv y5), (11, iv 0)] [] s5 Q)) (fun e5 => False) o5))))) :
    wp S 259 157 [(0, rf 252), (1, iv x1), (2, iv x2), (7, iv x7), (8, iv x8), (9, iv x9)] [] s Q := by
  refine i_iload (x := x9) r_259_157 rfl rfl ?_
  refine i_aload_n (a := 252) r_259_159 (n_259_159 _) rfl ?_
  refine i_getR (a := 252) (b := 256) r_259_160 (n_259_160 _) rfl rfl rfl (by omega) lf_252 (by omega) ?_
  refine i_iload_n (x := x2) r_259_163 (n_259_163 _) rfl ?_
  obtain ⟨g1, h⟩ := h
  refine i_iaload (a := 256) (j := x2) r_259_164 (n_259_164 _) lf_256 ⟨by omega, by omega⟩ (by omega) (by omega) (fun q2 => ?_)
  obtain ⟨g3, h⟩ := h
  refine i_icmp (t := 249) r_259_165 (n_259_165 _) rfl (T_ge g3 q2) (fun c4 => ?_) (fun c4 => ?_)
  · replace h := h.1 c4
    refine i_iload (x := x8) r_259_249 (n_259_249 _) rfl ?_
    exact i_ireturn r_259_251 (n_259_251 _) rfl h
  · replace h := h.2 c4
    refine i_aload_n (a := 252) r_259_168 (n_259_168 _) rfl ?_
    refine i_iload (x := x7) r_259_169 (n_259_169 _) rfl ?_
    refine i_iload_n (x := x2) r_259_171 (n_259_171 _) rfl ?_
    refine i_iload (x := x9) r_259_172 (n_259_172 _) rfl ?_
    refine wp_virt (b := 252) (rest := []) (Ls := [(0, rf 252), (1, iv x7), (2, iv x2), (3, iv x9)]) r_259_174 (n_259_174 _) rfl ⟨rfl, rfl, by decide, by decide⟩ rfl rfl lf_252 ⟨rfl, Nat.le_of_ble_eq_true rfl, Nat.le_of_ble_eq_true rfl⟩ rfl h ?_
    intro o5 s5 h
    rcases h with ⟨y5, q6, rfl, h⟩ | ⟨e5, rfl, h⟩
    · refine .inl ⟨some (iv y5), rfl, ?_⟩
      show wp S 259 177 [(0, rf 252), (1, iv x1), (2, iv x2), (7, iv x7), (8, iv x8), (9, iv x9)] [iv y5] s5 Q
      refine i_istore (l' := [(0, rf 252), (1, iv x1), (2, iv x2), (7, iv x7), (8, iv x8), (9, iv x9), (10, iv y5)]) r_259_177 (n_259_177 _) (by decide) rfl ?_
      refine i_iload (x := x8) r_259_179 (n_259_179 _) rfl ?_
      refine i_iload (x := y5) r_259_181 (n_259_181 _) rfl ?_
      refine i_iconst r_259_183 (n_259_183 _) ?_
      refine i_icmp (t := 191) r_259_184 (n_259_184 _) rfl (T_ne q6 ⟨by omega, by omega⟩) (fun c7 => ?_) (fun c7 => ?_)
      · replace h := h.1 c7
        refine i_iconst r_259_191 (n_259_191 _) ?_
        refine i_iadd r_259_192 (n_259_192 _) ?_
        refine i_istore (l' := [(0, rf 252), (1, iv x1), (2, iv x2), (7, iv x7), (8, iv (x8 + 1)), (9, iv x9), (10, iv y5)]) r_259_193 (n_259_193 _) (by decide) rfl ?_
        refine i_iconst r_259_195 (n_259_195 _) ?_
        refine i_istore (l' := [(0, rf 252), (1, iv x1), (2, iv x2), (7, iv x7), (8, iv (x8 + 1)), (9, iv x9), (10, iv y5), (11, iv 0)]) r_259_196 (n_259_196 _) (by decide) rfl ?_
        exact wp_pr (l' := [(0, rf 252), (1, iv x1), (2, iv x2), (7, iv x7), (8, iv (x8 + 1)), (9, iv x9), (10, iv y5), (11, iv 0)]) rfl h
      · replace h := h.2 c7
        refine i_iconst r_259_187 (n_259_187 _) ?_
        refine i_goto (t := 192) r_259_188 (n_259_188 _) rfl ?_
        refine i_iadd r_259_192 (n_259_192 _) ?_
        refine i_istore (l' := [(0, rf 252), (1, iv x1), (2, iv x2), (7, iv x7), (8, iv (x8 + 0)), (9, iv x9), (10, iv y5)]) r_259_193 (n_259_193 _) (by decide) rfl ?_
        refine i_iconst r_259_195 (n_259_195 _) ?_
        refine i_istore (l' := [(0, rf 252), (1, iv x1), (2, iv x2), (7, iv x7), (8, iv (x8 + 0)), (9, iv x9), (10, iv y5), (11, iv 0)]) r_259_196 (n_259_196 _) (by decide) rfl ?_
        exact wp_pr (l' := [(0, rf 252), (1, iv x1), (2, iv x2), (7, iv x7), (8, iv (x8 + 0)), (9, iv x9), (10, iv y5), (11, iv 0)]) rfl h
    · skip
      exact h.elim
theorem v_Model_migrate_198 {S : Option (Nat × (Nat → Int32))} {s : zSt} {Q : Option Value ⊕ Nat → zSt → Prop} {x1 : Int} {x2 : Int} {x7 : Int} {x8 : Int} {x9 : Int} {x10 : Int} {x11 : Int} 
    (h : wp S 236 0 [(0, rf 252), (1, iv x1), (2, iv 1)] [] s (fun o1 s1 => zkI (fun y1 => rng x11 ∧ ((y1 ≤ x11 → wp S 259 157 [(0, rf 252), (1, iv x1), (2, iv x2), (7, iv x7), (8, iv x8), (9, iv (x9 + 1))] [] s1 Q) ∧ (x11 < y1 → rng x10 ∧ ((x10 = (-1) → wp S 259 157 [(0, rf 252), (1, iv x1), (2, iv x2), (7, iv x7), (8, iv x8), (9, iv (x9 + 1))] [] s1 Q) ∧ (x10 ≠ (-1) → (0 ≤ ((40 * x11) + x10) ∧ ((40 * x11) + x10) < 480) ∧ (wp S 252 0 [(0, rf 252), (1, iv x1), (2, iv x11), (3, iv x9), (4, .long (zL s1 272 ((40 * x11) + x10)))] [] s1 (fun o8 s8 => zkU (wp S 259 198 [(0, rf 252), (1, iv x1), (2, iv x2), (7, iv x7), (8, iv x8), (9, iv x9), (10, iv x10), (11, iv (x11 + 1))] [] s8 Q) (fun e8 => False) o8))))))) (fun e1 => False) o1)) :
    wp S 259 198 [(0, rf 252), (1, iv x1), (2, iv x2), (7, iv x7), (8, iv x8), (9, iv x9), (10, iv x10), (11, iv x11)] [] s Q := by
  refine i_iload (x := x11) r_259_198 rfl rfl ?_
  refine i_aload_n (a := 252) r_259_200 (n_259_200 _) rfl ?_
  refine i_iload_n (x := x1) r_259_201 (n_259_201 _) rfl ?_
  refine i_iconst r_259_202 (n_259_202 _) ?_
  refine wp_virt (b := 252) (rest := [iv x11]) (Ls := [(0, rf 252), (1, iv x1), (2, iv 1)]) r_259_203 (n_259_203 _) rfl ⟨rfl, rfl, by decide, by decide⟩ rfl rfl lf_252 ⟨rfl, Nat.le_of_ble_eq_true rfl, Nat.le_of_ble_eq_true rfl⟩ rfl h ?_
  intro o1 s1 h
  rcases h with ⟨y1, q2, rfl, h⟩ | ⟨e1, rfl, h⟩
  · refine .inl ⟨some (iv y1), rfl, ?_⟩
    show wp S 259 206 [(0, rf 252), (1, iv x1), (2, iv x2), (7, iv x7), (8, iv x8), (9, iv x9), (10, iv x10), (11, iv x11)] [iv y1, iv x11] s1 Q
    obtain ⟨g3, h⟩ := h
    refine i_icmp (t := 243) r_259_206 (n_259_206 _) rfl (T_ge g3 q2) (fun c4 => ?_) (fun c4 => ?_)
    · replace h := h.1 c4
      refine i_iinc (x := x9) (l' := [(0, rf 252), (1, iv x1), (2, iv x2), (7, iv x7), (8, iv x8), (9, iv (x9 + 1)), (10, iv x10), (11, iv x11)]) r_259_243 (n_259_243 _) (by decide) rfl rfl ?_
      refine i_goto (t := 157) r_259_246 (n_259_246 _) rfl ?_
      exact wp_pr (l' := [(0, rf 252), (1, iv x1), (2, iv x2), (7, iv x7), (8, iv x8), (9, iv (x9 + 1))]) rfl h
    · replace h := h.2 c4
      refine i_iload (x := x10) r_259_209 (n_259_209 _) rfl ?_
      refine i_iconst r_259_211 (n_259_211 _) ?_
      obtain ⟨g5, h⟩ := h
      refine i_icmp (t := 243) r_259_212 (n_259_212 _) rfl (T_eq g5 ⟨by omega, by omega⟩) (fun c6 => ?_) (fun c6 => ?_)
      · replace h := h.1 c6
        refine i_iinc (x := x9) (l' := [(0, rf 252), (1, iv x1), (2, iv x2), (7, iv x7), (8, iv x8), (9, iv (x9 + 1)), (10, iv x10), (11, iv x11)]) r_259_243 (n_259_243 _) (by decide) rfl rfl ?_
        refine i_goto (t := 157) r_259_246 (n_259_246 _) rfl ?_
        exact wp_pr (l' := [(0, rf 252), (1, iv x1), (2, iv x2), (7, iv x7), (8, iv x8), (9, iv (x9 + 1))]) rfl h
      · replace h := h.2 c6
        refine i_aload_n (a := 252) r_259_215 (n_259_215 _) rfl ?_
        refine i_iload_n (x := x1) r_259_216 (n_259_216 _) rfl ?_
        refine i_iload (x := x11) r_259_217 (n_259_217 _) rfl ?_
        refine i_iload (x := x9) r_259_219 (n_259_219 _) rfl ?_
        refine i_aload_n (a := 252) r_259_221 (n_259_221 _) rfl ?_
        refine i_getR (a := 252) (b := 272) r_259_222 (n_259_222 _) rfl rfl rfl (by omega) lf_252 (by omega) ?_
        refine i_bipush r_259_225 (n_259_225 _) rfl ?_
        refine i_iload (x := x11) r_259_227 (n_259_227 _) rfl ?_
        refine i_imul r_259_229 (n_259_229 _) ?_
        refine i_iload (x := x10) r_259_230 (n_259_230 _) rfl ?_
        refine i_iadd r_259_232 (n_259_232 _) ?_
        obtain ⟨g7, h⟩ := h
        refine i_laload (a := 272) (j := (40 * x11) + x10) r_259_233 (n_259_233 _) lf_272 ⟨by omega, by omega⟩ (by omega) (by omega) ?_
        refine wp_virt (b := 252) (rest := []) (Ls := [(0, rf 252), (1, iv x1), (2, iv x11), (3, iv x9), (4, .long (zL s1 272 ((40 * x11) + x10)))]) r_259_234 (n_259_234 _) rfl ⟨rfl, rfl, by decide, by decide⟩ rfl rfl lf_252 ⟨rfl, Nat.le_of_ble_eq_true rfl, Nat.le_of_ble_eq_true rfl⟩ rfl h ?_
        intro o8 s8 h
        rcases h with ⟨rfl, h⟩ | ⟨e8, rfl, h⟩
        · refine .inl ⟨none, rfl, ?_⟩
          refine i_iinc (x := x11) (l' := [(0, rf 252), (1, iv x1), (2, iv x2), (7, iv x7), (8, iv x8), (9, iv x9), (10, iv x10), (11, iv (x11 + 1))]) r_259_237 (n_259_237 _) (by decide) rfl rfl ?_
          refine i_goto (t := 198) r_259_240 (n_259_240 _) rfl ?_
          exact wp_pr (l' := [(0, rf 252), (1, iv x1), (2, iv x2), (7, iv x7), (8, iv x8), (9, iv x9), (10, iv x10), (11, iv (x11 + 1))]) rfl h
        · skip
          exact h.elim
  · skip
    exact h.elim

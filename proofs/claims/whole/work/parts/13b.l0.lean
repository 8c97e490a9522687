theorem r_34_0 : xfetch 34 0 = some (.aload_n 2, 1) := by decide +kernel
theorem n_34_0 : ∀ l, xpr 34 0 l = l := xpr_no (by decide +kernel)
theorem r_34_1 : xfetch 34 1 = some (.iconst 0, 1) := by decide +kernel
theorem n_34_1 : ∀ l, xpr 34 1 l = l := xpr_no (by decide +kernel)
theorem r_34_2 : xfetch 34 2 = some (.aload_n 0, 1) := by decide +kernel
theorem n_34_2 : ∀ l, xpr 34 2 l = l := xpr_no (by decide +kernel)
theorem r_34_3 : xfetch 34 3 = some (.iload_n 1, 1) := by decide +kernel
theorem n_34_3 : ∀ l, xpr 34 3 l = l := xpr_no (by decide +kernel)
theorem r_34_4 : xfetch 34 4 = some (.invokevirtual 7, 3) := by decide +kernel
theorem n_34_4 : ∀ l, xpr 34 4 l = l := xpr_no (by decide +kernel)
theorem r_34_7 : xfetch 34 7 = some (.i2l, 1) := by decide +kernel
theorem n_34_7 : ∀ l, xpr 34 7 l = l := xpr_no (by decide +kernel)
theorem r_34_8 : xfetch 34 8 = some (.lastore, 1) := by decide +kernel
theorem n_34_8 : ∀ l, xpr 34 8 l = l := xpr_no (by decide +kernel)
theorem r_34_9 : xfetch 34 9 = some (.goto 9, 3) := by decide +kernel
theorem n_34_9 : ∀ l, xpr 34 9 l = l := xpr_no (by decide +kernel)
theorem r_34_13 : xfetch 34 13 = some (.iconst 1, 1) := by decide +kernel
theorem n_34_13 : ∀ l, xpr 34 13 l = l := xpr_no (by decide +kernel)
theorem r_34_14 : xfetch 34 14 = some (.ireturn, 1) := by decide +kernel
theorem n_34_14 : ∀ l, xpr 34 14 l = l := xpr_no (by decide +kernel)
theorem r_34_16 : xfetch 34 16 = some (.iconst 2, 1) := by decide +kernel
theorem n_34_16 : ∀ l, xpr 34 16 l = l := xpr_no (by decide +kernel)
theorem r_34_17 : xfetch 34 17 = some (.ireturn, 1) := by decide +kernel
theorem n_34_17 : ∀ l, xpr 34 17 l = l := xpr_no (by decide +kernel)
theorem r_34_18 : xfetch 34 18 = some (.iconst 0, 1) := by decide +kernel
theorem n_34_18 : ∀ l, xpr 34 18 l = l := xpr_no (by decide +kernel)
theorem r_34_19 : xfetch 34 19 = some (.ireturn, 1) := by decide +kernel
theorem n_34_19 : ∀ l, xpr 34 19 l = l := xpr_no (by decide +kernel)
theorem v_Law_newRecord_0 {S : Option (Nat × (Nat → Int32))} {s : zSt} {Q : Option Value ⊕ Nat → zSt → Prop} {x1 : Int} 
    (h : wp S 35 0 [(0, rf 2), (1, iv x1)] [] s (fun o1 s1 => zkI (fun y1 => Q (rI 0) (zwL s1 275 0 (zi2l y1))) (fun e1 => (e1 = 0 ∧ Q (rI 1) s1) ∨ (e1 = 1 ∧ Q (rI 2) s1)) o1)) :
    wp S 34 0 [(0, rf 2), (1, iv x1), (2, rf 275)] [] s Q := by
  refine i_aload_n (a := 275) r_34_0 (n_34_0 _) rfl ?_
  refine i_iconst r_34_1 (n_34_1 _) ?_
  refine i_aload_n (a := 2) r_34_2 (n_34_2 _) rfl ?_
  refine i_iload_n (x := x1) r_34_3 (n_34_3 _) rfl ?_
  refine wp_virt (b := 2) (rest := [iv 0, rf 275]) (Ls := [(0, rf 2), (1, iv x1)]) r_34_4 (n_34_4 _) rfl ⟨rfl, rfl, by decide, by decide⟩ rfl rfl lf_2 ⟨rfl, Nat.le_of_ble_eq_true rfl, Nat.le_of_ble_eq_true rfl⟩ rfl h ?_
  intro o1 s1 h
  rcases h with ⟨y1, q2, rfl, h⟩ | ⟨e1, rfl, h⟩
  · refine .inl ⟨some (iv y1), rfl, ?_⟩
    show wp S 34 7 [(0, rf 2), (1, iv x1), (2, rf 275)] [iv y1, iv 0, rf 275] s1 Q
    refine i_i2l r_34_7 (n_34_7 _) ?_
    refine i_lastore (a := 275) (j := 0) r_34_8 (n_34_8 _) lf_275 ⟨by omega, by omega⟩ (by omega) (by omega) ?_
    refine i_goto (t := 18) r_34_9 (n_34_9 _) rfl ?_
    refine i_iconst r_34_18 (n_34_18 _) ?_
    exact i_ireturn r_34_19 (n_34_19 _) rfl h
  · skip
    rcases h with ⟨rfl, h⟩ | ⟨rfl, h⟩
    · refine .inr ⟨_, rfl, .inr ⟨_, _, 12, (13, [(0, rf 2), (1, iv x1), (2, rf 275)]), rfl, rfl, rfl, ?_⟩⟩
      refine i_iconst r_34_13 (n_34_13 _) ?_
      exact i_ireturn r_34_14 (n_34_14 _) rfl h
    · refine .inr ⟨_, rfl, .inr ⟨_, _, 15, (16, [(0, rf 2), (1, iv x1), (2, rf 275)]), rfl, rfl, rfl, ?_⟩⟩
      refine i_iconst r_34_16 (n_34_16 _) ?_
      exact i_ireturn r_34_17 (n_34_17 _) rfl h
theorem r_52_0 : xfetch 52 0 = some (.aload 5, 2) := by decide +kernel
theorem n_52_0 : ∀ l, xpr 52 0 l = l := xpr_no (by decide +kernel)
theorem r_52_2 : xfetch 52 2 = some (.iconst 0, 1) := by decide +kernel
theorem n_52_2 : ∀ l, xpr 52 2 l = l := xpr_no (by decide +kernel)
theorem r_52_3 : xfetch 52 3 = some (.aload_n 0, 1) := by decide +kernel
theorem n_52_3 : ∀ l, xpr 52 3 l = l := xpr_no (by decide +kernel)
theorem r_52_4 : xfetch 52 4 = some (.iload_n 1, 1) := by decide +kernel
theorem n_52_4 : ∀ l, xpr 52 4 l = l := xpr_no (by decide +kernel)
theorem r_52_5 : xfetch 52 5 = some (.iload_n 2, 1) := by decide +kernel
theorem n_52_5 : ∀ l, xpr 52 5 l = l := xpr_no (by decide +kernel)
theorem r_52_6 : xfetch 52 6 = some (.iload_n 3, 1) := by decide +kernel
theorem n_52_6 : ∀ l, xpr 52 6 l = l := xpr_no (by decide +kernel)
theorem r_52_7 : xfetch 52 7 = some (.iload 4, 2) := by decide +kernel
theorem n_52_7 : ∀ l, xpr 52 7 l = l := xpr_no (by decide +kernel)
theorem r_52_9 : xfetch 52 9 = some (.invokevirtual 17, 3) := by decide +kernel
theorem n_52_9 : ∀ l, xpr 52 9 l = l := xpr_no (by decide +kernel)
theorem r_52_12 : xfetch 52 12 = some (.i2l, 1) := by decide +kernel
theorem n_52_12 : ∀ l, xpr 52 12 l = l := xpr_no (by decide +kernel)
theorem r_52_13 : xfetch 52 13 = some (.lastore, 1) := by decide +kernel
theorem n_52_13 : ∀ l, xpr 52 13 l = l := xpr_no (by decide +kernel)
theorem r_52_14 : xfetch 52 14 = some (.goto 15, 3) := by decide +kernel
theorem n_52_14 : ∀ l, xpr 52 14 l = l := xpr_no (by decide +kernel)
theorem r_52_19 : xfetch 52 19 = some (.iconst 1, 1) := by decide +kernel
theorem n_52_19 : ∀ l, xpr 52 19 l = l := xpr_no (by decide +kernel)
theorem r_52_20 : xfetch 52 20 = some (.ireturn, 1) := by decide +kernel
theorem n_52_20 : ∀ l, xpr 52 20 l = l := xpr_no (by decide +kernel)
theorem r_52_23 : xfetch 52 23 = some (.iconst 2, 1) := by decide +kernel
theorem n_52_23 : ∀ l, xpr 52 23 l = l := xpr_no (by decide +kernel)
theorem r_52_24 : xfetch 52 24 = some (.ireturn, 1) := by decide +kernel
theorem n_52_24 : ∀ l, xpr 52 24 l = l := xpr_no (by decide +kernel)
theorem r_52_27 : xfetch 52 27 = some (.iconst 3, 1) := by decide +kernel
theorem n_52_27 : ∀ l, xpr 52 27 l = l := xpr_no (by decide +kernel)
theorem r_52_28 : xfetch 52 28 = some (.ireturn, 1) := by decide +kernel
theorem n_52_28 : ∀ l, xpr 52 28 l = l := xpr_no (by decide +kernel)
theorem r_52_29 : xfetch 52 29 = some (.iconst 0, 1) := by decide +kernel
theorem n_52_29 : ∀ l, xpr 52 29 l = l := xpr_no (by decide +kernel)
theorem r_52_30 : xfetch 52 30 = some (.ireturn, 1) := by decide +kernel
theorem n_52_30 : ∀ l, xpr 52 30 l = l := xpr_no (by decide +kernel)
theorem v_Law_addField_0 {S : Option (Nat × (Nat → Int32))} {s : zSt} {Q : Option Value ⊕ Nat → zSt → Prop} {x1 : Int} {x2 : Int} {x3 : Int} {x4 : Int} 
    (h : wp S 53 0 [(0, rf 2), (1, iv x1), (2, iv x2), (3, iv x3), (4, iv x4)] [] s (fun o1 s1 => zkI (fun y1 => Q (rI 0) (zwL s1 275 0 (zi2l y1))) (fun e1 => (e1 = 0 ∧ Q (rI 2) s1) ∨ (e1 = 1 ∧ Q (rI 3) s1) ∨ (e1 = 2 ∧ Q (rI 1) s1)) o1)) :
    wp S 52 0 [(0, rf 2), (1, iv x1), (2, iv x2), (3, iv x3), (4, iv x4), (5, rf 275)] [] s Q := by
  refine i_aload (a := 275) r_52_0 (n_52_0 _) rfl ?_
  refine i_iconst r_52_2 (n_52_2 _) ?_
  refine i_aload_n (a := 2) r_52_3 (n_52_3 _) rfl ?_
  refine i_iload_n (x := x1) r_52_4 (n_52_4 _) rfl ?_
  refine i_iload_n (x := x2) r_52_5 (n_52_5 _) rfl ?_
  refine i_iload_n (x := x3) r_52_6 (n_52_6 _) rfl ?_
  refine i_iload (x := x4) r_52_7 (n_52_7 _) rfl ?_
  refine wp_virt (b := 2) (rest := [iv 0, rf 275]) (Ls := [(0, rf 2), (1, iv x1), (2, iv x2), (3, iv x3), (4, iv x4)]) r_52_9 (n_52_9 _) rfl ⟨rfl, rfl, by decide, by decide⟩ rfl rfl lf_2 ⟨rfl, Nat.le_of_ble_eq_true rfl, Nat.le_of_ble_eq_true rfl⟩ rfl h ?_
  intro o1 s1 h
  rcases h with ⟨y1, q2, rfl, h⟩ | ⟨e1, rfl, h⟩
  · refine .inl ⟨some (iv y1), rfl, ?_⟩
    show wp S 52 12 [(0, rf 2), (1, iv x1), (2, iv x2), (3, iv x3), (4, iv x4), (5, rf 275)] [iv y1, iv 0, rf 275] s1 Q
    refine i_i2l r_52_12 (n_52_12 _) ?_
    refine i_lastore (a := 275) (j := 0) r_52_13 (n_52_13 _) lf_275 ⟨by omega, by omega⟩ (by omega) (by omega) ?_
    refine i_goto (t := 29) r_52_14 (n_52_14 _) rfl ?_
    refine i_iconst r_52_29 (n_52_29 _) ?_
    exact i_ireturn r_52_30 (n_52_30 _) rfl h
  · skip
    rcases h with ⟨rfl, h⟩ | ⟨rfl, h⟩ | ⟨rfl, h⟩
    · refine .inr ⟨_, rfl, .inr ⟨_, _, 21, (23, [(0, rf 2), (1, iv x1), (2, iv x2), (3, iv x3), (4, iv x4), (5, rf 275)]), rfl, rfl, rfl, ?_⟩⟩
      refine i_iconst r_52_23 (n_52_23 _) ?_
      exact i_ireturn r_52_24 (n_52_24 _) rfl h
    · refine .inr ⟨_, rfl, .inr ⟨_, _, 25, (27, [(0, rf 2), (1, iv x1), (2, iv x2), (3, iv x3), (4, iv x4), (5, rf 275)]), rfl, rfl, rfl, ?_⟩⟩
      refine i_iconst r_52_27 (n_52_27 _) ?_
      exact i_ireturn r_52_28 (n_52_28 _) rfl h
    · refine .inr ⟨_, rfl, .inr ⟨_, _, 17, (19, [(0, rf 2), (1, iv x1), (2, iv x2), (3, iv x3), (4, iv x4), (5, rf 275)]), rfl, rfl, rfl, ?_⟩⟩
      refine i_iconst r_52_19 (n_52_19 _) ?_
      exact i_ireturn r_52_20 (n_52_20 _) rfl h
theorem r_58_0 : xfetch 58 0 = some (.aload_n 3, 1) := by decide +kernel
theorem n_58_0 : ∀ l, xpr 58 0 l = l := xpr_no (by decide +kernel)
theorem r_58_1 : xfetch 58 1 = some (.iconst 0, 1) := by decide +kernel
theorem n_58_1 : ∀ l, xpr 58 1 l = l := xpr_no (by decide +kernel)
theorem r_58_2 : xfetch 58 2 = some (.aload_n 0, 1) := by decide +kernel
theorem n_58_2 : ∀ l, xpr 58 2 l = l := xpr_no (by decide +kernel)
theorem r_58_3 : xfetch 58 3 = some (.iload_n 1, 1) := by decide +kernel
theorem n_58_3 : ∀ l, xpr 58 3 l = l := xpr_no (by decide +kernel)
theorem r_58_4 : xfetch 58 4 = some (.iload_n 2, 1) := by decide +kernel
theorem n_58_4 : ∀ l, xpr 58 4 l = l := xpr_no (by decide +kernel)
theorem r_58_5 : xfetch 58 5 = some (.invokevirtual 23, 3) := by decide +kernel
theorem n_58_5 : ∀ l, xpr 58 5 l = l := xpr_no (by decide +kernel)
theorem r_58_8 : xfetch 58 8 = some (.i2l, 1) := by decide +kernel
theorem n_58_8 : ∀ l, xpr 58 8 l = l := xpr_no (by decide +kernel)
theorem r_58_9 : xfetch 58 9 = some (.lastore, 1) := by decide +kernel
theorem n_58_9 : ∀ l, xpr 58 9 l = l := xpr_no (by decide +kernel)
theorem r_58_10 : xfetch 58 10 = some (.goto 11, 3) := by decide +kernel
theorem n_58_10 : ∀ l, xpr 58 10 l = l := xpr_no (by decide +kernel)
theorem r_58_15 : xfetch 58 15 = some (.iconst 1, 1) := by decide +kernel
theorem n_58_15 : ∀ l, xpr 58 15 l = l := xpr_no (by decide +kernel)
theorem r_58_16 : xfetch 58 16 = some (.ireturn, 1) := by decide +kernel
theorem n_58_16 : ∀ l, xpr 58 16 l = l := xpr_no (by decide +kernel)
theorem r_58_19 : xfetch 58 19 = some (.iconst 2, 1) := by decide +kernel
theorem n_58_19 : ∀ l, xpr 58 19 l = l := xpr_no (by decide +kernel)
theorem r_58_20 : xfetch 58 20 = some (.ireturn, 1) := by decide +kernel
theorem n_58_20 : ∀ l, xpr 58 20 l = l := xpr_no (by decide +kernel)
theorem r_58_21 : xfetch 58 21 = some (.iconst 0, 1) := by decide +kernel
theorem n_58_21 : ∀ l, xpr 58 21 l = l := xpr_no (by decide +kernel)
theorem r_58_22 : xfetch 58 22 = some (.ireturn, 1) := by decide +kernel
theorem n_58_22 : ∀ l, xpr 58 22 l = l := xpr_no (by decide +kernel)
theorem v_Law_recordInfo_0 {S : Option (Nat × (Nat → Int32))} {s : zSt} {Q : Option Value ⊕ Nat → zSt → Prop} {x1 : Int} {x2 : Int} 
    (h : wp S 59 0 [(0, rf 2), (1, iv x1), (2, iv x2)] [] s (fun o1 s1 => zkI (fun y1 => Q (rI 0) (zwL s1 275 0 (zi2l y1))) (fun e1 => (e1 = 0 ∧ Q (rI 2) s1) ∨ (e1 = 2 ∧ Q (rI 1) s1)) o1)) :
    wp S 58 0 [(0, rf 2), (1, iv x1), (2, iv x2), (3, rf 275)] [] s Q := by
  refine i_aload_n (a := 275) r_58_0 (n_58_0 _) rfl ?_
  refine i_iconst r_58_1 (n_58_1 _) ?_
  refine i_aload_n (a := 2) r_58_2 (n_58_2 _) rfl ?_
  refine i_iload_n (x := x1) r_58_3 (n_58_3 _) rfl ?_
  refine i_iload_n (x := x2) r_58_4 (n_58_4 _) rfl ?_
  refine wp_virt (b := 2) (rest := [iv 0, rf 275]) (Ls := [(0, rf 2), (1, iv x1), (2, iv x2)]) r_58_5 (n_58_5 _) rfl ⟨rfl, rfl, by decide, by decide⟩ rfl rfl lf_2 ⟨rfl, Nat.le_of_ble_eq_true rfl, Nat.le_of_ble_eq_true rfl⟩ rfl h ?_
  intro o1 s1 h
  rcases h with ⟨y1, q2, rfl, h⟩ | ⟨e1, rfl, h⟩
  · refine .inl ⟨some (iv y1), rfl, ?_⟩
    show wp S 58 8 [(0, rf 2), (1, iv x1), (2, iv x2), (3, rf 275)] [iv y1, iv 0, rf 275] s1 Q
    refine i_i2l r_58_8 (n_58_8 _) ?_
    refine i_lastore (a := 275) (j := 0) r_58_9 (n_58_9 _) lf_275 ⟨by omega, by omega⟩ (by omega) (by omega) ?_
    refine i_goto (t := 21) r_58_10 (n_58_10 _) rfl ?_
    refine i_iconst r_58_21 (n_58_21 _) ?_
    exact i_ireturn r_58_22 (n_58_22 _) rfl h
  · skip
    rcases h with ⟨rfl, h⟩ | ⟨rfl, h⟩
    · refine .inr ⟨_, rfl, .inr ⟨_, _, 17, (19, [(0, rf 2), (1, iv x1), (2, iv x2), (3, rf 275)]), rfl, rfl, rfl, ?_⟩⟩
      refine i_iconst r_58_19 (n_58_19 _) ?_
      exact i_ireturn r_58_20 (n_58_20 _) rfl h
    · refine .inr ⟨_, rfl, .inr ⟨_, _, 13, (15, [(0, rf 2), (1, iv x1), (2, iv x2), (3, rf 275)]), rfl, rfl, rfl, ?_⟩⟩
      refine i_iconst r_58_15 (n_58_15 _) ?_
      exact i_ireturn r_58_16 (n_58_16 _) rfl h
theorem r_61_0 : xfetch 61 0 = some (.aload 4, 2) := by decide +kernel
theorem n_61_0 : ∀ l, xpr 61 0 l = l := xpr_no (by decide +kernel)
theorem r_61_2 : xfetch 61 2 = some (.iconst 0, 1) := by decide +kernel
theorem n_61_2 : ∀ l, xpr 61 2 l = l := xpr_no (by decide +kernel)
theorem r_61_3 : xfetch 61 3 = some (.aload_n 0, 1) := by decide +kernel
theorem n_61_3 : ∀ l, xpr 61 3 l = l := xpr_no (by decide +kernel)
theorem r_61_4 : xfetch 61 4 = some (.iload_n 1, 1) := by decide +kernel
theorem n_61_4 : ∀ l, xpr 61 4 l = l := xpr_no (by decide +kernel)
theorem r_61_5 : xfetch 61 5 = some (.iload_n 2, 1) := by decide +kernel
theorem n_61_5 : ∀ l, xpr 61 5 l = l := xpr_no (by decide +kernel)
theorem r_61_6 : xfetch 61 6 = some (.iload_n 3, 1) := by decide +kernel
theorem n_61_6 : ∀ l, xpr 61 6 l = l := xpr_no (by decide +kernel)
theorem r_61_7 : xfetch 61 7 = some (.invokevirtual 27, 3) := by decide +kernel
theorem n_61_7 : ∀ l, xpr 61 7 l = l := xpr_no (by decide +kernel)
theorem r_61_10 : xfetch 61 10 = some (.i2l, 1) := by decide +kernel
theorem n_61_10 : ∀ l, xpr 61 10 l = l := xpr_no (by decide +kernel)
theorem r_61_11 : xfetch 61 11 = some (.lastore, 1) := by decide +kernel
theorem n_61_11 : ∀ l, xpr 61 11 l = l := xpr_no (by decide +kernel)
theorem r_61_12 : xfetch 61 12 = some (.goto 11, 3) := by decide +kernel
theorem n_61_12 : ∀ l, xpr 61 12 l = l := xpr_no (by decide +kernel)
theorem r_61_17 : xfetch 61 17 = some (.iconst 1, 1) := by decide +kernel
theorem n_61_17 : ∀ l, xpr 61 17 l = l := xpr_no (by decide +kernel)
theorem r_61_18 : xfetch 61 18 = some (.ireturn, 1) := by decide +kernel
theorem n_61_18 : ∀ l, xpr 61 18 l = l := xpr_no (by decide +kernel)
theorem r_61_21 : xfetch 61 21 = some (.iconst 2, 1) := by decide +kernel
theorem n_61_21 : ∀ l, xpr 61 21 l = l := xpr_no (by decide +kernel)
theorem r_61_22 : xfetch 61 22 = some (.ireturn, 1) := by decide +kernel
theorem n_61_22 : ∀ l, xpr 61 22 l = l := xpr_no (by decide +kernel)
theorem r_61_23 : xfetch 61 23 = some (.iconst 0, 1) := by decide +kernel
theorem n_61_23 : ∀ l, xpr 61 23 l = l := xpr_no (by decide +kernel)
theorem r_61_24 : xfetch 61 24 = some (.ireturn, 1) := by decide +kernel
theorem n_61_24 : ∀ l, xpr 61 24 l = l := xpr_no (by decide +kernel)
theorem v_Law_fieldInfo_0 {S : Option (Nat × (Nat → Int32))} {s : zSt} {Q : Option Value ⊕ Nat → zSt → Prop} {x1 : Int} {x2 : Int} {x3 : Int} 
    (h : wp S 62 0 [(0, rf 2), (1, iv x1), (2, iv x2), (3, iv x3)] [] s (fun o1 s1 => zkI (fun y1 => Q (rI 0) (zwL s1 275 0 (zi2l y1))) (fun e1 => (e1 = 0 ∧ Q (rI 2) s1) ∨ (e1 = 2 ∧ Q (rI 1) s1)) o1)) :
    wp S 61 0 [(0, rf 2), (1, iv x1), (2, iv x2), (3, iv x3), (4, rf 275)] [] s Q := by
  refine i_aload (a := 275) r_61_0 (n_61_0 _) rfl ?_
  refine i_iconst r_61_2 (n_61_2 _) ?_
  refine i_aload_n (a := 2) r_61_3 (n_61_3 _) rfl ?_
  refine i_iload_n (x := x1) r_61_4 (n_61_4 _) rfl ?_
  refine i_iload_n (x := x2) r_61_5 (n_61_5 _) rfl ?_
  refine i_iload_n (x := x3) r_61_6 (n_61_6 _) rfl ?_
  refine wp_virt (b := 2) (rest := [iv 0, rf 275]) (Ls := [(0, rf 2), (1, iv x1), (2, iv x2), (3, iv x3)]) r_61_7 (n_61_7 _) rfl ⟨rfl, rfl, by decide, by decide⟩ rfl rfl lf_2 ⟨rfl, Nat.le_of_ble_eq_true rfl, Nat.le_of_ble_eq_true rfl⟩ rfl h ?_
  intro o1 s1 h
  rcases h with ⟨y1, q2, rfl, h⟩ | ⟨e1, rfl, h⟩
  · refine .inl ⟨some (iv y1), rfl, ?_⟩
    show wp S 61 10 [(0, rf 2), (1, iv x1), (2, iv x2), (3, iv x3), (4, rf 275)] [iv y1, iv 0, rf 275] s1 Q
    refine i_i2l r_61_10 (n_61_10 _) ?_
    refine i_lastore (a := 275) (j := 0) r_61_11 (n_61_11 _) lf_275 ⟨by omega, by omega⟩ (by omega) (by omega) ?_
    refine i_goto (t := 23) r_61_12 (n_61_12 _) rfl ?_
    refine i_iconst r_61_23 (n_61_23 _) ?_
    exact i_ireturn r_61_24 (n_61_24 _) rfl h
  · skip
    rcases h with ⟨rfl, h⟩ | ⟨rfl, h⟩
    · refine .inr ⟨_, rfl, .inr ⟨_, _, 19, (21, [(0, rf 2), (1, iv x1), (2, iv x2), (3, iv x3), (4, rf 275)]), rfl, rfl, rfl, ?_⟩⟩
      refine i_iconst r_61_21 (n_61_21 _) ?_
      exact i_ireturn r_61_22 (n_61_22 _) rfl h
    · refine .inr ⟨_, rfl, .inr ⟨_, _, 15, (17, [(0, rf 2), (1, iv x1), (2, iv x2), (3, iv x3), (4, rf 275)]), rfl, rfl, rfl, ?_⟩⟩
      refine i_iconst r_61_17 (n_61_17 _) ?_
      exact i_ireturn r_61_18 (n_61_18 _) rfl h
theorem r_63_0 : xfetch 63 0 = some (.aload 4, 2) := by decide +kernel
theorem n_63_0 : ∀ l, xpr 63 0 l = l := xpr_no (by decide +kernel)
theorem r_63_2 : xfetch 63 2 = some (.iconst 0, 1) := by decide +kernel
theorem n_63_2 : ∀ l, xpr 63 2 l = l := xpr_no (by decide +kernel)
theorem r_63_3 : xfetch 63 3 = some (.aload_n 0, 1) := by decide +kernel
theorem n_63_3 : ∀ l, xpr 63 3 l = l := xpr_no (by decide +kernel)
theorem r_63_4 : xfetch 63 4 = some (.iload_n 1, 1) := by decide +kernel
theorem n_63_4 : ∀ l, xpr 63 4 l = l := xpr_no (by decide +kernel)
theorem r_63_5 : xfetch 63 5 = some (.iload_n 2, 1) := by decide +kernel
theorem n_63_5 : ∀ l, xpr 63 5 l = l := xpr_no (by decide +kernel)
theorem r_63_6 : xfetch 63 6 = some (.iload_n 3, 1) := by decide +kernel
theorem n_63_6 : ∀ l, xpr 63 6 l = l := xpr_no (by decide +kernel)
theorem r_63_7 : xfetch 63 7 = some (.invokevirtual 31, 3) := by decide +kernel
theorem n_63_7 : ∀ l, xpr 63 7 l = l := xpr_no (by decide +kernel)
theorem r_63_10 : xfetch 63 10 = some (.i2l, 1) := by decide +kernel
theorem n_63_10 : ∀ l, xpr 63 10 l = l := xpr_no (by decide +kernel)
theorem r_63_11 : xfetch 63 11 = some (.lastore, 1) := by decide +kernel
theorem n_63_11 : ∀ l, xpr 63 11 l = l := xpr_no (by decide +kernel)
theorem r_63_12 : xfetch 63 12 = some (.goto 11, 3) := by decide +kernel
theorem n_63_12 : ∀ l, xpr 63 12 l = l := xpr_no (by decide +kernel)
theorem r_63_17 : xfetch 63 17 = some (.iconst 1, 1) := by decide +kernel
theorem n_63_17 : ∀ l, xpr 63 17 l = l := xpr_no (by decide +kernel)
theorem r_63_18 : xfetch 63 18 = some (.ireturn, 1) := by decide +kernel
theorem n_63_18 : ∀ l, xpr 63 18 l = l := xpr_no (by decide +kernel)
theorem r_63_21 : xfetch 63 21 = some (.iconst 2, 1) := by decide +kernel
theorem n_63_21 : ∀ l, xpr 63 21 l = l := xpr_no (by decide +kernel)
theorem r_63_22 : xfetch 63 22 = some (.ireturn, 1) := by decide +kernel
theorem n_63_22 : ∀ l, xpr 63 22 l = l := xpr_no (by decide +kernel)
theorem r_63_23 : xfetch 63 23 = some (.iconst 0, 1) := by decide +kernel
theorem n_63_23 : ∀ l, xpr 63 23 l = l := xpr_no (by decide +kernel)
theorem r_63_24 : xfetch 63 24 = some (.ireturn, 1) := by decide +kernel
theorem n_63_24 : ∀ l, xpr 63 24 l = l := xpr_no (by decide +kernel)
theorem v_Law_leafInfo_0 {S : Option (Nat × (Nat → Int32))} {s : zSt} {Q : Option Value ⊕ Nat → zSt → Prop} {x1 : Int} {x2 : Int} {x3 : Int} 
    (h : wp S 64 0 [(0, rf 2), (1, iv x1), (2, iv x2), (3, iv x3)] [] s (fun o1 s1 => zkI (fun y1 => Q (rI 0) (zwL s1 275 0 (zi2l y1))) (fun e1 => (e1 = 0 ∧ Q (rI 2) s1) ∨ (e1 = 2 ∧ Q (rI 1) s1)) o1)) :
    wp S 63 0 [(0, rf 2), (1, iv x1), (2, iv x2), (3, iv x3), (4, rf 275)] [] s Q := by
  refine i_aload (a := 275) r_63_0 (n_63_0 _) rfl ?_
  refine i_iconst r_63_2 (n_63_2 _) ?_
  refine i_aload_n (a := 2) r_63_3 (n_63_3 _) rfl ?_
  refine i_iload_n (x := x1) r_63_4 (n_63_4 _) rfl ?_
  refine i_iload_n (x := x2) r_63_5 (n_63_5 _) rfl ?_
  refine i_iload_n (x := x3) r_63_6 (n_63_6 _) rfl ?_
  refine wp_virt (b := 2) (rest := [iv 0, rf 275]) (Ls := [(0, rf 2), (1, iv x1), (2, iv x2), (3, iv x3)]) r_63_7 (n_63_7 _) rfl ⟨rfl, rfl, by decide, by decide⟩ rfl rfl lf_2 ⟨rfl, Nat.le_of_ble_eq_true rfl, Nat.le_of_ble_eq_true rfl⟩ rfl h ?_
  intro o1 s1 h
  rcases h with ⟨y1, q2, rfl, h⟩ | ⟨e1, rfl, h⟩
  · refine .inl ⟨some (iv y1), rfl, ?_⟩
    show wp S 63 10 [(0, rf 2), (1, iv x1), (2, iv x2), (3, iv x3), (4, rf 275)] [iv y1, iv 0, rf 275] s1 Q
    refine i_i2l r_63_10 (n_63_10 _) ?_
    refine i_lastore (a := 275) (j := 0) r_63_11 (n_63_11 _) lf_275 ⟨by omega, by omega⟩ (by omega) (by omega) ?_
    refine i_goto (t := 23) r_63_12 (n_63_12 _) rfl ?_
    refine i_iconst r_63_23 (n_63_23 _) ?_
    exact i_ireturn r_63_24 (n_63_24 _) rfl h
  · skip
    rcases h with ⟨rfl, h⟩ | ⟨rfl, h⟩
    · refine .inr ⟨_, rfl, .inr ⟨_, _, 19, (21, [(0, rf 2), (1, iv x1), (2, iv x2), (3, iv x3), (4, rf 275)]), rfl, rfl, rfl, ?_⟩⟩
      refine i_iconst r_63_21 (n_63_21 _) ?_
      exact i_ireturn r_63_22 (n_63_22 _) rfl h
    · refine .inr ⟨_, rfl, .inr ⟨_, _, 15, (17, [(0, rf 2), (1, iv x1), (2, iv x2), (3, iv x3), (4, rf 275)]), rfl, rfl, rfl, ?_⟩⟩
      refine i_iconst r_63_17 (n_63_17 _) ?_
      exact i_ireturn r_63_18 (n_63_18 _) rfl h
theorem r_66_0 : xfetch 66 0 = some (.aload 4, 2) := by decide +kernel
theorem n_66_0 : ∀ l, xpr 66 0 l = l := xpr_no (by decide +kernel)
theorem r_66_2 : xfetch 66 2 = some (.iconst 0, 1) := by decide +kernel
theorem n_66_2 : ∀ l, xpr 66 2 l = l := xpr_no (by decide +kernel)
theorem r_66_3 : xfetch 66 3 = some (.aload_n 0, 1) := by decide +kernel
theorem n_66_3 : ∀ l, xpr 66 3 l = l := xpr_no (by decide +kernel)
theorem r_66_4 : xfetch 66 4 = some (.iload_n 1, 1) := by decide +kernel
theorem n_66_4 : ∀ l, xpr 66 4 l = l := xpr_no (by decide +kernel)
theorem r_66_5 : xfetch 66 5 = some (.iload_n 2, 1) := by decide +kernel
theorem n_66_5 : ∀ l, xpr 66 5 l = l := xpr_no (by decide +kernel)
theorem r_66_6 : xfetch 66 6 = some (.iload_n 3, 1) := by decide +kernel
theorem n_66_6 : ∀ l, xpr 66 6 l = l := xpr_no (by decide +kernel)
theorem r_66_7 : xfetch 66 7 = some (.invokevirtual 34, 3) := by decide +kernel
theorem n_66_7 : ∀ l, xpr 66 7 l = l := xpr_no (by decide +kernel)
theorem r_66_10 : xfetch 66 10 = some (.i2l, 1) := by decide +kernel
theorem n_66_10 : ∀ l, xpr 66 10 l = l := xpr_no (by decide +kernel)
theorem r_66_11 : xfetch 66 11 = some (.lastore, 1) := by decide +kernel
theorem n_66_11 : ∀ l, xpr 66 11 l = l := xpr_no (by decide +kernel)
theorem r_66_12 : xfetch 66 12 = some (.goto 7, 3) := by decide +kernel
theorem n_66_12 : ∀ l, xpr 66 12 l = l := xpr_no (by decide +kernel)
theorem r_66_17 : xfetch 66 17 = some (.iconst 1, 1) := by decide +kernel
theorem n_66_17 : ∀ l, xpr 66 17 l = l := xpr_no (by decide +kernel)
theorem r_66_18 : xfetch 66 18 = some (.ireturn, 1) := by decide +kernel
theorem n_66_18 : ∀ l, xpr 66 18 l = l := xpr_no (by decide +kernel)
theorem r_66_19 : xfetch 66 19 = some (.iconst 0, 1) := by decide +kernel
theorem n_66_19 : ∀ l, xpr 66 19 l = l := xpr_no (by decide +kernel)
theorem r_66_20 : xfetch 66 20 = some (.ireturn, 1) := by decide +kernel
theorem n_66_20 : ∀ l, xpr 66 20 l = l := xpr_no (by decide +kernel)
theorem v_Law_pathByte_0 {S : Option (Nat × (Nat → Int32))} {s : zSt} {Q : Option Value ⊕ Nat → zSt → Prop} {x1 : Int} {x2 : Int} {x3 : Int} 
    (h : wp S 67 0 [(0, rf 2), (1, iv x1), (2, iv x2), (3, iv x3)] [] s (fun o1 s1 => zkI (fun y1 => Q (rI 0) (zwL s1 275 0 (zi2l y1))) (fun e1 => (e1 = 2 ∧ Q (rI 1) s1)) o1)) :
    wp S 66 0 [(0, rf 2), (1, iv x1), (2, iv x2), (3, iv x3), (4, rf 275)] [] s Q := by
  refine i_aload (a := 275) r_66_0 (n_66_0 _) rfl ?_
  refine i_iconst r_66_2 (n_66_2 _) ?_
  refine i_aload_n (a := 2) r_66_3 (n_66_3 _) rfl ?_
  refine i_iload_n (x := x1) r_66_4 (n_66_4 _) rfl ?_
  refine i_iload_n (x := x2) r_66_5 (n_66_5 _) rfl ?_
  refine i_iload_n (x := x3) r_66_6 (n_66_6 _) rfl ?_
  refine wp_virt (b := 2) (rest := [iv 0, rf 275]) (Ls := [(0, rf 2), (1, iv x1), (2, iv x2), (3, iv x3)]) r_66_7 (n_66_7 _) rfl ⟨rfl, rfl, by decide, by decide⟩ rfl rfl lf_2 ⟨rfl, Nat.le_of_ble_eq_true rfl, Nat.le_of_ble_eq_true rfl⟩ rfl h ?_
  intro o1 s1 h
  rcases h with ⟨y1, q2, rfl, h⟩ | ⟨e1, rfl, h⟩
  · refine .inl ⟨some (iv y1), rfl, ?_⟩
    show wp S 66 10 [(0, rf 2), (1, iv x1), (2, iv x2), (3, iv x3), (4, rf 275)] [iv y1, iv 0, rf 275] s1 Q
    refine i_i2l r_66_10 (n_66_10 _) ?_
    refine i_lastore (a := 275) (j := 0) r_66_11 (n_66_11 _) lf_275 ⟨by omega, by omega⟩ (by omega) (by omega) ?_
    refine i_goto (t := 19) r_66_12 (n_66_12 _) rfl ?_
    refine i_iconst r_66_19 (n_66_19 _) ?_
    exact i_ireturn r_66_20 (n_66_20 _) rfl h
  · skip
    rcases h with ⟨rfl, h⟩
    · refine .inr ⟨_, rfl, .inr ⟨_, _, 15, (17, [(0, rf 2), (1, iv x1), (2, iv x2), (3, iv x3), (4, rf 275)]), rfl, rfl, rfl, ?_⟩⟩
      refine i_iconst r_66_17 (n_66_17 _) ?_
      exact i_ireturn r_66_18 (n_66_18 _) rfl h
theorem r_70_0 : xfetch 70 0 = some (.aload_n 2, 1) := by decide +kernel
theorem n_70_0 : ∀ l, xpr 70 0 l = l := xpr_no (by decide +kernel)
theorem r_70_1 : xfetch 70 1 = some (.iconst 0, 1) := by decide +kernel
theorem n_70_1 : ∀ l, xpr 70 1 l = l := xpr_no (by decide +kernel)
theorem r_70_2 : xfetch 70 2 = some (.aload_n 0, 1) := by decide +kernel
theorem n_70_2 : ∀ l, xpr 70 2 l = l := xpr_no (by decide +kernel)
theorem r_70_3 : xfetch 70 3 = some (.iload_n 1, 1) := by decide +kernel
theorem n_70_3 : ∀ l, xpr 70 3 l = l := xpr_no (by decide +kernel)
theorem r_70_4 : xfetch 70 4 = some (.invokevirtual 37, 3) := by decide +kernel
theorem n_70_4 : ∀ l, xpr 70 4 l = l := xpr_no (by decide +kernel)
theorem r_70_7 : xfetch 70 7 = some (.i2l, 1) := by decide +kernel
theorem n_70_7 : ∀ l, xpr 70 7 l = l := xpr_no (by decide +kernel)
theorem r_70_8 : xfetch 70 8 = some (.lastore, 1) := by decide +kernel
theorem n_70_8 : ∀ l, xpr 70 8 l = l := xpr_no (by decide +kernel)
theorem r_70_9 : xfetch 70 9 = some (.goto 6, 3) := by decide +kernel
theorem n_70_9 : ∀ l, xpr 70 9 l = l := xpr_no (by decide +kernel)
theorem r_70_13 : xfetch 70 13 = some (.iconst 1, 1) := by decide +kernel
theorem n_70_13 : ∀ l, xpr 70 13 l = l := xpr_no (by decide +kernel)
theorem r_70_14 : xfetch 70 14 = some (.ireturn, 1) := by decide +kernel
theorem n_70_14 : ∀ l, xpr 70 14 l = l := xpr_no (by decide +kernel)
theorem r_70_15 : xfetch 70 15 = some (.iconst 0, 1) := by decide +kernel
theorem n_70_15 : ∀ l, xpr 70 15 l = l := xpr_no (by decide +kernel)
theorem r_70_16 : xfetch 70 16 = some (.ireturn, 1) := by decide +kernel
theorem n_70_16 : ∀ l, xpr 70 16 l = l := xpr_no (by decide +kernel)
theorem v_Law_findLeaf_0 {S : Option (Nat × (Nat → Int32))} {s : zSt} {Q : Option Value ⊕ Nat → zSt → Prop} {x1 : Int} 
    (h : wp S 71 0 [(0, rf 2), (1, iv x1)] [] s (fun o1 s1 => zkI (fun y1 => Q (rI 0) (zwL s1 275 0 (zi2l y1))) (fun e1 => (e1 = 2 ∧ Q (rI 1) s1)) o1)) :
    wp S 70 0 [(0, rf 2), (1, iv x1), (2, rf 275)] [] s Q := by
  refine i_aload_n (a := 275) r_70_0 (n_70_0 _) rfl ?_
  refine i_iconst r_70_1 (n_70_1 _) ?_
  refine i_aload_n (a := 2) r_70_2 (n_70_2 _) rfl ?_
  refine i_iload_n (x := x1) r_70_3 (n_70_3 _) rfl ?_
  refine wp_virt (b := 2) (rest := [iv 0, rf 275]) (Ls := [(0, rf 2), (1, iv x1)]) r_70_4 (n_70_4 _) rfl ⟨rfl, rfl, by decide, by decide⟩ rfl rfl lf_2 ⟨rfl, Nat.le_of_ble_eq_true rfl, Nat.le_of_ble_eq_true rfl⟩ rfl h ?_
  intro o1 s1 h
  rcases h with ⟨y1, q2, rfl, h⟩ | ⟨e1, rfl, h⟩
  · refine .inl ⟨some (iv y1), rfl, ?_⟩
    show wp S 70 7 [(0, rf 2), (1, iv x1), (2, rf 275)] [iv y1, iv 0, rf 275] s1 Q
    refine i_i2l r_70_7 (n_70_7 _) ?_
    refine i_lastore (a := 275) (j := 0) r_70_8 (n_70_8 _) lf_275 ⟨by omega, by omega⟩ (by omega) (by omega) ?_
    refine i_goto (t := 15) r_70_9 (n_70_9 _) rfl ?_
    refine i_iconst r_70_15 (n_70_15 _) ?_
    exact i_ireturn r_70_16 (n_70_16 _) rfl h
  · skip
    rcases h with ⟨rfl, h⟩
    · refine .inr ⟨_, rfl, .inr ⟨_, _, 12, (13, [(0, rf 2), (1, iv x1), (2, rf 275)]), rfl, rfl, rfl, ?_⟩⟩
      refine i_iconst r_70_13 (n_70_13 _) ?_
      exact i_ireturn r_70_14 (n_70_14 _) rfl h
theorem r_74_0 : xfetch 74 0 = some (.aload_n 2, 1) := by decide +kernel
theorem n_74_0 : ∀ l, xpr 74 0 l = l := xpr_no (by decide +kernel)
theorem r_74_1 : xfetch 74 1 = some (.iconst 0, 1) := by decide +kernel
theorem n_74_1 : ∀ l, xpr 74 1 l = l := xpr_no (by decide +kernel)
theorem r_74_2 : xfetch 74 2 = some (.aload_n 0, 1) := by decide +kernel
theorem n_74_2 : ∀ l, xpr 74 2 l = l := xpr_no (by decide +kernel)
theorem r_74_3 : xfetch 74 3 = some (.iload_n 1, 1) := by decide +kernel
theorem n_74_3 : ∀ l, xpr 74 3 l = l := xpr_no (by decide +kernel)
theorem r_74_4 : xfetch 74 4 = some (.invokevirtual 40, 3) := by decide +kernel
theorem n_74_4 : ∀ l, xpr 74 4 l = l := xpr_no (by decide +kernel)
theorem r_74_7 : xfetch 74 7 = some (.i2l, 1) := by decide +kernel
theorem n_74_7 : ∀ l, xpr 74 7 l = l := xpr_no (by decide +kernel)
theorem r_74_8 : xfetch 74 8 = some (.lastore, 1) := by decide +kernel
theorem n_74_8 : ∀ l, xpr 74 8 l = l := xpr_no (by decide +kernel)
theorem r_74_9 : xfetch 74 9 = some (.goto 6, 3) := by decide +kernel
theorem n_74_9 : ∀ l, xpr 74 9 l = l := xpr_no (by decide +kernel)
theorem r_74_13 : xfetch 74 13 = some (.iconst 1, 1) := by decide +kernel
theorem n_74_13 : ∀ l, xpr 74 13 l = l := xpr_no (by decide +kernel)
theorem r_74_14 : xfetch 74 14 = some (.ireturn, 1) := by decide +kernel
theorem n_74_14 : ∀ l, xpr 74 14 l = l := xpr_no (by decide +kernel)
theorem r_74_15 : xfetch 74 15 = some (.iconst 0, 1) := by decide +kernel
theorem n_74_15 : ∀ l, xpr 74 15 l = l := xpr_no (by decide +kernel)
theorem r_74_16 : xfetch 74 16 = some (.ireturn, 1) := by decide +kernel
theorem n_74_16 : ∀ l, xpr 74 16 l = l := xpr_no (by decide +kernel)
theorem v_Law_bestSize_0 {S : Option (Nat × (Nat → Int32))} {s : zSt} {Q : Option Value ⊕ Nat → zSt → Prop} {x1 : Int} 
    (h : wp S 75 0 [(0, rf 2), (1, iv x1)] [] s (fun o1 s1 => zkI (fun y1 => Q (rI 0) (zwL s1 275 0 (zi2l y1))) (fun e1 => (e1 = 2 ∧ Q (rI 1) s1)) o1)) :
    wp S 74 0 [(0, rf 2), (1, iv x1), (2, rf 275)] [] s Q := by
  refine i_aload_n (a := 275) r_74_0 (n_74_0 _) rfl ?_
  refine i_iconst r_74_1 (n_74_1 _) ?_
  refine i_aload_n (a := 2) r_74_2 (n_74_2 _) rfl ?_
  refine i_iload_n (x := x1) r_74_3 (n_74_3 _) rfl ?_
  refine wp_virt (b := 2) (rest := [iv 0, rf 275]) (Ls := [(0, rf 2), (1, iv x1)]) r_74_4 (n_74_4 _) rfl ⟨rfl, rfl, by decide, by decide⟩ rfl rfl lf_2 ⟨rfl, Nat.le_of_ble_eq_true rfl, Nat.le_of_ble_eq_true rfl⟩ rfl h ?_
  intro o1 s1 h
  rcases h with ⟨y1, q2, rfl, h⟩ | ⟨e1, rfl, h⟩
  · refine .inl ⟨some (iv y1), rfl, ?_⟩
    show wp S 74 7 [(0, rf 2), (1, iv x1), (2, rf 275)] [iv y1, iv 0, rf 275] s1 Q
    refine i_i2l r_74_7 (n_74_7 _) ?_
    refine i_lastore (a := 275) (j := 0) r_74_8 (n_74_8 _) lf_275 ⟨by omega, by omega⟩ (by omega) (by omega) ?_
    refine i_goto (t := 15) r_74_9 (n_74_9 _) rfl ?_
    refine i_iconst r_74_15 (n_74_15 _) ?_
    exact i_ireturn r_74_16 (n_74_16 _) rfl h
  · skip
    rcases h with ⟨rfl, h⟩
    · refine .inr ⟨_, rfl, .inr ⟨_, _, 12, (13, [(0, rf 2), (1, iv x1), (2, rf 275)]), rfl, rfl, rfl, ?_⟩⟩
      refine i_iconst r_74_13 (n_74_13 _) ?_
      exact i_ireturn r_74_14 (n_74_14 _) rfl h
theorem r_85_0 : xfetch 85 0 = some (.aload_n 3, 1) := by decide +kernel
theorem n_85_0 : ∀ l, xpr 85 0 l = l := xpr_no (by decide +kernel)
theorem r_85_1 : xfetch 85 1 = some (.iconst 0, 1) := by decide +kernel
theorem n_85_1 : ∀ l, xpr 85 1 l = l := xpr_no (by decide +kernel)
theorem r_85_2 : xfetch 85 2 = some (.aload_n 0, 1) := by decide +kernel
theorem n_85_2 : ∀ l, xpr 85 2 l = l := xpr_no (by decide +kernel)
theorem r_85_3 : xfetch 85 3 = some (.iload_n 1, 1) := by decide +kernel
theorem n_85_3 : ∀ l, xpr 85 3 l = l := xpr_no (by decide +kernel)
theorem r_85_4 : xfetch 85 4 = some (.iload_n 2, 1) := by decide +kernel
theorem n_85_4 : ∀ l, xpr 85 4 l = l := xpr_no (by decide +kernel)
theorem r_85_5 : xfetch 85 5 = some (.invokevirtual 43, 3) := by decide +kernel
theorem n_85_5 : ∀ l, xpr 85 5 l = l := xpr_no (by decide +kernel)
theorem r_85_8 : xfetch 85 8 = some (.i2l, 1) := by decide +kernel
theorem n_85_8 : ∀ l, xpr 85 8 l = l := xpr_no (by decide +kernel)
theorem r_85_9 : xfetch 85 9 = some (.lastore, 1) := by decide +kernel
theorem n_85_9 : ∀ l, xpr 85 9 l = l := xpr_no (by decide +kernel)
theorem r_85_10 : xfetch 85 10 = some (.goto 7, 3) := by decide +kernel
theorem n_85_10 : ∀ l, xpr 85 10 l = l := xpr_no (by decide +kernel)
theorem r_85_15 : xfetch 85 15 = some (.iconst 1, 1) := by decide +kernel
theorem n_85_15 : ∀ l, xpr 85 15 l = l := xpr_no (by decide +kernel)
theorem r_85_16 : xfetch 85 16 = some (.ireturn, 1) := by decide +kernel
theorem n_85_16 : ∀ l, xpr 85 16 l = l := xpr_no (by decide +kernel)
theorem r_85_17 : xfetch 85 17 = some (.iconst 0, 1) := by decide +kernel
theorem n_85_17 : ∀ l, xpr 85 17 l = l := xpr_no (by decide +kernel)
theorem r_85_18 : xfetch 85 18 = some (.ireturn, 1) := by decide +kernel
theorem n_85_18 : ∀ l, xpr 85 18 l = l := xpr_no (by decide +kernel)
theorem v_Law_bestOrder_0 {S : Option (Nat × (Nat → Int32))} {s : zSt} {Q : Option Value ⊕ Nat → zSt → Prop} {x1 : Int} {x2 : Int} 
    (h : wp S 86 0 [(0, rf 2), (1, iv x1), (2, iv x2)] [] s (fun o1 s1 => zkI (fun y1 => Q (rI 0) (zwL s1 275 0 (zi2l y1))) (fun e1 => (e1 = 2 ∧ Q (rI 1) s1)) o1)) :
    wp S 85 0 [(0, rf 2), (1, iv x1), (2, iv x2), (3, rf 275)] [] s Q := by
  refine i_aload_n (a := 275) r_85_0 (n_85_0 _) rfl ?_
  refine i_iconst r_85_1 (n_85_1 _) ?_
  refine i_aload_n (a := 2) r_85_2 (n_85_2 _) rfl ?_
  refine i_iload_n (x := x1) r_85_3 (n_85_3 _) rfl ?_
  refine i_iload_n (x := x2) r_85_4 (n_85_4 _) rfl ?_
  refine wp_virt (b := 2) (rest := [iv 0, rf 275]) (Ls := [(0, rf 2), (1, iv x1), (2, iv x2)]) r_85_5 (n_85_5 _) rfl ⟨rfl, rfl, by decide, by decide⟩ rfl rfl lf_2 ⟨rfl, Nat.le_of_ble_eq_true rfl, Nat.le_of_ble_eq_true rfl⟩ rfl h ?_
  intro o1 s1 h
  rcases h with ⟨y1, q2, rfl, h⟩ | ⟨e1, rfl, h⟩
  · refine .inl ⟨some (iv y1), rfl, ?_⟩
    show wp S 85 8 [(0, rf 2), (1, iv x1), (2, iv x2), (3, rf 275)] [iv y1, iv 0, rf 275] s1 Q
    refine i_i2l r_85_8 (n_85_8 _) ?_
    refine i_lastore (a := 275) (j := 0) r_85_9 (n_85_9 _) lf_275 ⟨by omega, by omega⟩ (by omega) (by omega) ?_
    refine i_goto (t := 17) r_85_10 (n_85_10 _) rfl ?_
    refine i_iconst r_85_17 (n_85_17 _) ?_
    exact i_ireturn r_85_18 (n_85_18 _) rfl h
  · skip
    rcases h with ⟨rfl, h⟩
    · refine .inr ⟨_, rfl, .inr ⟨_, _, 13, (15, [(0, rf 2), (1, iv x1), (2, iv x2), (3, rf 275)]), rfl, rfl, rfl, ?_⟩⟩
      refine i_iconst r_85_15 (n_85_15 _) ?_
      exact i_ireturn r_85_16 (n_85_16 _) rfl h
theorem r_87_0 : xfetch 87 0 = some (.aload_n 2, 1) := by decide +kernel
theorem n_87_0 : ∀ l, xpr 87 0 l = l := xpr_no (by decide +kernel)
theorem r_87_1 : xfetch 87 1 = some (.iconst 0, 1) := by decide +kernel
theorem n_87_1 : ∀ l, xpr 87 1 l = l := xpr_no (by decide +kernel)
theorem r_87_2 : xfetch 87 2 = some (.aload_n 0, 1) := by decide +kernel
theorem n_87_2 : ∀ l, xpr 87 2 l = l := xpr_no (by decide +kernel)
theorem r_87_3 : xfetch 87 3 = some (.iload_n 1, 1) := by decide +kernel
theorem n_87_3 : ∀ l, xpr 87 3 l = l := xpr_no (by decide +kernel)
theorem r_87_4 : xfetch 87 4 = some (.invokevirtual 46, 3) := by decide +kernel
theorem n_87_4 : ∀ l, xpr 87 4 l = l := xpr_no (by decide +kernel)
theorem r_87_7 : xfetch 87 7 = some (.i2l, 1) := by decide +kernel
theorem n_87_7 : ∀ l, xpr 87 7 l = l := xpr_no (by decide +kernel)
theorem r_87_8 : xfetch 87 8 = some (.lastore, 1) := by decide +kernel
theorem n_87_8 : ∀ l, xpr 87 8 l = l := xpr_no (by decide +kernel)
theorem r_87_9 : xfetch 87 9 = some (.goto 9, 3) := by decide +kernel
theorem n_87_9 : ∀ l, xpr 87 9 l = l := xpr_no (by decide +kernel)
theorem r_87_13 : xfetch 87 13 = some (.iconst 1, 1) := by decide +kernel
theorem n_87_13 : ∀ l, xpr 87 13 l = l := xpr_no (by decide +kernel)
theorem r_87_14 : xfetch 87 14 = some (.ireturn, 1) := by decide +kernel
theorem n_87_14 : ∀ l, xpr 87 14 l = l := xpr_no (by decide +kernel)
theorem r_87_16 : xfetch 87 16 = some (.iconst 2, 1) := by decide +kernel
theorem n_87_16 : ∀ l, xpr 87 16 l = l := xpr_no (by decide +kernel)
theorem r_87_17 : xfetch 87 17 = some (.ireturn, 1) := by decide +kernel
theorem n_87_17 : ∀ l, xpr 87 17 l = l := xpr_no (by decide +kernel)
theorem r_87_18 : xfetch 87 18 = some (.iconst 0, 1) := by decide +kernel
theorem n_87_18 : ∀ l, xpr 87 18 l = l := xpr_no (by decide +kernel)
theorem r_87_19 : xfetch 87 19 = some (.ireturn, 1) := by decide +kernel
theorem n_87_19 : ∀ l, xpr 87 19 l = l := xpr_no (by decide +kernel)
theorem v_Law_append_0 {S : Option (Nat × (Nat → Int32))} {s : zSt} {Q : Option Value ⊕ Nat → zSt → Prop} {x1 : Int} 
    (h : wp S 88 0 [(0, rf 2), (1, iv x1)] [] s (fun o1 s1 => zkI (fun y1 => Q (rI 0) (zwL s1 275 0 (zi2l y1))) (fun e1 => (e1 = 0 ∧ Q (rI 1) s1) ∨ (e1 = 1 ∧ Q (rI 2) s1)) o1)) :
    wp S 87 0 [(0, rf 2), (1, iv x1), (2, rf 275)] [] s Q := by
  refine i_aload_n (a := 275) r_87_0 (n_87_0 _) rfl ?_
  refine i_iconst r_87_1 (n_87_1 _) ?_
  refine i_aload_n (a := 2) r_87_2 (n_87_2 _) rfl ?_
  refine i_iload_n (x := x1) r_87_3 (n_87_3 _) rfl ?_
  refine wp_virt (b := 2) (rest := [iv 0, rf 275]) (Ls := [(0, rf 2), (1, iv x1)]) r_87_4 (n_87_4 _) rfl ⟨rfl, rfl, by decide, by decide⟩ rfl rfl lf_2 ⟨rfl, Nat.le_of_ble_eq_true rfl, Nat.le_of_ble_eq_true rfl⟩ rfl h ?_
  intro o1 s1 h
  rcases h with ⟨y1, q2, rfl, h⟩ | ⟨e1, rfl, h⟩
  · refine .inl ⟨some (iv y1), rfl, ?_⟩
    show wp S 87 7 [(0, rf 2), (1, iv x1), (2, rf 275)] [iv y1, iv 0, rf 275] s1 Q
    refine i_i2l r_87_7 (n_87_7 _) ?_
    refine i_lastore (a := 275) (j := 0) r_87_8 (n_87_8 _) lf_275 ⟨by omega, by omega⟩ (by omega) (by omega) ?_
    refine i_goto (t := 18) r_87_9 (n_87_9 _) rfl ?_
    refine i_iconst r_87_18 (n_87_18 _) ?_
    exact i_ireturn r_87_19 (n_87_19 _) rfl h
  · skip
    rcases h with ⟨rfl, h⟩ | ⟨rfl, h⟩
    · refine .inr ⟨_, rfl, .inr ⟨_, _, 12, (13, [(0, rf 2), (1, iv x1), (2, rf 275)]), rfl, rfl, rfl, ?_⟩⟩
      refine i_iconst r_87_13 (n_87_13 _) ?_
      exact i_ireturn r_87_14 (n_87_14 _) rfl h
    · refine .inr ⟨_, rfl, .inr ⟨_, _, 15, (16, [(0, rf 2), (1, iv x1), (2, rf 275)]), rfl, rfl, rfl, ?_⟩⟩
      refine i_iconst r_87_16 (n_87_16 _) ?_
      exact i_ireturn r_87_17 (n_87_17 _) rfl h
theorem r_90_0 : xfetch 90 0 = some (.aload_n 2, 1) := by decide +kernel
theorem n_90_0 : ∀ l, xpr 90 0 l = l := xpr_no (by decide +kernel)
theorem r_90_1 : xfetch 90 1 = some (.iconst 0, 1) := by decide +kernel
theorem n_90_1 : ∀ l, xpr 90 1 l = l := xpr_no (by decide +kernel)
theorem r_90_2 : xfetch 90 2 = some (.aload_n 0, 1) := by decide +kernel
theorem n_90_2 : ∀ l, xpr 90 2 l = l := xpr_no (by decide +kernel)
theorem r_90_3 : xfetch 90 3 = some (.iload_n 1, 1) := by decide +kernel
theorem n_90_3 : ∀ l, xpr 90 3 l = l := xpr_no (by decide +kernel)
theorem r_90_4 : xfetch 90 4 = some (.invokevirtual 49, 3) := by decide +kernel
theorem n_90_4 : ∀ l, xpr 90 4 l = l := xpr_no (by decide +kernel)
theorem r_90_7 : xfetch 90 7 = some (.i2l, 1) := by decide +kernel
theorem n_90_7 : ∀ l, xpr 90 7 l = l := xpr_no (by decide +kernel)
theorem r_90_8 : xfetch 90 8 = some (.lastore, 1) := by decide +kernel
theorem n_90_8 : ∀ l, xpr 90 8 l = l := xpr_no (by decide +kernel)
theorem r_90_9 : xfetch 90 9 = some (.goto 9, 3) := by decide +kernel
theorem n_90_9 : ∀ l, xpr 90 9 l = l := xpr_no (by decide +kernel)
theorem r_90_13 : xfetch 90 13 = some (.iconst 1, 1) := by decide +kernel
theorem n_90_13 : ∀ l, xpr 90 13 l = l := xpr_no (by decide +kernel)
theorem r_90_14 : xfetch 90 14 = some (.ireturn, 1) := by decide +kernel
theorem n_90_14 : ∀ l, xpr 90 14 l = l := xpr_no (by decide +kernel)
theorem r_90_16 : xfetch 90 16 = some (.iconst 2, 1) := by decide +kernel
theorem n_90_16 : ∀ l, xpr 90 16 l = l := xpr_no (by decide +kernel)
theorem r_90_17 : xfetch 90 17 = some (.ireturn, 1) := by decide +kernel
theorem n_90_17 : ∀ l, xpr 90 17 l = l := xpr_no (by decide +kernel)
theorem r_90_18 : xfetch 90 18 = some (.iconst 0, 1) := by decide +kernel
theorem n_90_18 : ∀ l, xpr 90 18 l = l := xpr_no (by decide +kernel)
theorem r_90_19 : xfetch 90 19 = some (.ireturn, 1) := by decide +kernel
theorem n_90_19 : ∀ l, xpr 90 19 l = l := xpr_no (by decide +kernel)
theorem v_Law_define_0 {S : Option (Nat × (Nat → Int32))} {s : zSt} {Q : Option Value ⊕ Nat → zSt → Prop} {x1 : Int} 
    (h : wp S 91 0 [(0, rf 2), (1, iv x1)] [] s (fun o1 s1 => zkI (fun y1 => Q (rI 0) (zwL s1 275 0 (zi2l y1))) (fun e1 => (e1 = 0 ∧ Q (rI 1) s1) ∨ (e1 = 1 ∧ Q (rI 2) s1)) o1)) :
    wp S 90 0 [(0, rf 2), (1, iv x1), (2, rf 275)] [] s Q := by
  refine i_aload_n (a := 275) r_90_0 (n_90_0 _) rfl ?_
  refine i_iconst r_90_1 (n_90_1 _) ?_
  refine i_aload_n (a := 2) r_90_2 (n_90_2 _) rfl ?_
  refine i_iload_n (x := x1) r_90_3 (n_90_3 _) rfl ?_
  refine wp_virt (b := 2) (rest := [iv 0, rf 275]) (Ls := [(0, rf 2), (1, iv x1)]) r_90_4 (n_90_4 _) rfl ⟨rfl, rfl, by decide, by decide⟩ rfl rfl lf_2 ⟨rfl, Nat.le_of_ble_eq_true rfl, Nat.le_of_ble_eq_true rfl⟩ rfl h ?_
  intro o1 s1 h
  rcases h with ⟨y1, q2, rfl, h⟩ | ⟨e1, rfl, h⟩
  · refine .inl ⟨some (iv y1), rfl, ?_⟩
    show wp S 90 7 [(0, rf 2), (1, iv x1), (2, rf 275)] [iv y1, iv 0, rf 275] s1 Q
    refine i_i2l r_90_7 (n_90_7 _) ?_
    refine i_lastore (a := 275) (j := 0) r_90_8 (n_90_8 _) lf_275 ⟨by omega, by omega⟩ (by omega) (by omega) ?_
    refine i_goto (t := 18) r_90_9 (n_90_9 _) rfl ?_
    refine i_iconst r_90_18 (n_90_18 _) ?_
    exact i_ireturn r_90_19 (n_90_19 _) rfl h
  · skip
    rcases h with ⟨rfl, h⟩ | ⟨rfl, h⟩
    · refine .inr ⟨_, rfl, .inr ⟨_, _, 12, (13, [(0, rf 2), (1, iv x1), (2, rf 275)]), rfl, rfl, rfl, ?_⟩⟩
      refine i_iconst r_90_13 (n_90_13 _) ?_
      exact i_ireturn r_90_14 (n_90_14 _) rfl h
    · refine .inr ⟨_, rfl, .inr ⟨_, _, 15, (16, [(0, rf 2), (1, iv x1), (2, rf 275)]), rfl, rfl, rfl, ?_⟩⟩
      refine i_iconst r_90_16 (n_90_16 _) ?_
      exact i_ireturn r_90_17 (n_90_17 _) rfl h
theorem r_101_0 : xfetch 101 0 = some (.aload 5, 2) := by decide +kernel
theorem n_101_0 : ∀ l, xpr 101 0 l = l := xpr_no (by decide +kernel)
theorem r_101_2 : xfetch 101 2 = some (.iconst 0, 1) := by decide +kernel
theorem n_101_2 : ∀ l, xpr 101 2 l = l := xpr_no (by decide +kernel)
theorem r_101_3 : xfetch 101 3 = some (.aload_n 0, 1) := by decide +kernel
theorem n_101_3 : ∀ l, xpr 101 3 l = l := xpr_no (by decide +kernel)
theorem r_101_4 : xfetch 101 4 = some (.iload_n 1, 1) := by decide +kernel
theorem n_101_4 : ∀ l, xpr 101 4 l = l := xpr_no (by decide +kernel)
theorem r_101_5 : xfetch 101 5 = some (.iload_n 2, 1) := by decide +kernel
theorem n_101_5 : ∀ l, xpr 101 5 l = l := xpr_no (by decide +kernel)
theorem r_101_6 : xfetch 101 6 = some (.iload_n 3, 1) := by decide +kernel
theorem n_101_6 : ∀ l, xpr 101 6 l = l := xpr_no (by decide +kernel)
theorem r_101_7 : xfetch 101 7 = some (.iload 4, 2) := by decide +kernel
theorem n_101_7 : ∀ l, xpr 101 7 l = l := xpr_no (by decide +kernel)
theorem r_101_9 : xfetch 101 9 = some (.invokevirtual 52, 3) := by decide +kernel
theorem n_101_9 : ∀ l, xpr 101 9 l = l := xpr_no (by decide +kernel)
theorem r_101_12 : xfetch 101 12 = some (.i2l, 1) := by decide +kernel
theorem n_101_12 : ∀ l, xpr 101 12 l = l := xpr_no (by decide +kernel)
theorem r_101_13 : xfetch 101 13 = some (.lastore, 1) := by decide +kernel
theorem n_101_13 : ∀ l, xpr 101 13 l = l := xpr_no (by decide +kernel)
theorem r_101_14 : xfetch 101 14 = some (.goto 15, 3) := by decide +kernel
theorem n_101_14 : ∀ l, xpr 101 14 l = l := xpr_no (by decide +kernel)
theorem r_101_19 : xfetch 101 19 = some (.iconst 1, 1) := by decide +kernel
theorem n_101_19 : ∀ l, xpr 101 19 l = l := xpr_no (by decide +kernel)
theorem r_101_20 : xfetch 101 20 = some (.ireturn, 1) := by decide +kernel
theorem n_101_20 : ∀ l, xpr 101 20 l = l := xpr_no (by decide +kernel)
theorem r_101_23 : xfetch 101 23 = some (.iconst 2, 1) := by decide +kernel
theorem n_101_23 : ∀ l, xpr 101 23 l = l := xpr_no (by decide +kernel)
theorem r_101_24 : xfetch 101 24 = some (.ireturn, 1) := by decide +kernel
theorem n_101_24 : ∀ l, xpr 101 24 l = l := xpr_no (by decide +kernel)
theorem r_101_27 : xfetch 101 27 = some (.iconst 3, 1) := by decide +kernel
theorem n_101_27 : ∀ l, xpr 101 27 l = l := xpr_no (by decide +kernel)
theorem r_101_28 : xfetch 101 28 = some (.ireturn, 1) := by decide +kernel
theorem n_101_28 : ∀ l, xpr 101 28 l = l := xpr_no (by decide +kernel)
theorem r_101_29 : xfetch 101 29 = some (.iconst 0, 1) := by decide +kernel
theorem n_101_29 : ∀ l, xpr 101 29 l = l := xpr_no (by decide +kernel)
theorem r_101_30 : xfetch 101 30 = some (.ireturn, 1) := by decide +kernel
theorem n_101_30 : ∀ l, xpr 101 30 l = l := xpr_no (by decide +kernel)
theorem v_Law_newTable_0 {S : Option (Nat × (Nat → Int32))} {s : zSt} {Q : Option Value ⊕ Nat → zSt → Prop} {x1 : Int} {x2 : Int} {x3 : Int} {x4 : Int} 
    (h : wp S 102 0 [(0, rf 2), (1, iv x1), (2, iv x2), (3, iv x3), (4, iv x4)] [] s (fun o1 s1 => zkI (fun y1 => Q (rI 0) (zwL s1 275 0 (zi2l y1))) (fun e1 => (e1 = 0 ∧ Q (rI 2) s1) ∨ (e1 = 1 ∧ Q (rI 3) s1) ∨ (e1 = 2 ∧ Q (rI 1) s1)) o1)) :
    wp S 101 0 [(0, rf 2), (1, iv x1), (2, iv x2), (3, iv x3), (4, iv x4), (5, rf 275)] [] s Q := by
  refine i_aload (a := 275) r_101_0 (n_101_0 _) rfl ?_
  refine i_iconst r_101_2 (n_101_2 _) ?_
  refine i_aload_n (a := 2) r_101_3 (n_101_3 _) rfl ?_
  refine i_iload_n (x := x1) r_101_4 (n_101_4 _) rfl ?_
  refine i_iload_n (x := x2) r_101_5 (n_101_5 _) rfl ?_
  refine i_iload_n (x := x3) r_101_6 (n_101_6 _) rfl ?_
  refine i_iload (x := x4) r_101_7 (n_101_7 _) rfl ?_
  refine wp_virt (b := 2) (rest := [iv 0, rf 275]) (Ls := [(0, rf 2), (1, iv x1), (2, iv x2), (3, iv x3), (4, iv x4)]) r_101_9 (n_101_9 _) rfl ⟨rfl, rfl, by decide, by decide⟩ rfl rfl lf_2 ⟨rfl, Nat.le_of_ble_eq_true rfl, Nat.le_of_ble_eq_true rfl⟩ rfl h ?_
  intro o1 s1 h
  rcases h with ⟨y1, q2, rfl, h⟩ | ⟨e1, rfl, h⟩
  · refine .inl ⟨some (iv y1), rfl, ?_⟩
    show wp S 101 12 [(0, rf 2), (1, iv x1), (2, iv x2), (3, iv x3), (4, iv x4), (5, rf 275)] [iv y1, iv 0, rf 275] s1 Q
    refine i_i2l r_101_12 (n_101_12 _) ?_
    refine i_lastore (a := 275) (j := 0) r_101_13 (n_101_13 _) lf_275 ⟨by omega, by omega⟩ (by omega) (by omega) ?_
    refine i_goto (t := 29) r_101_14 (n_101_14 _) rfl ?_
    refine i_iconst r_101_29 (n_101_29 _) ?_
    exact i_ireturn r_101_30 (n_101_30 _) rfl h
  · skip
    rcases h with ⟨rfl, h⟩ | ⟨rfl, h⟩ | ⟨rfl, h⟩
    · refine .inr ⟨_, rfl, .inr ⟨_, _, 21, (23, [(0, rf 2), (1, iv x1), (2, iv x2), (3, iv x3), (4, iv x4), (5, rf 275)]), rfl, rfl, rfl, ?_⟩⟩
      refine i_iconst r_101_23 (n_101_23 _) ?_
      exact i_ireturn r_101_24 (n_101_24 _) rfl h
    · refine .inr ⟨_, rfl, .inr ⟨_, _, 25, (27, [(0, rf 2), (1, iv x1), (2, iv x2), (3, iv x3), (4, iv x4), (5, rf 275)]), rfl, rfl, rfl, ?_⟩⟩
      refine i_iconst r_101_27 (n_101_27 _) ?_
      exact i_ireturn r_101_28 (n_101_28 _) rfl h
    · refine .inr ⟨_, rfl, .inr ⟨_, _, 17, (19, [(0, rf 2), (1, iv x1), (2, iv x2), (3, iv x3), (4, iv x4), (5, rf 275)]), rfl, rfl, rfl, ?_⟩⟩
      refine i_iconst r_101_19 (n_101_19 _) ?_
      exact i_ireturn r_101_20 (n_101_20 _) rfl h
theorem r_110_0 : xfetch 110 0 = some (.aload_n 2, 1) := by decide +kernel
theorem n_110_0 : ∀ l, xpr 110 0 l = l := xpr_no (by decide +kernel)
theorem r_110_1 : xfetch 110 1 = some (.iconst 0, 1) := by decide +kernel
theorem n_110_1 : ∀ l, xpr 110 1 l = l := xpr_no (by decide +kernel)
theorem r_110_2 : xfetch 110 2 = some (.aload_n 0, 1) := by decide +kernel
theorem n_110_2 : ∀ l, xpr 110 2 l = l := xpr_no (by decide +kernel)
theorem r_110_3 : xfetch 110 3 = some (.iload_n 1, 1) := by decide +kernel
theorem n_110_3 : ∀ l, xpr 110 3 l = l := xpr_no (by decide +kernel)
theorem r_110_4 : xfetch 110 4 = some (.invokevirtual 55, 3) := by decide +kernel
theorem n_110_4 : ∀ l, xpr 110 4 l = l := xpr_no (by decide +kernel)
theorem r_110_7 : xfetch 110 7 = some (.i2l, 1) := by decide +kernel
theorem n_110_7 : ∀ l, xpr 110 7 l = l := xpr_no (by decide +kernel)
theorem r_110_8 : xfetch 110 8 = some (.lastore, 1) := by decide +kernel
theorem n_110_8 : ∀ l, xpr 110 8 l = l := xpr_no (by decide +kernel)
theorem r_110_9 : xfetch 110 9 = some (.goto 6, 3) := by decide +kernel
theorem n_110_9 : ∀ l, xpr 110 9 l = l := xpr_no (by decide +kernel)
theorem r_110_13 : xfetch 110 13 = some (.iconst 1, 1) := by decide +kernel
theorem n_110_13 : ∀ l, xpr 110 13 l = l := xpr_no (by decide +kernel)
theorem r_110_14 : xfetch 110 14 = some (.ireturn, 1) := by decide +kernel
theorem n_110_14 : ∀ l, xpr 110 14 l = l := xpr_no (by decide +kernel)
theorem r_110_15 : xfetch 110 15 = some (.iconst 0, 1) := by decide +kernel
theorem n_110_15 : ∀ l, xpr 110 15 l = l := xpr_no (by decide +kernel)
theorem r_110_16 : xfetch 110 16 = some (.ireturn, 1) := by decide +kernel
theorem n_110_16 : ∀ l, xpr 110 16 l = l := xpr_no (by decide +kernel)
theorem v_Law_removeTable_0 {S : Option (Nat × (Nat → Int32))} {s : zSt} {Q : Option Value ⊕ Nat → zSt → Prop} {x1 : Int} 
    (h : wp S 111 0 [(0, rf 2), (1, iv x1)] [] s (fun o1 s1 => zkI (fun y1 => Q (rI 0) (zwL s1 275 0 (zi2l y1))) (fun e1 => (e1 = 2 ∧ Q (rI 1) s1)) o1)) :
    wp S 110 0 [(0, rf 2), (1, iv x1), (2, rf 275)] [] s Q := by
  refine i_aload_n (a := 275) r_110_0 (n_110_0 _) rfl ?_
  refine i_iconst r_110_1 (n_110_1 _) ?_
  refine i_aload_n (a := 2) r_110_2 (n_110_2 _) rfl ?_
  refine i_iload_n (x := x1) r_110_3 (n_110_3 _) rfl ?_
  refine wp_virt (b := 2) (rest := [iv 0, rf 275]) (Ls := [(0, rf 2), (1, iv x1)]) r_110_4 (n_110_4 _) rfl ⟨rfl, rfl, by decide, by decide⟩ rfl rfl lf_2 ⟨rfl, Nat.le_of_ble_eq_true rfl, Nat.le_of_ble_eq_true rfl⟩ rfl h ?_
  intro o1 s1 h
  rcases h with ⟨y1, q2, rfl, h⟩ | ⟨e1, rfl, h⟩
  · refine .inl ⟨some (iv y1), rfl, ?_⟩
    show wp S 110 7 [(0, rf 2), (1, iv x1), (2, rf 275)] [iv y1, iv 0, rf 275] s1 Q
    refine i_i2l r_110_7 (n_110_7 _) ?_
    refine i_lastore (a := 275) (j := 0) r_110_8 (n_110_8 _) lf_275 ⟨by omega, by omega⟩ (by omega) (by omega) ?_
    refine i_goto (t := 15) r_110_9 (n_110_9 _) rfl ?_
    refine i_iconst r_110_15 (n_110_15 _) ?_
    exact i_ireturn r_110_16 (n_110_16 _) rfl h
  · skip
    rcases h with ⟨rfl, h⟩
    · refine .inr ⟨_, rfl, .inr ⟨_, _, 12, (13, [(0, rf 2), (1, iv x1), (2, rf 275)]), rfl, rfl, rfl, ?_⟩⟩
      refine i_iconst r_110_13 (n_110_13 _) ?_
      exact i_ireturn r_110_14 (n_110_14 _) rfl h
theorem r_113_0 : xfetch 113 0 = some (.aload_n 3, 1) := by decide +kernel
theorem n_113_0 : ∀ l, xpr 113 0 l = l := xpr_no (by decide +kernel)
theorem r_113_1 : xfetch 113 1 = some (.iconst 0, 1) := by decide +kernel
theorem n_113_1 : ∀ l, xpr 113 1 l = l := xpr_no (by decide +kernel)
theorem r_113_2 : xfetch 113 2 = some (.aload_n 0, 1) := by decide +kernel
theorem n_113_2 : ∀ l, xpr 113 2 l = l := xpr_no (by decide +kernel)
theorem r_113_3 : xfetch 113 3 = some (.iload_n 1, 1) := by decide +kernel
theorem n_113_3 : ∀ l, xpr 113 3 l = l := xpr_no (by decide +kernel)
theorem r_113_4 : xfetch 113 4 = some (.iload_n 2, 1) := by decide +kernel
theorem n_113_4 : ∀ l, xpr 113 4 l = l := xpr_no (by decide +kernel)
theorem r_113_5 : xfetch 113 5 = some (.invokevirtual 58, 3) := by decide +kernel
theorem n_113_5 : ∀ l, xpr 113 5 l = l := xpr_no (by decide +kernel)
theorem r_113_8 : xfetch 113 8 = some (.i2l, 1) := by decide +kernel
theorem n_113_8 : ∀ l, xpr 113 8 l = l := xpr_no (by decide +kernel)
theorem r_113_9 : xfetch 113 9 = some (.lastore, 1) := by decide +kernel
theorem n_113_9 : ∀ l, xpr 113 9 l = l := xpr_no (by decide +kernel)
theorem r_113_10 : xfetch 113 10 = some (.goto 11, 3) := by decide +kernel
theorem n_113_10 : ∀ l, xpr 113 10 l = l := xpr_no (by decide +kernel)
theorem r_113_15 : xfetch 113 15 = some (.iconst 1, 1) := by decide +kernel
theorem n_113_15 : ∀ l, xpr 113 15 l = l := xpr_no (by decide +kernel)
theorem r_113_16 : xfetch 113 16 = some (.ireturn, 1) := by decide +kernel
theorem n_113_16 : ∀ l, xpr 113 16 l = l := xpr_no (by decide +kernel)
theorem r_113_19 : xfetch 113 19 = some (.iconst 2, 1) := by decide +kernel
theorem n_113_19 : ∀ l, xpr 113 19 l = l := xpr_no (by decide +kernel)
theorem r_113_20 : xfetch 113 20 = some (.ireturn, 1) := by decide +kernel
theorem n_113_20 : ∀ l, xpr 113 20 l = l := xpr_no (by decide +kernel)
theorem r_113_21 : xfetch 113 21 = some (.iconst 0, 1) := by decide +kernel
theorem n_113_21 : ∀ l, xpr 113 21 l = l := xpr_no (by decide +kernel)
theorem r_113_22 : xfetch 113 22 = some (.ireturn, 1) := by decide +kernel
theorem n_113_22 : ∀ l, xpr 113 22 l = l := xpr_no (by decide +kernel)
theorem v_Law_tableInfo_0 {S : Option (Nat × (Nat → Int32))} {s : zSt} {Q : Option Value ⊕ Nat → zSt → Prop} {x1 : Int} {x2 : Int} 
    (h : wp S 114 0 [(0, rf 2), (1, iv x1), (2, iv x2)] [] s (fun o1 s1 => zkI (fun y1 => Q (rI 0) (zwL s1 275 0 (zi2l y1))) (fun e1 => (e1 = 0 ∧ Q (rI 2) s1) ∨ (e1 = 2 ∧ Q (rI 1) s1)) o1)) :
    wp S 113 0 [(0, rf 2), (1, iv x1), (2, iv x2), (3, rf 275)] [] s Q := by
  refine i_aload_n (a := 275) r_113_0 (n_113_0 _) rfl ?_
  refine i_iconst r_113_1 (n_113_1 _) ?_
  refine i_aload_n (a := 2) r_113_2 (n_113_2 _) rfl ?_
  refine i_iload_n (x := x1) r_113_3 (n_113_3 _) rfl ?_
  refine i_iload_n (x := x2) r_113_4 (n_113_4 _) rfl ?_
  refine wp_virt (b := 2) (rest := [iv 0, rf 275]) (Ls := [(0, rf 2), (1, iv x1), (2, iv x2)]) r_113_5 (n_113_5 _) rfl ⟨rfl, rfl, by decide, by decide⟩ rfl rfl lf_2 ⟨rfl, Nat.le_of_ble_eq_true rfl, Nat.le_of_ble_eq_true rfl⟩ rfl h ?_
  intro o1 s1 h
  rcases h with ⟨y1, q2, rfl, h⟩ | ⟨e1, rfl, h⟩
  · refine .inl ⟨some (iv y1), rfl, ?_⟩
    show wp S 113 8 [(0, rf 2), (1, iv x1), (2, iv x2), (3, rf 275)] [iv y1, iv 0, rf 275] s1 Q
    refine i_i2l r_113_8 (n_113_8 _) ?_
    refine i_lastore (a := 275) (j := 0) r_113_9 (n_113_9 _) lf_275 ⟨by omega, by omega⟩ (by omega) (by omega) ?_
    refine i_goto (t := 21) r_113_10 (n_113_10 _) rfl ?_
    refine i_iconst r_113_21 (n_113_21 _) ?_
    exact i_ireturn r_113_22 (n_113_22 _) rfl h
  · skip
    rcases h with ⟨rfl, h⟩ | ⟨rfl, h⟩
    · refine .inr ⟨_, rfl, .inr ⟨_, _, 17, (19, [(0, rf 2), (1, iv x1), (2, iv x2), (3, rf 275)]), rfl, rfl, rfl, ?_⟩⟩
      refine i_iconst r_113_19 (n_113_19 _) ?_
      exact i_ireturn r_113_20 (n_113_20 _) rfl h
    · refine .inr ⟨_, rfl, .inr ⟨_, _, 13, (15, [(0, rf 2), (1, iv x1), (2, iv x2), (3, rf 275)]), rfl, rfl, rfl, ?_⟩⟩
      refine i_iconst r_113_15 (n_113_15 _) ?_
      exact i_ireturn r_113_16 (n_113_16 _) rfl h
theorem r_115_0 : xfetch 115 0 = some (.aload 4, 2) := by decide +kernel
theorem n_115_0 : ∀ l, xpr 115 0 l = l := xpr_no (by decide +kernel)
theorem r_115_2 : xfetch 115 2 = some (.iconst 0, 1) := by decide +kernel
theorem n_115_2 : ∀ l, xpr 115 2 l = l := xpr_no (by decide +kernel)
theorem r_115_3 : xfetch 115 3 = some (.aload_n 0, 1) := by decide +kernel
theorem n_115_3 : ∀ l, xpr 115 3 l = l := xpr_no (by decide +kernel)
theorem r_115_4 : xfetch 115 4 = some (.iload_n 1, 1) := by decide +kernel
theorem n_115_4 : ∀ l, xpr 115 4 l = l := xpr_no (by decide +kernel)
theorem r_115_5 : xfetch 115 5 = some (.iload_n 2, 1) := by decide +kernel
theorem n_115_5 : ∀ l, xpr 115 5 l = l := xpr_no (by decide +kernel)
theorem r_115_6 : xfetch 115 6 = some (.iload_n 3, 1) := by decide +kernel
theorem n_115_6 : ∀ l, xpr 115 6 l = l := xpr_no (by decide +kernel)
theorem r_115_7 : xfetch 115 7 = some (.invokevirtual 61, 3) := by decide +kernel
theorem n_115_7 : ∀ l, xpr 115 7 l = l := xpr_no (by decide +kernel)
theorem r_115_10 : xfetch 115 10 = some (.i2l, 1) := by decide +kernel
theorem n_115_10 : ∀ l, xpr 115 10 l = l := xpr_no (by decide +kernel)
theorem r_115_11 : xfetch 115 11 = some (.lastore, 1) := by decide +kernel
theorem n_115_11 : ∀ l, xpr 115 11 l = l := xpr_no (by decide +kernel)
theorem r_115_12 : xfetch 115 12 = some (.goto 7, 3) := by decide +kernel
theorem n_115_12 : ∀ l, xpr 115 12 l = l := xpr_no (by decide +kernel)
theorem r_115_17 : xfetch 115 17 = some (.iconst 1, 1) := by decide +kernel
theorem n_115_17 : ∀ l, xpr 115 17 l = l := xpr_no (by decide +kernel)
theorem r_115_18 : xfetch 115 18 = some (.ireturn, 1) := by decide +kernel
theorem n_115_18 : ∀ l, xpr 115 18 l = l := xpr_no (by decide +kernel)
theorem r_115_19 : xfetch 115 19 = some (.iconst 0, 1) := by decide +kernel
theorem n_115_19 : ∀ l, xpr 115 19 l = l := xpr_no (by decide +kernel)
theorem r_115_20 : xfetch 115 20 = some (.ireturn, 1) := by decide +kernel
theorem n_115_20 : ∀ l, xpr 115 20 l = l := xpr_no (by decide +kernel)
theorem v_Law_address_0 {S : Option (Nat × (Nat → Int32))} {s : zSt} {Q : Option Value ⊕ Nat → zSt → Prop} {x1 : Int} {x2 : Int} {x3 : Int} 
    (h : wp S 116 0 [(0, rf 2), (1, iv x1), (2, iv x2), (3, iv x3)] [] s (fun o1 s1 => zkI (fun y1 => Q (rI 0) (zwL s1 275 0 (zi2l y1))) (fun e1 => (e1 = 2 ∧ Q (rI 1) s1)) o1)) :
    wp S 115 0 [(0, rf 2), (1, iv x1), (2, iv x2), (3, iv x3), (4, rf 275)] [] s Q := by
  refine i_aload (a := 275) r_115_0 (n_115_0 _) rfl ?_
  refine i_iconst r_115_2 (n_115_2 _) ?_
  refine i_aload_n (a := 2) r_115_3 (n_115_3 _) rfl ?_
  refine i_iload_n (x := x1) r_115_4 (n_115_4 _) rfl ?_
  refine i_iload_n (x := x2) r_115_5 (n_115_5 _) rfl ?_
  refine i_iload_n (x := x3) r_115_6 (n_115_6 _) rfl ?_
  refine wp_virt (b := 2) (rest := [iv 0, rf 275]) (Ls := [(0, rf 2), (1, iv x1), (2, iv x2), (3, iv x3)]) r_115_7 (n_115_7 _) rfl ⟨rfl, rfl, by decide, by decide⟩ rfl rfl lf_2 ⟨rfl, Nat.le_of_ble_eq_true rfl, Nat.le_of_ble_eq_true rfl⟩ rfl h ?_
  intro o1 s1 h
  rcases h with ⟨y1, q2, rfl, h⟩ | ⟨e1, rfl, h⟩
  · refine .inl ⟨some (iv y1), rfl, ?_⟩
    show wp S 115 10 [(0, rf 2), (1, iv x1), (2, iv x2), (3, iv x3), (4, rf 275)] [iv y1, iv 0, rf 275] s1 Q
    refine i_i2l r_115_10 (n_115_10 _) ?_
    refine i_lastore (a := 275) (j := 0) r_115_11 (n_115_11 _) lf_275 ⟨by omega, by omega⟩ (by omega) (by omega) ?_
    refine i_goto (t := 19) r_115_12 (n_115_12 _) rfl ?_
    refine i_iconst r_115_19 (n_115_19 _) ?_
    exact i_ireturn r_115_20 (n_115_20 _) rfl h
  · skip
    rcases h with ⟨rfl, h⟩
    · refine .inr ⟨_, rfl, .inr ⟨_, _, 15, (17, [(0, rf 2), (1, iv x1), (2, iv x2), (3, iv x3), (4, rf 275)]), rfl, rfl, rfl, ?_⟩⟩
      refine i_iconst r_115_17 (n_115_17 _) ?_
      exact i_ireturn r_115_18 (n_115_18 _) rfl h
theorem r_124_0 : xfetch 124 0 = some (.aload 4, 2) := by decide +kernel
theorem n_124_0 : ∀ l, xpr 124 0 l = l := xpr_no (by decide +kernel)
theorem r_124_2 : xfetch 124 2 = some (.iconst 0, 1) := by decide +kernel
theorem n_124_2 : ∀ l, xpr 124 2 l = l := xpr_no (by decide +kernel)
theorem r_124_3 : xfetch 124 3 = some (.aload_n 0, 1) := by decide +kernel
theorem n_124_3 : ∀ l, xpr 124 3 l = l := xpr_no (by decide +kernel)
theorem r_124_4 : xfetch 124 4 = some (.iload_n 1, 1) := by decide +kernel
theorem n_124_4 : ∀ l, xpr 124 4 l = l := xpr_no (by decide +kernel)
theorem r_124_5 : xfetch 124 5 = some (.iload_n 2, 1) := by decide +kernel
theorem n_124_5 : ∀ l, xpr 124 5 l = l := xpr_no (by decide +kernel)
theorem r_124_6 : xfetch 124 6 = some (.iload_n 3, 1) := by decide +kernel
theorem n_124_6 : ∀ l, xpr 124 6 l = l := xpr_no (by decide +kernel)
theorem r_124_7 : xfetch 124 7 = some (.invokevirtual 64, 3) := by decide +kernel
theorem n_124_7 : ∀ l, xpr 124 7 l = l := xpr_no (by decide +kernel)
theorem r_124_10 : xfetch 124 10 = some (.lastore, 1) := by decide +kernel
theorem n_124_10 : ∀ l, xpr 124 10 l = l := xpr_no (by decide +kernel)
theorem r_124_11 : xfetch 124 11 = some (.goto 7, 3) := by decide +kernel
theorem n_124_11 : ∀ l, xpr 124 11 l = l := xpr_no (by decide +kernel)
theorem r_124_16 : xfetch 124 16 = some (.iconst 1, 1) := by decide +kernel
theorem n_124_16 : ∀ l, xpr 124 16 l = l := xpr_no (by decide +kernel)
theorem r_124_17 : xfetch 124 17 = some (.ireturn, 1) := by decide +kernel
theorem n_124_17 : ∀ l, xpr 124 17 l = l := xpr_no (by decide +kernel)
theorem r_124_18 : xfetch 124 18 = some (.iconst 0, 1) := by decide +kernel
theorem n_124_18 : ∀ l, xpr 124 18 l = l := xpr_no (by decide +kernel)
theorem r_124_19 : xfetch 124 19 = some (.ireturn, 1) := by decide +kernel
theorem n_124_19 : ∀ l, xpr 124 19 l = l := xpr_no (by decide +kernel)
theorem v_Law_get_0 {S : Option (Nat × (Nat → Int32))} {s : zSt} {Q : Option Value ⊕ Nat → zSt → Prop} {x1 : Int} {x2 : Int} {x3 : Int} 
    (h : wp S 125 0 [(0, rf 2), (1, iv x1), (2, iv x2), (3, iv x3)] [] s (fun o1 s1 => zkL (fun y1 => Q (rI 0) (zwL s1 275 0 y1)) (fun e1 => (e1 = 2 ∧ Q (rI 1) s1)) o1)) :
    wp S 124 0 [(0, rf 2), (1, iv x1), (2, iv x2), (3, iv x3), (4, rf 275)] [] s Q := by
  refine i_aload (a := 275) r_124_0 (n_124_0 _) rfl ?_
  refine i_iconst r_124_2 (n_124_2 _) ?_
  refine i_aload_n (a := 2) r_124_3 (n_124_3 _) rfl ?_
  refine i_iload_n (x := x1) r_124_4 (n_124_4 _) rfl ?_
  refine i_iload_n (x := x2) r_124_5 (n_124_5 _) rfl ?_
  refine i_iload_n (x := x3) r_124_6 (n_124_6 _) rfl ?_
  refine wp_virt (b := 2) (rest := [iv 0, rf 275]) (Ls := [(0, rf 2), (1, iv x1), (2, iv x2), (3, iv x3)]) r_124_7 (n_124_7 _) rfl ⟨rfl, rfl, by decide, by decide⟩ rfl rfl lf_2 ⟨rfl, Nat.le_of_ble_eq_true rfl, Nat.le_of_ble_eq_true rfl⟩ rfl h ?_
  intro o1 s1 h
  rcases h with ⟨y1, rfl, h⟩ | ⟨e1, rfl, h⟩
  · refine .inl ⟨some (.long y1), rfl, ?_⟩
    show wp S 124 10 [(0, rf 2), (1, iv x1), (2, iv x2), (3, iv x3), (4, rf 275)] [.long y1, iv 0, rf 275] s1 Q
    refine i_lastore (a := 275) (j := 0) r_124_10 (n_124_10 _) lf_275 ⟨by omega, by omega⟩ (by omega) (by omega) ?_
    refine i_goto (t := 18) r_124_11 (n_124_11 _) rfl ?_
    refine i_iconst r_124_18 (n_124_18 _) ?_
    exact i_ireturn r_124_19 (n_124_19 _) rfl h
  · skip
    rcases h with ⟨rfl, h⟩
    · refine .inr ⟨_, rfl, .inr ⟨_, _, 14, (16, [(0, rf 2), (1, iv x1), (2, iv x2), (3, iv x3), (4, rf 275)]), rfl, rfl, rfl, ?_⟩⟩
      refine i_iconst r_124_16 (n_124_16 _) ?_
      exact i_ireturn r_124_17 (n_124_17 _) rfl h
theorem r_129_0 : xfetch 129 0 = some (.aload 6, 2) := by decide +kernel
theorem n_129_0 : ∀ l, xpr 129 0 l = l := xpr_no (by decide +kernel)
theorem r_129_2 : xfetch 129 2 = some (.iconst 0, 1) := by decide +kernel
theorem n_129_2 : ∀ l, xpr 129 2 l = l := xpr_no (by decide +kernel)
theorem r_129_3 : xfetch 129 3 = some (.aload_n 0, 1) := by decide +kernel
theorem n_129_3 : ∀ l, xpr 129 3 l = l := xpr_no (by decide +kernel)
theorem r_129_4 : xfetch 129 4 = some (.iload_n 1, 1) := by decide +kernel
theorem n_129_4 : ∀ l, xpr 129 4 l = l := xpr_no (by decide +kernel)
theorem r_129_5 : xfetch 129 5 = some (.iload_n 2, 1) := by decide +kernel
theorem n_129_5 : ∀ l, xpr 129 5 l = l := xpr_no (by decide +kernel)
theorem r_129_6 : xfetch 129 6 = some (.iload_n 3, 1) := by decide +kernel
theorem n_129_6 : ∀ l, xpr 129 6 l = l := xpr_no (by decide +kernel)
theorem r_129_7 : xfetch 129 7 = some (.lload 4, 2) := by decide +kernel
theorem n_129_7 : ∀ l, xpr 129 7 l = l := xpr_no (by decide +kernel)
theorem r_129_9 : xfetch 129 9 = some (.invokevirtual 68, 3) := by decide +kernel
theorem n_129_9 : ∀ l, xpr 129 9 l = l := xpr_no (by decide +kernel)
theorem r_129_12 : xfetch 129 12 = some (.lastore, 1) := by decide +kernel
theorem n_129_12 : ∀ l, xpr 129 12 l = l := xpr_no (by decide +kernel)
theorem r_129_13 : xfetch 129 13 = some (.goto 7, 3) := by decide +kernel
theorem n_129_13 : ∀ l, xpr 129 13 l = l := xpr_no (by decide +kernel)
theorem r_129_18 : xfetch 129 18 = some (.iconst 1, 1) := by decide +kernel
theorem n_129_18 : ∀ l, xpr 129 18 l = l := xpr_no (by decide +kernel)
theorem r_129_19 : xfetch 129 19 = some (.ireturn, 1) := by decide +kernel
theorem n_129_19 : ∀ l, xpr 129 19 l = l := xpr_no (by decide +kernel)
theorem r_129_20 : xfetch 129 20 = some (.iconst 0, 1) := by decide +kernel
theorem n_129_20 : ∀ l, xpr 129 20 l = l := xpr_no (by decide +kernel)
theorem r_129_21 : xfetch 129 21 = some (.ireturn, 1) := by decide +kernel
theorem n_129_21 : ∀ l, xpr 129 21 l = l := xpr_no (by decide +kernel)
theorem v_Law_set_0 {S : Option (Nat × (Nat → Int32))} {s : zSt} {Q : Option Value ⊕ Nat → zSt → Prop} {x1 : Int} {x2 : Int} {x3 : Int} {u4 : Int64} 
    (h : wp S 130 0 [(0, rf 2), (1, iv x1), (2, iv x2), (3, iv x3), (4, .long u4)] [] s (fun o1 s1 => zkL (fun y1 => Q (rI 0) (zwL s1 275 0 y1)) (fun e1 => (e1 = 2 ∧ Q (rI 1) s1)) o1)) :
    wp S 129 0 [(0, rf 2), (1, iv x1), (2, iv x2), (3, iv x3), (4, .long u4), (6, rf 275)] [] s Q := by
  refine i_aload (a := 275) r_129_0 (n_129_0 _) rfl ?_
  refine i_iconst r_129_2 (n_129_2 _) ?_
  refine i_aload_n (a := 2) r_129_3 (n_129_3 _) rfl ?_
  refine i_iload_n (x := x1) r_129_4 (n_129_4 _) rfl ?_
  refine i_iload_n (x := x2) r_129_5 (n_129_5 _) rfl ?_
  refine i_iload_n (x := x3) r_129_6 (n_129_6 _) rfl ?_
  refine i_lload (u := u4) r_129_7 (n_129_7 _) rfl ?_
  refine wp_virt (b := 2) (rest := [iv 0, rf 275]) (Ls := [(0, rf 2), (1, iv x1), (2, iv x2), (3, iv x3), (4, .long u4)]) r_129_9 (n_129_9 _) rfl ⟨rfl, rfl, by decide, by decide⟩ rfl rfl lf_2 ⟨rfl, Nat.le_of_ble_eq_true rfl, Nat.le_of_ble_eq_true rfl⟩ rfl h ?_
  intro o1 s1 h
  rcases h with ⟨y1, rfl, h⟩ | ⟨e1, rfl, h⟩
  · refine .inl ⟨some (.long y1), rfl, ?_⟩
    show wp S 129 12 [(0, rf 2), (1, iv x1), (2, iv x2), (3, iv x3), (4, .long u4), (6, rf 275)] [.long y1, iv 0, rf 275] s1 Q
    refine i_lastore (a := 275) (j := 0) r_129_12 (n_129_12 _) lf_275 ⟨by omega, by omega⟩ (by omega) (by omega) ?_
    refine i_goto (t := 20) r_129_13 (n_129_13 _) rfl ?_
    refine i_iconst r_129_20 (n_129_20 _) ?_
    exact i_ireturn r_129_21 (n_129_21 _) rfl h
  · skip
    rcases h with ⟨rfl, h⟩
    · refine .inr ⟨_, rfl, .inr ⟨_, _, 16, (18, [(0, rf 2), (1, iv x1), (2, iv x2), (3, iv x3), (4, .long u4), (6, rf 275)]), rfl, rfl, rfl, ?_⟩⟩
      refine i_iconst r_129_18 (n_129_18 _) ?_
      exact i_ireturn r_129_19 (n_129_19 _) rfl h
theorem r_133_0 : xfetch 133 0 = some (.aload_n 2, 1) := by decide +kernel
theorem n_133_0 : ∀ l, xpr 133 0 l = l := xpr_no (by decide +kernel)
theorem r_133_1 : xfetch 133 1 = some (.iconst 0, 1) := by decide +kernel
theorem n_133_1 : ∀ l, xpr 133 1 l = l := xpr_no (by decide +kernel)
theorem r_133_2 : xfetch 133 2 = some (.aload_n 0, 1) := by decide +kernel
theorem n_133_2 : ∀ l, xpr 133 2 l = l := xpr_no (by decide +kernel)
theorem r_133_3 : xfetch 133 3 = some (.iload_n 1, 1) := by decide +kernel
theorem n_133_3 : ∀ l, xpr 133 3 l = l := xpr_no (by decide +kernel)
theorem r_133_4 : xfetch 133 4 = some (.invokevirtual 72, 3) := by decide +kernel
theorem n_133_4 : ∀ l, xpr 133 4 l = l := xpr_no (by decide +kernel)
theorem r_133_7 : xfetch 133 7 = some (.i2l, 1) := by decide +kernel
theorem n_133_7 : ∀ l, xpr 133 7 l = l := xpr_no (by decide +kernel)
theorem r_133_8 : xfetch 133 8 = some (.lastore, 1) := by decide +kernel
theorem n_133_8 : ∀ l, xpr 133 8 l = l := xpr_no (by decide +kernel)
theorem r_133_9 : xfetch 133 9 = some (.goto 6, 3) := by decide +kernel
theorem n_133_9 : ∀ l, xpr 133 9 l = l := xpr_no (by decide +kernel)
theorem r_133_13 : xfetch 133 13 = some (.iconst 1, 1) := by decide +kernel
theorem n_133_13 : ∀ l, xpr 133 13 l = l := xpr_no (by decide +kernel)
theorem r_133_14 : xfetch 133 14 = some (.ireturn, 1) := by decide +kernel
theorem n_133_14 : ∀ l, xpr 133 14 l = l := xpr_no (by decide +kernel)
theorem r_133_15 : xfetch 133 15 = some (.iconst 0, 1) := by decide +kernel
theorem n_133_15 : ∀ l, xpr 133 15 l = l := xpr_no (by decide +kernel)
theorem r_133_16 : xfetch 133 16 = some (.ireturn, 1) := by decide +kernel
theorem n_133_16 : ∀ l, xpr 133 16 l = l := xpr_no (by decide +kernel)
theorem v_Law_memory_0 {S : Option (Nat × (Nat → Int32))} {s : zSt} {Q : Option Value ⊕ Nat → zSt → Prop} {x1 : Int} 
    (h : wp S 134 0 [(0, rf 2), (1, iv x1)] [] s (fun o1 s1 => zkI (fun y1 => Q (rI 0) (zwL s1 275 0 (zi2l y1))) (fun e1 => (e1 = 2 ∧ Q (rI 1) s1)) o1)) :
    wp S 133 0 [(0, rf 2), (1, iv x1), (2, rf 275)] [] s Q := by
  refine i_aload_n (a := 275) r_133_0 (n_133_0 _) rfl ?_
  refine i_iconst r_133_1 (n_133_1 _) ?_
  refine i_aload_n (a := 2) r_133_2 (n_133_2 _) rfl ?_
  refine i_iload_n (x := x1) r_133_3 (n_133_3 _) rfl ?_
  refine wp_virt (b := 2) (rest := [iv 0, rf 275]) (Ls := [(0, rf 2), (1, iv x1)]) r_133_4 (n_133_4 _) rfl ⟨rfl, rfl, by decide, by decide⟩ rfl rfl lf_2 ⟨rfl, Nat.le_of_ble_eq_true rfl, Nat.le_of_ble_eq_true rfl⟩ rfl h ?_
  intro o1 s1 h
  rcases h with ⟨y1, q2, rfl, h⟩ | ⟨e1, rfl, h⟩
  · refine .inl ⟨some (iv y1), rfl, ?_⟩
    show wp S 133 7 [(0, rf 2), (1, iv x1), (2, rf 275)] [iv y1, iv 0, rf 275] s1 Q
    refine i_i2l r_133_7 (n_133_7 _) ?_
    refine i_lastore (a := 275) (j := 0) r_133_8 (n_133_8 _) lf_275 ⟨by omega, by omega⟩ (by omega) (by omega) ?_
    refine i_goto (t := 15) r_133_9 (n_133_9 _) rfl ?_
    refine i_iconst r_133_15 (n_133_15 _) ?_
    exact i_ireturn r_133_16 (n_133_16 _) rfl h
  · skip
    rcases h with ⟨rfl, h⟩
    · refine .inr ⟨_, rfl, .inr ⟨_, _, 12, (13, [(0, rf 2), (1, iv x1), (2, rf 275)]), rfl, rfl, rfl, ?_⟩⟩
      refine i_iconst r_133_13 (n_133_13 _) ?_
      exact i_ireturn r_133_14 (n_133_14 _) rfl h
theorem r_136_0 : xfetch 136 0 = some (.aload_n 3, 1) := by decide +kernel
theorem n_136_0 : ∀ l, xpr 136 0 l = l := xpr_no (by decide +kernel)
theorem r_136_1 : xfetch 136 1 = some (.iconst 0, 1) := by decide +kernel
theorem n_136_1 : ∀ l, xpr 136 1 l = l := xpr_no (by decide +kernel)
theorem r_136_2 : xfetch 136 2 = some (.aload_n 0, 1) := by decide +kernel
theorem n_136_2 : ∀ l, xpr 136 2 l = l := xpr_no (by decide +kernel)
theorem r_136_3 : xfetch 136 3 = some (.iload_n 1, 1) := by decide +kernel
theorem n_136_3 : ∀ l, xpr 136 3 l = l := xpr_no (by decide +kernel)
theorem r_136_4 : xfetch 136 4 = some (.iload_n 2, 1) := by decide +kernel
theorem n_136_4 : ∀ l, xpr 136 4 l = l := xpr_no (by decide +kernel)
theorem r_136_5 : xfetch 136 5 = some (.invokevirtual 75, 3) := by decide +kernel
theorem n_136_5 : ∀ l, xpr 136 5 l = l := xpr_no (by decide +kernel)
theorem r_136_8 : xfetch 136 8 = some (.i2l, 1) := by decide +kernel
theorem n_136_8 : ∀ l, xpr 136 8 l = l := xpr_no (by decide +kernel)
theorem r_136_9 : xfetch 136 9 = some (.lastore, 1) := by decide +kernel
theorem n_136_9 : ∀ l, xpr 136 9 l = l := xpr_no (by decide +kernel)
theorem r_136_10 : xfetch 136 10 = some (.goto 11, 3) := by decide +kernel
theorem n_136_10 : ∀ l, xpr 136 10 l = l := xpr_no (by decide +kernel)
theorem r_136_15 : xfetch 136 15 = some (.iconst 1, 1) := by decide +kernel
theorem n_136_15 : ∀ l, xpr 136 15 l = l := xpr_no (by decide +kernel)
theorem r_136_16 : xfetch 136 16 = some (.ireturn, 1) := by decide +kernel
theorem n_136_16 : ∀ l, xpr 136 16 l = l := xpr_no (by decide +kernel)
theorem r_136_19 : xfetch 136 19 = some (.iconst 2, 1) := by decide +kernel
theorem n_136_19 : ∀ l, xpr 136 19 l = l := xpr_no (by decide +kernel)
theorem r_136_20 : xfetch 136 20 = some (.ireturn, 1) := by decide +kernel
theorem n_136_20 : ∀ l, xpr 136 20 l = l := xpr_no (by decide +kernel)
theorem r_136_21 : xfetch 136 21 = some (.iconst 0, 1) := by decide +kernel
theorem n_136_21 : ∀ l, xpr 136 21 l = l := xpr_no (by decide +kernel)
theorem r_136_22 : xfetch 136 22 = some (.ireturn, 1) := by decide +kernel
theorem n_136_22 : ∀ l, xpr 136 22 l = l := xpr_no (by decide +kernel)
theorem v_Law_poke_0 {S : Option (Nat × (Nat → Int32))} {s : zSt} {Q : Option Value ⊕ Nat → zSt → Prop} {x1 : Int} {x2 : Int} 
    (h : wp S 137 0 [(0, rf 2), (1, iv x1), (2, iv x2)] [] s (fun o1 s1 => zkI (fun y1 => Q (rI 0) (zwL s1 275 0 (zi2l y1))) (fun e1 => (e1 = 0 ∧ Q (rI 2) s1) ∨ (e1 = 2 ∧ Q (rI 1) s1)) o1)) :
    wp S 136 0 [(0, rf 2), (1, iv x1), (2, iv x2), (3, rf 275)] [] s Q := by
  refine i_aload_n (a := 275) r_136_0 (n_136_0 _) rfl ?_
  refine i_iconst r_136_1 (n_136_1 _) ?_
  refine i_aload_n (a := 2) r_136_2 (n_136_2 _) rfl ?_
  refine i_iload_n (x := x1) r_136_3 (n_136_3 _) rfl ?_
  refine i_iload_n (x := x2) r_136_4 (n_136_4 _) rfl ?_
  refine wp_virt (b := 2) (rest := [iv 0, rf 275]) (Ls := [(0, rf 2), (1, iv x1), (2, iv x2)]) r_136_5 (n_136_5 _) rfl ⟨rfl, rfl, by decide, by decide⟩ rfl rfl lf_2 ⟨rfl, Nat.le_of_ble_eq_true rfl, Nat.le_of_ble_eq_true rfl⟩ rfl h ?_
  intro o1 s1 h
  rcases h with ⟨y1, q2, rfl, h⟩ | ⟨e1, rfl, h⟩
  · refine .inl ⟨some (iv y1), rfl, ?_⟩
    show wp S 136 8 [(0, rf 2), (1, iv x1), (2, iv x2), (3, rf 275)] [iv y1, iv 0, rf 275] s1 Q
    refine i_i2l r_136_8 (n_136_8 _) ?_
    refine i_lastore (a := 275) (j := 0) r_136_9 (n_136_9 _) lf_275 ⟨by omega, by omega⟩ (by omega) (by omega) ?_
    refine i_goto (t := 21) r_136_10 (n_136_10 _) rfl ?_
    refine i_iconst r_136_21 (n_136_21 _) ?_
    exact i_ireturn r_136_22 (n_136_22 _) rfl h
  · skip
    rcases h with ⟨rfl, h⟩ | ⟨rfl, h⟩
    · refine .inr ⟨_, rfl, .inr ⟨_, _, 17, (19, [(0, rf 2), (1, iv x1), (2, iv x2), (3, rf 275)]), rfl, rfl, rfl, ?_⟩⟩
      refine i_iconst r_136_19 (n_136_19 _) ?_
      exact i_ireturn r_136_20 (n_136_20 _) rfl h
    · refine .inr ⟨_, rfl, .inr ⟨_, _, 13, (15, [(0, rf 2), (1, iv x1), (2, iv x2), (3, rf 275)]), rfl, rfl, rfl, ?_⟩⟩
      refine i_iconst r_136_15 (n_136_15 _) ?_
      exact i_ireturn r_136_16 (n_136_16 _) rfl h
theorem r_138_0 : xfetch 138 0 = some (.aload 4, 2) := by decide +kernel
theorem n_138_0 : ∀ l, xpr 138 0 l = l := xpr_no (by decide +kernel)
theorem r_138_2 : xfetch 138 2 = some (.iconst 0, 1) := by decide +kernel
theorem n_138_2 : ∀ l, xpr 138 2 l = l := xpr_no (by decide +kernel)
theorem r_138_3 : xfetch 138 3 = some (.aload_n 0, 1) := by decide +kernel
theorem n_138_3 : ∀ l, xpr 138 3 l = l := xpr_no (by decide +kernel)
theorem r_138_4 : xfetch 138 4 = some (.iload_n 1, 1) := by decide +kernel
theorem n_138_4 : ∀ l, xpr 138 4 l = l := xpr_no (by decide +kernel)
theorem r_138_5 : xfetch 138 5 = some (.iload_n 2, 1) := by decide +kernel
theorem n_138_5 : ∀ l, xpr 138 5 l = l := xpr_no (by decide +kernel)
theorem r_138_6 : xfetch 138 6 = some (.iload_n 3, 1) := by decide +kernel
theorem n_138_6 : ∀ l, xpr 138 6 l = l := xpr_no (by decide +kernel)
theorem r_138_7 : xfetch 138 7 = some (.invokevirtual 78, 3) := by decide +kernel
theorem n_138_7 : ∀ l, xpr 138 7 l = l := xpr_no (by decide +kernel)
theorem r_138_10 : xfetch 138 10 = some (.i2l, 1) := by decide +kernel
theorem n_138_10 : ∀ l, xpr 138 10 l = l := xpr_no (by decide +kernel)
theorem r_138_11 : xfetch 138 11 = some (.lastore, 1) := by decide +kernel
theorem n_138_11 : ∀ l, xpr 138 11 l = l := xpr_no (by decide +kernel)
theorem r_138_12 : xfetch 138 12 = some (.goto 15, 3) := by decide +kernel
theorem n_138_12 : ∀ l, xpr 138 12 l = l := xpr_no (by decide +kernel)
theorem r_138_17 : xfetch 138 17 = some (.iconst 1, 1) := by decide +kernel
theorem n_138_17 : ∀ l, xpr 138 17 l = l := xpr_no (by decide +kernel)
theorem r_138_18 : xfetch 138 18 = some (.ireturn, 1) := by decide +kernel
theorem n_138_18 : ∀ l, xpr 138 18 l = l := xpr_no (by decide +kernel)
theorem r_138_21 : xfetch 138 21 = some (.iconst 2, 1) := by decide +kernel
theorem n_138_21 : ∀ l, xpr 138 21 l = l := xpr_no (by decide +kernel)
theorem r_138_22 : xfetch 138 22 = some (.ireturn, 1) := by decide +kernel
theorem n_138_22 : ∀ l, xpr 138 22 l = l := xpr_no (by decide +kernel)
theorem r_138_25 : xfetch 138 25 = some (.iconst 3, 1) := by decide +kernel
theorem n_138_25 : ∀ l, xpr 138 25 l = l := xpr_no (by decide +kernel)
theorem r_138_26 : xfetch 138 26 = some (.ireturn, 1) := by decide +kernel
theorem n_138_26 : ∀ l, xpr 138 26 l = l := xpr_no (by decide +kernel)
theorem r_138_27 : xfetch 138 27 = some (.iconst 0, 1) := by decide +kernel
theorem n_138_27 : ∀ l, xpr 138 27 l = l := xpr_no (by decide +kernel)
theorem r_138_28 : xfetch 138 28 = some (.ireturn, 1) := by decide +kernel
theorem n_138_28 : ∀ l, xpr 138 28 l = l := xpr_no (by decide +kernel)
theorem v_Law_convert_0 {S : Option (Nat × (Nat → Int32))} {s : zSt} {Q : Option Value ⊕ Nat → zSt → Prop} {x1 : Int} {x2 : Int} {x3 : Int} 
    (h : wp S 139 0 [(0, rf 2), (1, iv x1), (2, iv x2), (3, iv x3)] [] s (fun o1 s1 => zkI (fun y1 => Q (rI 0) (zwL s1 275 0 (zi2l y1))) (fun e1 => (e1 = 0 ∧ Q (rI 2) s1) ∨ (e1 = 1 ∧ Q (rI 3) s1) ∨ (e1 = 2 ∧ Q (rI 1) s1)) o1)) :
    wp S 138 0 [(0, rf 2), (1, iv x1), (2, iv x2), (3, iv x3), (4, rf 275)] [] s Q := by
  refine i_aload (a := 275) r_138_0 (n_138_0 _) rfl ?_
  refine i_iconst r_138_2 (n_138_2 _) ?_
  refine i_aload_n (a := 2) r_138_3 (n_138_3 _) rfl ?_
  refine i_iload_n (x := x1) r_138_4 (n_138_4 _) rfl ?_
  refine i_iload_n (x := x2) r_138_5 (n_138_5 _) rfl ?_
  refine i_iload_n (x := x3) r_138_6 (n_138_6 _) rfl ?_
  refine wp_virt (b := 2) (rest := [iv 0, rf 275]) (Ls := [(0, rf 2), (1, iv x1), (2, iv x2), (3, iv x3)]) r_138_7 (n_138_7 _) rfl ⟨rfl, rfl, by decide, by decide⟩ rfl rfl lf_2 ⟨rfl, Nat.le_of_ble_eq_true rfl, Nat.le_of_ble_eq_true rfl⟩ rfl h ?_
  intro o1 s1 h
  rcases h with ⟨y1, q2, rfl, h⟩ | ⟨e1, rfl, h⟩
  · refine .inl ⟨some (iv y1), rfl, ?_⟩
    show wp S 138 10 [(0, rf 2), (1, iv x1), (2, iv x2), (3, iv x3), (4, rf 275)] [iv y1, iv 0, rf 275] s1 Q
    refine i_i2l r_138_10 (n_138_10 _) ?_
    refine i_lastore (a := 275) (j := 0) r_138_11 (n_138_11 _) lf_275 ⟨by omega, by omega⟩ (by omega) (by omega) ?_
    refine i_goto (t := 27) r_138_12 (n_138_12 _) rfl ?_
    refine i_iconst r_138_27 (n_138_27 _) ?_
    exact i_ireturn r_138_28 (n_138_28 _) rfl h
  · skip
    rcases h with ⟨rfl, h⟩ | ⟨rfl, h⟩ | ⟨rfl, h⟩
    · refine .inr ⟨_, rfl, .inr ⟨_, _, 19, (21, [(0, rf 2), (1, iv x1), (2, iv x2), (3, iv x3), (4, rf 275)]), rfl, rfl, rfl, ?_⟩⟩
      refine i_iconst r_138_21 (n_138_21 _) ?_
      exact i_ireturn r_138_22 (n_138_22 _) rfl h
    · refine .inr ⟨_, rfl, .inr ⟨_, _, 23, (25, [(0, rf 2), (1, iv x1), (2, iv x2), (3, iv x3), (4, rf 275)]), rfl, rfl, rfl, ?_⟩⟩
      refine i_iconst r_138_25 (n_138_25 _) ?_
      exact i_ireturn r_138_26 (n_138_26 _) rfl h
    · refine .inr ⟨_, rfl, .inr ⟨_, _, 15, (17, [(0, rf 2), (1, iv x1), (2, iv x2), (3, iv x3), (4, rf 275)]), rfl, rfl, rfl, ?_⟩⟩
      refine i_iconst r_138_17 (n_138_17 _) ?_
      exact i_ireturn r_138_18 (n_138_18 _) rfl h
theorem r_143_0 : xfetch 143 0 = some (.aload 4, 2) := by decide +kernel
theorem n_143_0 : ∀ l, xpr 143 0 l = l := xpr_no (by decide +kernel)
theorem r_143_2 : xfetch 143 2 = some (.iconst 0, 1) := by decide +kernel
theorem n_143_2 : ∀ l, xpr 143 2 l = l := xpr_no (by decide +kernel)
theorem r_143_3 : xfetch 143 3 = some (.aload_n 0, 1) := by decide +kernel
theorem n_143_3 : ∀ l, xpr 143 3 l = l := xpr_no (by decide +kernel)
theorem r_143_4 : xfetch 143 4 = some (.iload_n 1, 1) := by decide +kernel
theorem n_143_4 : ∀ l, xpr 143 4 l = l := xpr_no (by decide +kernel)
theorem r_143_5 : xfetch 143 5 = some (.iload_n 2, 1) := by decide +kernel
theorem n_143_5 : ∀ l, xpr 143 5 l = l := xpr_no (by decide +kernel)
theorem r_143_6 : xfetch 143 6 = some (.iload_n 3, 1) := by decide +kernel
theorem n_143_6 : ∀ l, xpr 143 6 l = l := xpr_no (by decide +kernel)
theorem r_143_7 : xfetch 143 7 = some (.invokevirtual 81, 3) := by decide +kernel
theorem n_143_7 : ∀ l, xpr 143 7 l = l := xpr_no (by decide +kernel)
theorem r_143_10 : xfetch 143 10 = some (.i2l, 1) := by decide +kernel
theorem n_143_10 : ∀ l, xpr 143 10 l = l := xpr_no (by decide +kernel)
theorem r_143_11 : xfetch 143 11 = some (.lastore, 1) := by decide +kernel
theorem n_143_11 : ∀ l, xpr 143 11 l = l := xpr_no (by decide +kernel)
theorem r_143_12 : xfetch 143 12 = some (.goto 15, 3) := by decide +kernel
theorem n_143_12 : ∀ l, xpr 143 12 l = l := xpr_no (by decide +kernel)
theorem r_143_17 : xfetch 143 17 = some (.iconst 1, 1) := by decide +kernel
theorem n_143_17 : ∀ l, xpr 143 17 l = l := xpr_no (by decide +kernel)
theorem r_143_18 : xfetch 143 18 = some (.ireturn, 1) := by decide +kernel
theorem n_143_18 : ∀ l, xpr 143 18 l = l := xpr_no (by decide +kernel)
theorem r_143_21 : xfetch 143 21 = some (.iconst 2, 1) := by decide +kernel
theorem n_143_21 : ∀ l, xpr 143 21 l = l := xpr_no (by decide +kernel)
theorem r_143_22 : xfetch 143 22 = some (.ireturn, 1) := by decide +kernel
theorem n_143_22 : ∀ l, xpr 143 22 l = l := xpr_no (by decide +kernel)
theorem r_143_25 : xfetch 143 25 = some (.iconst 3, 1) := by decide +kernel
theorem n_143_25 : ∀ l, xpr 143 25 l = l := xpr_no (by decide +kernel)
theorem r_143_26 : xfetch 143 26 = some (.ireturn, 1) := by decide +kernel
theorem n_143_26 : ∀ l, xpr 143 26 l = l := xpr_no (by decide +kernel)
theorem r_143_27 : xfetch 143 27 = some (.iconst 0, 1) := by decide +kernel
theorem n_143_27 : ∀ l, xpr 143 27 l = l := xpr_no (by decide +kernel)
theorem r_143_28 : xfetch 143 28 = some (.ireturn, 1) := by decide +kernel
theorem n_143_28 : ∀ l, xpr 143 28 l = l := xpr_no (by decide +kernel)
theorem v_Law_migrate_0 {S : Option (Nat × (Nat → Int32))} {s : zSt} {Q : Option Value ⊕ Nat → zSt → Prop} {x1 : Int} {x2 : Int} {x3 : Int} 
    (h : wp S 144 0 [(0, rf 2), (1, iv x1), (2, iv x2), (3, iv x3)] [] s (fun o1 s1 => zkI (fun y1 => Q (rI 0) (zwL s1 275 0 (zi2l y1))) (fun e1 => (e1 = 0 ∧ Q (rI 2) s1) ∨ (e1 = 1 ∧ Q (rI 3) s1) ∨ (e1 = 2 ∧ Q (rI 1) s1)) o1)) :
    wp S 143 0 [(0, rf 2), (1, iv x1), (2, iv x2), (3, iv x3), (4, rf 275)] [] s Q := by
  refine i_aload (a := 275) r_143_0 (n_143_0 _) rfl ?_
  refine i_iconst r_143_2 (n_143_2 _) ?_
  refine i_aload_n (a := 2) r_143_3 (n_143_3 _) rfl ?_
  refine i_iload_n (x := x1) r_143_4 (n_143_4 _) rfl ?_
  refine i_iload_n (x := x2) r_143_5 (n_143_5 _) rfl ?_
  refine i_iload_n (x := x3) r_143_6 (n_143_6 _) rfl ?_
  refine wp_virt (b := 2) (rest := [iv 0, rf 275]) (Ls := [(0, rf 2), (1, iv x1), (2, iv x2), (3, iv x3)]) r_143_7 (n_143_7 _) rfl ⟨rfl, rfl, by decide, by decide⟩ rfl rfl lf_2 ⟨rfl, Nat.le_of_ble_eq_true rfl, Nat.le_of_ble_eq_true rfl⟩ rfl h ?_
  intro o1 s1 h
  rcases h with ⟨y1, q2, rfl, h⟩ | ⟨e1, rfl, h⟩
  · refine .inl ⟨some (iv y1), rfl, ?_⟩
    show wp S 143 10 [(0, rf 2), (1, iv x1), (2, iv x2), (3, iv x3), (4, rf 275)] [iv y1, iv 0, rf 275] s1 Q
    refine i_i2l r_143_10 (n_143_10 _) ?_
    refine i_lastore (a := 275) (j := 0) r_143_11 (n_143_11 _) lf_275 ⟨by omega, by omega⟩ (by omega) (by omega) ?_
    refine i_goto (t := 27) r_143_12 (n_143_12 _) rfl ?_
    refine i_iconst r_143_27 (n_143_27 _) ?_
    exact i_ireturn r_143_28 (n_143_28 _) rfl h
  · skip
    rcases h with ⟨rfl, h⟩ | ⟨rfl, h⟩ | ⟨rfl, h⟩
    · refine .inr ⟨_, rfl, .inr ⟨_, _, 19, (21, [(0, rf 2), (1, iv x1), (2, iv x2), (3, iv x3), (4, rf 275)]), rfl, rfl, rfl, ?_⟩⟩
      refine i_iconst r_143_21 (n_143_21 _) ?_
      exact i_ireturn r_143_22 (n_143_22 _) rfl h
    · refine .inr ⟨_, rfl, .inr ⟨_, _, 23, (25, [(0, rf 2), (1, iv x1), (2, iv x2), (3, iv x3), (4, rf 275)]), rfl, rfl, rfl, ?_⟩⟩
      refine i_iconst r_143_25 (n_143_25 _) ?_
      exact i_ireturn r_143_26 (n_143_26 _) rfl h
    · refine .inr ⟨_, rfl, .inr ⟨_, _, 15, (17, [(0, rf 2), (1, iv x1), (2, iv x2), (3, iv x3), (4, rf 275)]), rfl, rfl, rfl, ?_⟩⟩
      refine i_iconst r_143_17 (n_143_17 _) ?_
      exact i_ireturn r_143_18 (n_143_18 _) rfl h
theorem r_145_0 : xfetch 145 0 = some (.aload 4, 2) := by decide +kernel
theorem n_145_0 : ∀ l, xpr 145 0 l = l := xpr_no (by decide +kernel)
theorem r_145_2 : xfetch 145 2 = some (.iconst 0, 1) := by decide +kernel
theorem n_145_2 : ∀ l, xpr 145 2 l = l := xpr_no (by decide +kernel)
theorem r_145_3 : xfetch 145 3 = some (.aload_n 0, 1) := by decide +kernel
theorem n_145_3 : ∀ l, xpr 145 3 l = l := xpr_no (by decide +kernel)
theorem r_145_4 : xfetch 145 4 = some (.iload_n 1, 1) := by decide +kernel
theorem n_145_4 : ∀ l, xpr 145 4 l = l := xpr_no (by decide +kernel)
theorem r_145_5 : xfetch 145 5 = some (.iload_n 2, 1) := by decide +kernel
theorem n_145_5 : ∀ l, xpr 145 5 l = l := xpr_no (by decide +kernel)
theorem r_145_6 : xfetch 145 6 = some (.iload_n 3, 1) := by decide +kernel
theorem n_145_6 : ∀ l, xpr 145 6 l = l := xpr_no (by decide +kernel)
theorem r_145_7 : xfetch 145 7 = some (.invokevirtual 84, 3) := by decide +kernel
theorem n_145_7 : ∀ l, xpr 145 7 l = l := xpr_no (by decide +kernel)
theorem r_145_10 : xfetch 145 10 = some (.i2l, 1) := by decide +kernel
theorem n_145_10 : ∀ l, xpr 145 10 l = l := xpr_no (by decide +kernel)
theorem r_145_11 : xfetch 145 11 = some (.lastore, 1) := by decide +kernel
theorem n_145_11 : ∀ l, xpr 145 11 l = l := xpr_no (by decide +kernel)
theorem r_145_12 : xfetch 145 12 = some (.goto 7, 3) := by decide +kernel
theorem n_145_12 : ∀ l, xpr 145 12 l = l := xpr_no (by decide +kernel)
theorem r_145_17 : xfetch 145 17 = some (.iconst 1, 1) := by decide +kernel
theorem n_145_17 : ∀ l, xpr 145 17 l = l := xpr_no (by decide +kernel)
theorem r_145_18 : xfetch 145 18 = some (.ireturn, 1) := by decide +kernel
theorem n_145_18 : ∀ l, xpr 145 18 l = l := xpr_no (by decide +kernel)
theorem r_145_19 : xfetch 145 19 = some (.iconst 0, 1) := by decide +kernel
theorem n_145_19 : ∀ l, xpr 145 19 l = l := xpr_no (by decide +kernel)
theorem r_145_20 : xfetch 145 20 = some (.ireturn, 1) := by decide +kernel
theorem n_145_20 : ∀ l, xpr 145 20 l = l := xpr_no (by decide +kernel)
theorem v_Law_sort_0 {S : Option (Nat × (Nat → Int32))} {s : zSt} {Q : Option Value ⊕ Nat → zSt → Prop} {x1 : Int} {x2 : Int} {x3 : Int} 
    (h : wp S 146 0 [(0, rf 2), (1, iv x1), (2, iv x2), (3, iv x3)] [] s (fun o1 s1 => zkI (fun y1 => Q (rI 0) (zwL s1 275 0 (zi2l y1))) (fun e1 => (e1 = 2 ∧ Q (rI 1) s1)) o1)) :
    wp S 145 0 [(0, rf 2), (1, iv x1), (2, iv x2), (3, iv x3), (4, rf 275)] [] s Q := by
  refine i_aload (a := 275) r_145_0 (n_145_0 _) rfl ?_
  refine i_iconst r_145_2 (n_145_2 _) ?_
  refine i_aload_n (a := 2) r_145_3 (n_145_3 _) rfl ?_
  refine i_iload_n (x := x1) r_145_4 (n_145_4 _) rfl ?_
  refine i_iload_n (x := x2) r_145_5 (n_145_5 _) rfl ?_
  refine i_iload_n (x := x3) r_145_6 (n_145_6 _) rfl ?_
  refine wp_virt (b := 2) (rest := [iv 0, rf 275]) (Ls := [(0, rf 2), (1, iv x1), (2, iv x2), (3, iv x3)]) r_145_7 (n_145_7 _) rfl ⟨rfl, rfl, by decide, by decide⟩ rfl rfl lf_2 ⟨rfl, Nat.le_of_ble_eq_true rfl, Nat.le_of_ble_eq_true rfl⟩ rfl h ?_
  intro o1 s1 h
  rcases h with ⟨y1, q2, rfl, h⟩ | ⟨e1, rfl, h⟩
  · refine .inl ⟨some (iv y1), rfl, ?_⟩
    show wp S 145 10 [(0, rf 2), (1, iv x1), (2, iv x2), (3, iv x3), (4, rf 275)] [iv y1, iv 0, rf 275] s1 Q
    refine i_i2l r_145_10 (n_145_10 _) ?_
    refine i_lastore (a := 275) (j := 0) r_145_11 (n_145_11 _) lf_275 ⟨by omega, by omega⟩ (by omega) (by omega) ?_
    refine i_goto (t := 19) r_145_12 (n_145_12 _) rfl ?_
    refine i_iconst r_145_19 (n_145_19 _) ?_
    exact i_ireturn r_145_20 (n_145_20 _) rfl h
  · skip
    rcases h with ⟨rfl, h⟩
    · refine .inr ⟨_, rfl, .inr ⟨_, _, 15, (17, [(0, rf 2), (1, iv x1), (2, iv x2), (3, iv x3), (4, rf 275)]), rfl, rfl, rfl, ?_⟩⟩
      refine i_iconst r_145_17 (n_145_17 _) ?_
      exact i_ireturn r_145_18 (n_145_18 _) rfl h
theorem r_149_0 : xfetch 149 0 = some (.aload 7, 2) := by decide +kernel
theorem n_149_0 : ∀ l, xpr 149 0 l = l := xpr_no (by decide +kernel)
theorem r_149_2 : xfetch 149 2 = some (.iconst 0, 1) := by decide +kernel
theorem n_149_2 : ∀ l, xpr 149 2 l = l := xpr_no (by decide +kernel)
theorem r_149_3 : xfetch 149 3 = some (.aload_n 0, 1) := by decide +kernel
theorem n_149_3 : ∀ l, xpr 149 3 l = l := xpr_no (by decide +kernel)
theorem r_149_4 : xfetch 149 4 = some (.iload_n 1, 1) := by decide +kernel
theorem n_149_4 : ∀ l, xpr 149 4 l = l := xpr_no (by decide +kernel)
theorem r_149_5 : xfetch 149 5 = some (.iload_n 2, 1) := by decide +kernel
theorem n_149_5 : ∀ l, xpr 149 5 l = l := xpr_no (by decide +kernel)
theorem r_149_6 : xfetch 149 6 = some (.lload_n 3, 1) := by decide +kernel
theorem n_149_6 : ∀ l, xpr 149 6 l = l := xpr_no (by decide +kernel)
theorem r_149_7 : xfetch 149 7 = some (.lload 5, 2) := by decide +kernel
theorem n_149_7 : ∀ l, xpr 149 7 l = l := xpr_no (by decide +kernel)
theorem r_149_9 : xfetch 149 9 = some (.invokevirtual 88, 3) := by decide +kernel
theorem n_149_9 : ∀ l, xpr 149 9 l = l := xpr_no (by decide +kernel)
theorem r_149_12 : xfetch 149 12 = some (.i2l, 1) := by decide +kernel
theorem n_149_12 : ∀ l, xpr 149 12 l = l := xpr_no (by decide +kernel)
theorem r_149_13 : xfetch 149 13 = some (.lastore, 1) := by decide +kernel
theorem n_149_13 : ∀ l, xpr 149 13 l = l := xpr_no (by decide +kernel)
theorem r_149_14 : xfetch 149 14 = some (.goto 7, 3) := by decide +kernel
theorem n_149_14 : ∀ l, xpr 149 14 l = l := xpr_no (by decide +kernel)
theorem r_149_19 : xfetch 149 19 = some (.iconst 1, 1) := by decide +kernel
theorem n_149_19 : ∀ l, xpr 149 19 l = l := xpr_no (by decide +kernel)
theorem r_149_20 : xfetch 149 20 = some (.ireturn, 1) := by decide +kernel
theorem n_149_20 : ∀ l, xpr 149 20 l = l := xpr_no (by decide +kernel)
theorem r_149_21 : xfetch 149 21 = some (.iconst 0, 1) := by decide +kernel
theorem n_149_21 : ∀ l, xpr 149 21 l = l := xpr_no (by decide +kernel)
theorem r_149_22 : xfetch 149 22 = some (.ireturn, 1) := by decide +kernel
theorem n_149_22 : ∀ l, xpr 149 22 l = l := xpr_no (by decide +kernel)
theorem v_Law_fill_0 {S : Option (Nat × (Nat → Int32))} {s : zSt} {Q : Option Value ⊕ Nat → zSt → Prop} {x1 : Int} {x2 : Int} {u3 : Int64} {u5 : Int64} 
    (h : wp S 150 0 [(0, rf 2), (1, iv x1), (2, iv x2), (3, .long u3), (5, .long u5)] [] s (fun o1 s1 => zkI (fun y1 => Q (rI 0) (zwL s1 275 0 (zi2l y1))) (fun e1 => (e1 = 2 ∧ Q (rI 1) s1)) o1)) :
    wp S 149 0 [(0, rf 2), (1, iv x1), (2, iv x2), (3, .long u3), (5, .long u5), (7, rf 275)] [] s Q := by
  refine i_aload (a := 275) r_149_0 (n_149_0 _) rfl ?_
  refine i_iconst r_149_2 (n_149_2 _) ?_
  refine i_aload_n (a := 2) r_149_3 (n_149_3 _) rfl ?_
  refine i_iload_n (x := x1) r_149_4 (n_149_4 _) rfl ?_
  refine i_iload_n (x := x2) r_149_5 (n_149_5 _) rfl ?_
  refine i_lload_n (u := u3) r_149_6 (n_149_6 _) rfl ?_
  refine i_lload (u := u5) r_149_7 (n_149_7 _) rfl ?_
  refine wp_virt (b := 2) (rest := [iv 0, rf 275]) (Ls := [(0, rf 2), (1, iv x1), (2, iv x2), (3, .long u3), (5, .long u5)]) r_149_9 (n_149_9 _) rfl ⟨rfl, rfl, by decide, by decide⟩ rfl rfl lf_2 ⟨rfl, Nat.le_of_ble_eq_true rfl, Nat.le_of_ble_eq_true rfl⟩ rfl h ?_
  intro o1 s1 h
  rcases h with ⟨y1, q2, rfl, h⟩ | ⟨e1, rfl, h⟩
  · refine .inl ⟨some (iv y1), rfl, ?_⟩
    show wp S 149 12 [(0, rf 2), (1, iv x1), (2, iv x2), (3, .long u3), (5, .long u5), (7, rf 275)] [iv y1, iv 0, rf 275] s1 Q
    refine i_i2l r_149_12 (n_149_12 _) ?_
    refine i_lastore (a := 275) (j := 0) r_149_13 (n_149_13 _) lf_275 ⟨by omega, by omega⟩ (by omega) (by omega) ?_
    refine i_goto (t := 21) r_149_14 (n_149_14 _) rfl ?_
    refine i_iconst r_149_21 (n_149_21 _) ?_
    exact i_ireturn r_149_22 (n_149_22 _) rfl h
  · skip
    rcases h with ⟨rfl, h⟩
    · refine .inr ⟨_, rfl, .inr ⟨_, _, 17, (19, [(0, rf 2), (1, iv x1), (2, iv x2), (3, .long u3), (5, .long u5), (7, rf 275)]), rfl, rfl, rfl, ?_⟩⟩
      refine i_iconst r_149_19 (n_149_19 _) ?_
      exact i_ireturn r_149_20 (n_149_20 _) rfl h
theorem r_151_0 : xfetch 151 0 = some (.aload 4, 2) := by decide +kernel
theorem n_151_0 : ∀ l, xpr 151 0 l = l := xpr_no (by decide +kernel)
theorem r_151_2 : xfetch 151 2 = some (.iconst 0, 1) := by decide +kernel
theorem n_151_2 : ∀ l, xpr 151 2 l = l := xpr_no (by decide +kernel)
theorem r_151_3 : xfetch 151 3 = some (.aload_n 0, 1) := by decide +kernel
theorem n_151_3 : ∀ l, xpr 151 3 l = l := xpr_no (by decide +kernel)
theorem r_151_4 : xfetch 151 4 = some (.iload_n 1, 1) := by decide +kernel
theorem n_151_4 : ∀ l, xpr 151 4 l = l := xpr_no (by decide +kernel)
theorem r_151_5 : xfetch 151 5 = some (.iload_n 2, 1) := by decide +kernel
theorem n_151_5 : ∀ l, xpr 151 5 l = l := xpr_no (by decide +kernel)
theorem r_151_6 : xfetch 151 6 = some (.iload_n 3, 1) := by decide +kernel
theorem n_151_6 : ∀ l, xpr 151 6 l = l := xpr_no (by decide +kernel)
theorem r_151_7 : xfetch 151 7 = some (.invokevirtual 92, 3) := by decide +kernel
theorem n_151_7 : ∀ l, xpr 151 7 l = l := xpr_no (by decide +kernel)
theorem r_151_10 : xfetch 151 10 = some (.i2l, 1) := by decide +kernel
theorem n_151_10 : ∀ l, xpr 151 10 l = l := xpr_no (by decide +kernel)
theorem r_151_11 : xfetch 151 11 = some (.lastore, 1) := by decide +kernel
theorem n_151_11 : ∀ l, xpr 151 11 l = l := xpr_no (by decide +kernel)
theorem r_151_12 : xfetch 151 12 = some (.goto 7, 3) := by decide +kernel
theorem n_151_12 : ∀ l, xpr 151 12 l = l := xpr_no (by decide +kernel)
theorem r_151_17 : xfetch 151 17 = some (.iconst 1, 1) := by decide +kernel
theorem n_151_17 : ∀ l, xpr 151 17 l = l := xpr_no (by decide +kernel)
theorem r_151_18 : xfetch 151 18 = some (.ireturn, 1) := by decide +kernel
theorem n_151_18 : ∀ l, xpr 151 18 l = l := xpr_no (by decide +kernel)
theorem r_151_19 : xfetch 151 19 = some (.iconst 0, 1) := by decide +kernel
theorem n_151_19 : ∀ l, xpr 151 19 l = l := xpr_no (by decide +kernel)
theorem r_151_20 : xfetch 151 20 = some (.ireturn, 1) := by decide +kernel
theorem n_151_20 : ∀ l, xpr 151 20 l = l := xpr_no (by decide +kernel)
theorem v_Law_copyRow_0 {S : Option (Nat × (Nat → Int32))} {s : zSt} {Q : Option Value ⊕ Nat → zSt → Prop} {x1 : Int} {x2 : Int} {x3 : Int} 
    (h : wp S 152 0 [(0, rf 2), (1, iv x1), (2, iv x2), (3, iv x3)] [] s (fun o1 s1 => zkI (fun y1 => Q (rI 0) (zwL s1 275 0 (zi2l y1))) (fun e1 => (e1 = 2 ∧ Q (rI 1) s1)) o1)) :
    wp S 151 0 [(0, rf 2), (1, iv x1), (2, iv x2), (3, iv x3), (4, rf 275)] [] s Q := by
  refine i_aload (a := 275) r_151_0 (n_151_0 _) rfl ?_
  refine i_iconst r_151_2 (n_151_2 _) ?_
  refine i_aload_n (a := 2) r_151_3 (n_151_3 _) rfl ?_
  refine i_iload_n (x := x1) r_151_4 (n_151_4 _) rfl ?_
  refine i_iload_n (x := x2) r_151_5 (n_151_5 _) rfl ?_
  refine i_iload_n (x := x3) r_151_6 (n_151_6 _) rfl ?_
  refine wp_virt (b := 2) (rest := [iv 0, rf 275]) (Ls := [(0, rf 2), (1, iv x1), (2, iv x2), (3, iv x3)]) r_151_7 (n_151_7 _) rfl ⟨rfl, rfl, by decide, by decide⟩ rfl rfl lf_2 ⟨rfl, Nat.le_of_ble_eq_true rfl, Nat.le_of_ble_eq_true rfl⟩ rfl h ?_
  intro o1 s1 h
  rcases h with ⟨y1, q2, rfl, h⟩ | ⟨e1, rfl, h⟩
  · refine .inl ⟨some (iv y1), rfl, ?_⟩
    show wp S 151 10 [(0, rf 2), (1, iv x1), (2, iv x2), (3, iv x3), (4, rf 275)] [iv y1, iv 0, rf 275] s1 Q
    refine i_i2l r_151_10 (n_151_10 _) ?_
    refine i_lastore (a := 275) (j := 0) r_151_11 (n_151_11 _) lf_275 ⟨by omega, by omega⟩ (by omega) (by omega) ?_
    refine i_goto (t := 19) r_151_12 (n_151_12 _) rfl ?_
    refine i_iconst r_151_19 (n_151_19 _) ?_
    exact i_ireturn r_151_20 (n_151_20 _) rfl h
  · skip
    rcases h with ⟨rfl, h⟩
    · refine .inr ⟨_, rfl, .inr ⟨_, _, 15, (17, [(0, rf 2), (1, iv x1), (2, iv x2), (3, iv x3), (4, rf 275)]), rfl, rfl, rfl, ?_⟩⟩
      refine i_iconst r_151_17 (n_151_17 _) ?_
      exact i_ireturn r_151_18 (n_151_18 _) rfl h
theorem r_153_0 : xfetch 153 0 = some (.aload 6, 2) := by decide +kernel
theorem n_153_0 : ∀ l, xpr 153 0 l = l := xpr_no (by decide +kernel)
theorem r_153_2 : xfetch 153 2 = some (.iconst 0, 1) := by decide +kernel
theorem n_153_2 : ∀ l, xpr 153 2 l = l := xpr_no (by decide +kernel)
theorem r_153_3 : xfetch 153 3 = some (.aload_n 0, 1) := by decide +kernel
theorem n_153_3 : ∀ l, xpr 153 3 l = l := xpr_no (by decide +kernel)
theorem r_153_4 : xfetch 153 4 = some (.iload_n 1, 1) := by decide +kernel
theorem n_153_4 : ∀ l, xpr 153 4 l = l := xpr_no (by decide +kernel)
theorem r_153_5 : xfetch 153 5 = some (.iload_n 2, 1) := by decide +kernel
theorem n_153_5 : ∀ l, xpr 153 5 l = l := xpr_no (by decide +kernel)
theorem r_153_6 : xfetch 153 6 = some (.iload_n 3, 1) := by decide +kernel
theorem n_153_6 : ∀ l, xpr 153 6 l = l := xpr_no (by decide +kernel)
theorem r_153_7 : xfetch 153 7 = some (.lload 4, 2) := by decide +kernel
theorem n_153_7 : ∀ l, xpr 153 7 l = l := xpr_no (by decide +kernel)
theorem r_153_9 : xfetch 153 9 = some (.invokevirtual 95, 3) := by decide +kernel
theorem n_153_9 : ∀ l, xpr 153 9 l = l := xpr_no (by decide +kernel)
theorem r_153_12 : xfetch 153 12 = some (.i2l, 1) := by decide +kernel
theorem n_153_12 : ∀ l, xpr 153 12 l = l := xpr_no (by decide +kernel)
theorem r_153_13 : xfetch 153 13 = some (.lastore, 1) := by decide +kernel
theorem n_153_13 : ∀ l, xpr 153 13 l = l := xpr_no (by decide +kernel)
theorem r_153_14 : xfetch 153 14 = some (.goto 11, 3) := by decide +kernel
theorem n_153_14 : ∀ l, xpr 153 14 l = l := xpr_no (by decide +kernel)
theorem r_153_19 : xfetch 153 19 = some (.iconst 1, 1) := by decide +kernel
theorem n_153_19 : ∀ l, xpr 153 19 l = l := xpr_no (by decide +kernel)
theorem r_153_20 : xfetch 153 20 = some (.ireturn, 1) := by decide +kernel
theorem n_153_20 : ∀ l, xpr 153 20 l = l := xpr_no (by decide +kernel)
theorem r_153_23 : xfetch 153 23 = some (.iconst 2, 1) := by decide +kernel
theorem n_153_23 : ∀ l, xpr 153 23 l = l := xpr_no (by decide +kernel)
theorem r_153_24 : xfetch 153 24 = some (.ireturn, 1) := by decide +kernel
theorem n_153_24 : ∀ l, xpr 153 24 l = l := xpr_no (by decide +kernel)
theorem r_153_25 : xfetch 153 25 = some (.iconst 0, 1) := by decide +kernel
theorem n_153_25 : ∀ l, xpr 153 25 l = l := xpr_no (by decide +kernel)
theorem r_153_26 : xfetch 153 26 = some (.ireturn, 1) := by decide +kernel
theorem n_153_26 : ∀ l, xpr 153 26 l = l := xpr_no (by decide +kernel)
theorem v_Law_count_0 {S : Option (Nat × (Nat → Int32))} {s : zSt} {Q : Option Value ⊕ Nat → zSt → Prop} {x1 : Int} {x2 : Int} {x3 : Int} {u4 : Int64} 
    (h : wp S 154 0 [(0, rf 2), (1, iv x1), (2, iv x2), (3, iv x3), (4, .long u4)] [] s (fun o1 s1 => zkI (fun y1 => Q (rI 0) (zwL s1 275 0 (zi2l y1))) (fun e1 => (e1 = 0 ∧ Q (rI 2) s1) ∨ (e1 = 2 ∧ Q (rI 1) s1)) o1)) :
    wp S 153 0 [(0, rf 2), (1, iv x1), (2, iv x2), (3, iv x3), (4, .long u4), (6, rf 275)] [] s Q := by
  refine i_aload (a := 275) r_153_0 (n_153_0 _) rfl ?_
  refine i_iconst r_153_2 (n_153_2 _) ?_
  refine i_aload_n (a := 2) r_153_3 (n_153_3 _) rfl ?_
  refine i_iload_n (x := x1) r_153_4 (n_153_4 _) rfl ?_
  refine i_iload_n (x := x2) r_153_5 (n_153_5 _) rfl ?_
  refine i_iload_n (x := x3) r_153_6 (n_153_6 _) rfl ?_
  refine i_lload (u := u4) r_153_7 (n_153_7 _) rfl ?_
  refine wp_virt (b := 2) (rest := [iv 0, rf 275]) (Ls := [(0, rf 2), (1, iv x1), (2, iv x2), (3, iv x3), (4, .long u4)]) r_153_9 (n_153_9 _) rfl ⟨rfl, rfl, by decide, by decide⟩ rfl rfl lf_2 ⟨rfl, Nat.le_of_ble_eq_true rfl, Nat.le_of_ble_eq_true rfl⟩ rfl h ?_
  intro o1 s1 h
  rcases h with ⟨y1, q2, rfl, h⟩ | ⟨e1, rfl, h⟩
  · refine .inl ⟨some (iv y1), rfl, ?_⟩
    show wp S 153 12 [(0, rf 2), (1, iv x1), (2, iv x2), (3, iv x3), (4, .long u4), (6, rf 275)] [iv y1, iv 0, rf 275] s1 Q
    refine i_i2l r_153_12 (n_153_12 _) ?_
    refine i_lastore (a := 275) (j := 0) r_153_13 (n_153_13 _) lf_275 ⟨by omega, by omega⟩ (by omega) (by omega) ?_
    refine i_goto (t := 25) r_153_14 (n_153_14 _) rfl ?_
    refine i_iconst r_153_25 (n_153_25 _) ?_
    exact i_ireturn r_153_26 (n_153_26 _) rfl h
  · skip
    rcases h with ⟨rfl, h⟩ | ⟨rfl, h⟩
    · refine .inr ⟨_, rfl, .inr ⟨_, _, 21, (23, [(0, rf 2), (1, iv x1), (2, iv x2), (3, iv x3), (4, .long u4), (6, rf 275)]), rfl, rfl, rfl, ?_⟩⟩
      refine i_iconst r_153_23 (n_153_23 _) ?_
      exact i_ireturn r_153_24 (n_153_24 _) rfl h
    · refine .inr ⟨_, rfl, .inr ⟨_, _, 17, (19, [(0, rf 2), (1, iv x1), (2, iv x2), (3, iv x3), (4, .long u4), (6, rf 275)]), rfl, rfl, rfl, ?_⟩⟩
      refine i_iconst r_153_19 (n_153_19 _) ?_
      exact i_ireturn r_153_20 (n_153_20 _) rfl h
theorem r_155_0 : xfetch 155 0 = some (.aload 6, 2) := by decide +kernel
theorem n_155_0 : ∀ l, xpr 155 0 l = l := xpr_no (by decide +kernel)
theorem r_155_2 : xfetch 155 2 = some (.iconst 0, 1) := by decide +kernel
theorem n_155_2 : ∀ l, xpr 155 2 l = l := xpr_no (by decide +kernel)
theorem r_155_3 : xfetch 155 3 = some (.aload_n 0, 1) := by decide +kernel
theorem n_155_3 : ∀ l, xpr 155 3 l = l := xpr_no (by decide +kernel)
theorem r_155_4 : xfetch 155 4 = some (.iload_n 1, 1) := by decide +kernel
theorem n_155_4 : ∀ l, xpr 155 4 l = l := xpr_no (by decide +kernel)
theorem r_155_5 : xfetch 155 5 = some (.iload_n 2, 1) := by decide +kernel
theorem n_155_5 : ∀ l, xpr 155 5 l = l := xpr_no (by decide +kernel)
theorem r_155_6 : xfetch 155 6 = some (.lload_n 3, 1) := by decide +kernel
theorem n_155_6 : ∀ l, xpr 155 6 l = l := xpr_no (by decide +kernel)
theorem r_155_7 : xfetch 155 7 = some (.iload 5, 2) := by decide +kernel
theorem n_155_7 : ∀ l, xpr 155 7 l = l := xpr_no (by decide +kernel)
theorem r_155_9 : xfetch 155 9 = some (.invokevirtual 99, 3) := by decide +kernel
theorem n_155_9 : ∀ l, xpr 155 9 l = l := xpr_no (by decide +kernel)
theorem r_155_12 : xfetch 155 12 = some (.i2l, 1) := by decide +kernel
theorem n_155_12 : ∀ l, xpr 155 12 l = l := xpr_no (by decide +kernel)
theorem r_155_13 : xfetch 155 13 = some (.lastore, 1) := by decide +kernel
theorem n_155_13 : ∀ l, xpr 155 13 l = l := xpr_no (by decide +kernel)
theorem r_155_14 : xfetch 155 14 = some (.goto 7, 3) := by decide +kernel
theorem n_155_14 : ∀ l, xpr 155 14 l = l := xpr_no (by decide +kernel)
theorem r_155_19 : xfetch 155 19 = some (.iconst 1, 1) := by decide +kernel
theorem n_155_19 : ∀ l, xpr 155 19 l = l := xpr_no (by decide +kernel)
theorem r_155_20 : xfetch 155 20 = some (.ireturn, 1) := by decide +kernel
theorem n_155_20 : ∀ l, xpr 155 20 l = l := xpr_no (by decide +kernel)
theorem r_155_21 : xfetch 155 21 = some (.iconst 0, 1) := by decide +kernel
theorem n_155_21 : ∀ l, xpr 155 21 l = l := xpr_no (by decide +kernel)
theorem r_155_22 : xfetch 155 22 = some (.ireturn, 1) := by decide +kernel
theorem n_155_22 : ∀ l, xpr 155 22 l = l := xpr_no (by decide +kernel)
theorem v_Law_findRow_0 {S : Option (Nat × (Nat → Int32))} {s : zSt} {Q : Option Value ⊕ Nat → zSt → Prop} {x1 : Int} {x2 : Int} {u3 : Int64} {x5 : Int} 
    (h : wp S 156 0 [(0, rf 2), (1, iv x1), (2, iv x2), (3, .long u3), (5, iv x5)] [] s (fun o1 s1 => zkI (fun y1 => Q (rI 0) (zwL s1 275 0 (zi2l y1))) (fun e1 => (e1 = 2 ∧ Q (rI 1) s1)) o1)) :
    wp S 155 0 [(0, rf 2), (1, iv x1), (2, iv x2), (3, .long u3), (5, iv x5), (6, rf 275)] [] s Q := by
  refine i_aload (a := 275) r_155_0 (n_155_0 _) rfl ?_
  refine i_iconst r_155_2 (n_155_2 _) ?_
  refine i_aload_n (a := 2) r_155_3 (n_155_3 _) rfl ?_
  refine i_iload_n (x := x1) r_155_4 (n_155_4 _) rfl ?_
  refine i_iload_n (x := x2) r_155_5 (n_155_5 _) rfl ?_
  refine i_lload_n (u := u3) r_155_6 (n_155_6 _) rfl ?_
  refine i_iload (x := x5) r_155_7 (n_155_7 _) rfl ?_
  refine wp_virt (b := 2) (rest := [iv 0, rf 275]) (Ls := [(0, rf 2), (1, iv x1), (2, iv x2), (3, .long u3), (5, iv x5)]) r_155_9 (n_155_9 _) rfl ⟨rfl, rfl, by decide, by decide⟩ rfl rfl lf_2 ⟨rfl, Nat.le_of_ble_eq_true rfl, Nat.le_of_ble_eq_true rfl⟩ rfl h ?_
  intro o1 s1 h
  rcases h with ⟨y1, q2, rfl, h⟩ | ⟨e1, rfl, h⟩
  · refine .inl ⟨some (iv y1), rfl, ?_⟩
    show wp S 155 12 [(0, rf 2), (1, iv x1), (2, iv x2), (3, .long u3), (5, iv x5), (6, rf 275)] [iv y1, iv 0, rf 275] s1 Q
    refine i_i2l r_155_12 (n_155_12 _) ?_
    refine i_lastore (a := 275) (j := 0) r_155_13 (n_155_13 _) lf_275 ⟨by omega, by omega⟩ (by omega) (by omega) ?_
    refine i_goto (t := 21) r_155_14 (n_155_14 _) rfl ?_
    refine i_iconst r_155_21 (n_155_21 _) ?_
    exact i_ireturn r_155_22 (n_155_22 _) rfl h
  · skip
    rcases h with ⟨rfl, h⟩
    · refine .inr ⟨_, rfl, .inr ⟨_, _, 17, (19, [(0, rf 2), (1, iv x1), (2, iv x2), (3, .long u3), (5, iv x5), (6, rf 275)]), rfl, rfl, rfl, ?_⟩⟩
      refine i_iconst r_155_19 (n_155_19 _) ?_
      exact i_ireturn r_155_20 (n_155_20 _) rfl h
theorem r_157_0 : xfetch 157 0 = some (.aload_n 3, 1) := by decide +kernel
theorem n_157_0 : ∀ l, xpr 157 0 l = l := xpr_no (by decide +kernel)
theorem r_157_1 : xfetch 157 1 = some (.iconst 0, 1) := by decide +kernel
theorem n_157_1 : ∀ l, xpr 157 1 l = l := xpr_no (by decide +kernel)
theorem r_157_2 : xfetch 157 2 = some (.aload_n 0, 1) := by decide +kernel
theorem n_157_2 : ∀ l, xpr 157 2 l = l := xpr_no (by decide +kernel)
theorem r_157_3 : xfetch 157 3 = some (.iload_n 1, 1) := by decide +kernel
theorem n_157_3 : ∀ l, xpr 157 3 l = l := xpr_no (by decide +kernel)
theorem r_157_4 : xfetch 157 4 = some (.iload_n 2, 1) := by decide +kernel
theorem n_157_4 : ∀ l, xpr 157 4 l = l := xpr_no (by decide +kernel)
theorem r_157_5 : xfetch 157 5 = some (.invokevirtual 103, 3) := by decide +kernel
theorem n_157_5 : ∀ l, xpr 157 5 l = l := xpr_no (by decide +kernel)
theorem r_157_8 : xfetch 157 8 = some (.lastore, 1) := by decide +kernel
theorem n_157_8 : ∀ l, xpr 157 8 l = l := xpr_no (by decide +kernel)
theorem r_157_9 : xfetch 157 9 = some (.goto 7, 3) := by decide +kernel
theorem n_157_9 : ∀ l, xpr 157 9 l = l := xpr_no (by decide +kernel)
theorem r_157_14 : xfetch 157 14 = some (.iconst 1, 1) := by decide +kernel
theorem n_157_14 : ∀ l, xpr 157 14 l = l := xpr_no (by decide +kernel)
theorem r_157_15 : xfetch 157 15 = some (.ireturn, 1) := by decide +kernel
theorem n_157_15 : ∀ l, xpr 157 15 l = l := xpr_no (by decide +kernel)
theorem r_157_16 : xfetch 157 16 = some (.iconst 0, 1) := by decide +kernel
theorem n_157_16 : ∀ l, xpr 157 16 l = l := xpr_no (by decide +kernel)
theorem r_157_17 : xfetch 157 17 = some (.ireturn, 1) := by decide +kernel
theorem n_157_17 : ∀ l, xpr 157 17 l = l := xpr_no (by decide +kernel)
theorem v_Law_sum_0 {S : Option (Nat × (Nat → Int32))} {s : zSt} {Q : Option Value ⊕ Nat → zSt → Prop} {x1 : Int} {x2 : Int} 
    (h : wp S 158 0 [(0, rf 2), (1, iv x1), (2, iv x2)] [] s (fun o1 s1 => zkL (fun y1 => Q (rI 0) (zwL s1 275 0 y1)) (fun e1 => (e1 = 2 ∧ Q (rI 1) s1)) o1)) :
    wp S 157 0 [(0, rf 2), (1, iv x1), (2, iv x2), (3, rf 275)] [] s Q := by
  refine i_aload_n (a := 275) r_157_0 (n_157_0 _) rfl ?_
  refine i_iconst r_157_1 (n_157_1 _) ?_
  refine i_aload_n (a := 2) r_157_2 (n_157_2 _) rfl ?_
  refine i_iload_n (x := x1) r_157_3 (n_157_3 _) rfl ?_
  refine i_iload_n (x := x2) r_157_4 (n_157_4 _) rfl ?_
  refine wp_virt (b := 2) (rest := [iv 0, rf 275]) (Ls := [(0, rf 2), (1, iv x1), (2, iv x2)]) r_157_5 (n_157_5 _) rfl ⟨rfl, rfl, by decide, by decide⟩ rfl rfl lf_2 ⟨rfl, Nat.le_of_ble_eq_true rfl, Nat.le_of_ble_eq_true rfl⟩ rfl h ?_
  intro o1 s1 h
  rcases h with ⟨y1, rfl, h⟩ | ⟨e1, rfl, h⟩
  · refine .inl ⟨some (.long y1), rfl, ?_⟩
    show wp S 157 8 [(0, rf 2), (1, iv x1), (2, iv x2), (3, rf 275)] [.long y1, iv 0, rf 275] s1 Q
    refine i_lastore (a := 275) (j := 0) r_157_8 (n_157_8 _) lf_275 ⟨by omega, by omega⟩ (by omega) (by omega) ?_
    refine i_goto (t := 16) r_157_9 (n_157_9 _) rfl ?_
    refine i_iconst r_157_16 (n_157_16 _) ?_
    exact i_ireturn r_157_17 (n_157_17 _) rfl h
  · skip
    rcases h with ⟨rfl, h⟩
    · refine .inr ⟨_, rfl, .inr ⟨_, _, 12, (14, [(0, rf 2), (1, iv x1), (2, iv x2), (3, rf 275)]), rfl, rfl, rfl, ?_⟩⟩
      refine i_iconst r_157_14 (n_157_14 _) ?_
      exact i_ireturn r_157_15 (n_157_15 _) rfl h
theorem r_159_0 : xfetch 159 0 = some (.aload 7, 2) := by decide +kernel
theorem n_159_0 : ∀ l, xpr 159 0 l = l := xpr_no (by decide +kernel)
theorem r_159_2 : xfetch 159 2 = some (.iconst 0, 1) := by decide +kernel
theorem n_159_2 : ∀ l, xpr 159 2 l = l := xpr_no (by decide +kernel)
theorem r_159_3 : xfetch 159 3 = some (.aload_n 0, 1) := by decide +kernel
theorem n_159_3 : ∀ l, xpr 159 3 l = l := xpr_no (by decide +kernel)
theorem r_159_4 : xfetch 159 4 = some (.iload_n 1, 1) := by decide +kernel
theorem n_159_4 : ∀ l, xpr 159 4 l = l := xpr_no (by decide +kernel)
theorem r_159_5 : xfetch 159 5 = some (.lload_n 2, 1) := by decide +kernel
theorem n_159_5 : ∀ l, xpr 159 5 l = l := xpr_no (by decide +kernel)
theorem r_159_6 : xfetch 159 6 = some (.iload 4, 2) := by decide +kernel
theorem n_159_6 : ∀ l, xpr 159 6 l = l := xpr_no (by decide +kernel)
theorem r_159_8 : xfetch 159 8 = some (.iload 5, 2) := by decide +kernel
theorem n_159_8 : ∀ l, xpr 159 8 l = l := xpr_no (by decide +kernel)
theorem r_159_10 : xfetch 159 10 = some (.iload 6, 2) := by decide +kernel
theorem n_159_10 : ∀ l, xpr 159 10 l = l := xpr_no (by decide +kernel)
theorem r_159_12 : xfetch 159 12 = some (.invokevirtual 107, 3) := by decide +kernel
theorem n_159_12 : ∀ l, xpr 159 12 l = l := xpr_no (by decide +kernel)
theorem r_159_15 : xfetch 159 15 = some (.i2l, 1) := by decide +kernel
theorem n_159_15 : ∀ l, xpr 159 15 l = l := xpr_no (by decide +kernel)
theorem r_159_16 : xfetch 159 16 = some (.lastore, 1) := by decide +kernel
theorem n_159_16 : ∀ l, xpr 159 16 l = l := xpr_no (by decide +kernel)
theorem r_159_17 : xfetch 159 17 = some (.goto 11, 3) := by decide +kernel
theorem n_159_17 : ∀ l, xpr 159 17 l = l := xpr_no (by decide +kernel)
theorem r_159_22 : xfetch 159 22 = some (.iconst 1, 1) := by decide +kernel
theorem n_159_22 : ∀ l, xpr 159 22 l = l := xpr_no (by decide +kernel)
theorem r_159_23 : xfetch 159 23 = some (.ireturn, 1) := by decide +kernel
theorem n_159_23 : ∀ l, xpr 159 23 l = l := xpr_no (by decide +kernel)
theorem r_159_26 : xfetch 159 26 = some (.iconst 2, 1) := by decide +kernel
theorem n_159_26 : ∀ l, xpr 159 26 l = l := xpr_no (by decide +kernel)
theorem r_159_27 : xfetch 159 27 = some (.ireturn, 1) := by decide +kernel
theorem n_159_27 : ∀ l, xpr 159 27 l = l := xpr_no (by decide +kernel)
theorem r_159_28 : xfetch 159 28 = some (.iconst 0, 1) := by decide +kernel
theorem n_159_28 : ∀ l, xpr 159 28 l = l := xpr_no (by decide +kernel)
theorem r_159_29 : xfetch 159 29 = some (.ireturn, 1) := by decide +kernel
theorem n_159_29 : ∀ l, xpr 159 29 l = l := xpr_no (by decide +kernel)
theorem v_Law_lines_0 {S : Option (Nat × (Nat → Int32))} {s : zSt} {Q : Option Value ⊕ Nat → zSt → Prop} {x1 : Int} {u2 : Int64} {x4 : Int} {x5 : Int} {x6 : Int} 
    (h : wp S 160 0 [(0, rf 2), (1, iv x1), (2, .long u2), (4, iv x4), (5, iv x5), (6, iv x6)] [] s (fun o1 s1 => zkI (fun y1 => Q (rI 0) (zwL s1 275 0 (zi2l y1))) (fun e1 => (e1 = 0 ∧ Q (rI 2) s1) ∨ (e1 = 2 ∧ Q (rI 1) s1)) o1)) :
    wp S 159 0 [(0, rf 2), (1, iv x1), (2, .long u2), (4, iv x4), (5, iv x5), (6, iv x6), (7, rf 275)] [] s Q := by
  refine i_aload (a := 275) r_159_0 (n_159_0 _) rfl ?_
  refine i_iconst r_159_2 (n_159_2 _) ?_
  refine i_aload_n (a := 2) r_159_3 (n_159_3 _) rfl ?_
  refine i_iload_n (x := x1) r_159_4 (n_159_4 _) rfl ?_
  refine i_lload_n (u := u2) r_159_5 (n_159_5 _) rfl ?_
  refine i_iload (x := x4) r_159_6 (n_159_6 _) rfl ?_
  refine i_iload (x := x5) r_159_8 (n_159_8 _) rfl ?_
  refine i_iload (x := x6) r_159_10 (n_159_10 _) rfl ?_
  refine wp_virt (b := 2) (rest := [iv 0, rf 275]) (Ls := [(0, rf 2), (1, iv x1), (2, .long u2), (4, iv x4), (5, iv x5), (6, iv x6)]) r_159_12 (n_159_12 _) rfl ⟨rfl, rfl, by decide, by decide⟩ rfl rfl lf_2 ⟨rfl, Nat.le_of_ble_eq_true rfl, Nat.le_of_ble_eq_true rfl⟩ rfl h ?_
  intro o1 s1 h
  rcases h with ⟨y1, q2, rfl, h⟩ | ⟨e1, rfl, h⟩
  · refine .inl ⟨some (iv y1), rfl, ?_⟩
    show wp S 159 15 [(0, rf 2), (1, iv x1), (2, .long u2), (4, iv x4), (5, iv x5), (6, iv x6), (7, rf 275)] [iv y1, iv 0, rf 275] s1 Q
    refine i_i2l r_159_15 (n_159_15 _) ?_
    refine i_lastore (a := 275) (j := 0) r_159_16 (n_159_16 _) lf_275 ⟨by omega, by omega⟩ (by omega) (by omega) ?_
    refine i_goto (t := 28) r_159_17 (n_159_17 _) rfl ?_
    refine i_iconst r_159_28 (n_159_28 _) ?_
    exact i_ireturn r_159_29 (n_159_29 _) rfl h
  · skip
    rcases h with ⟨rfl, h⟩ | ⟨rfl, h⟩
    · refine .inr ⟨_, rfl, .inr ⟨_, _, 24, (26, [(0, rf 2), (1, iv x1), (2, .long u2), (4, iv x4), (5, iv x5), (6, iv x6), (7, rf 275)]), rfl, rfl, rfl, ?_⟩⟩
      refine i_iconst r_159_26 (n_159_26 _) ?_
      exact i_ireturn r_159_27 (n_159_27 _) rfl h
    · refine .inr ⟨_, rfl, .inr ⟨_, _, 20, (22, [(0, rf 2), (1, iv x1), (2, .long u2), (4, iv x4), (5, iv x5), (6, iv x6), (7, rf 275)]), rfl, rfl, rfl, ?_⟩⟩
      refine i_iconst r_159_22 (n_159_22 _) ?_
      exact i_ireturn r_159_23 (n_159_23 _) rfl h
theorem r_169_0 : xfetch 169 0 = some (.aload 6, 2) := by decide +kernel
theorem n_169_0 : ∀ l, xpr 169 0 l = l := xpr_no (by decide +kernel)
theorem r_169_2 : xfetch 169 2 = some (.iconst 0, 1) := by decide +kernel
theorem n_169_2 : ∀ l, xpr 169 2 l = l := xpr_no (by decide +kernel)
theorem r_169_3 : xfetch 169 3 = some (.aload_n 0, 1) := by decide +kernel
theorem n_169_3 : ∀ l, xpr 169 3 l = l := xpr_no (by decide +kernel)
theorem r_169_4 : xfetch 169 4 = some (.iload_n 1, 1) := by decide +kernel
theorem n_169_4 : ∀ l, xpr 169 4 l = l := xpr_no (by decide +kernel)
theorem r_169_5 : xfetch 169 5 = some (.lload_n 2, 1) := by decide +kernel
theorem n_169_5 : ∀ l, xpr 169 5 l = l := xpr_no (by decide +kernel)
theorem r_169_6 : xfetch 169 6 = some (.iload 4, 2) := by decide +kernel
theorem n_169_6 : ∀ l, xpr 169 6 l = l := xpr_no (by decide +kernel)
theorem r_169_8 : xfetch 169 8 = some (.iload 5, 2) := by decide +kernel
theorem n_169_8 : ∀ l, xpr 169 8 l = l := xpr_no (by decide +kernel)
theorem r_169_10 : xfetch 169 10 = some (.invokevirtual 111, 3) := by decide +kernel
theorem n_169_10 : ∀ l, xpr 169 10 l = l := xpr_no (by decide +kernel)
theorem r_169_13 : xfetch 169 13 = some (.i2l, 1) := by decide +kernel
theorem n_169_13 : ∀ l, xpr 169 13 l = l := xpr_no (by decide +kernel)
theorem r_169_14 : xfetch 169 14 = some (.lastore, 1) := by decide +kernel
theorem n_169_14 : ∀ l, xpr 169 14 l = l := xpr_no (by decide +kernel)
theorem r_169_15 : xfetch 169 15 = some (.goto 11, 3) := by decide +kernel
theorem n_169_15 : ∀ l, xpr 169 15 l = l := xpr_no (by decide +kernel)
theorem r_169_20 : xfetch 169 20 = some (.iconst 1, 1) := by decide +kernel
theorem n_169_20 : ∀ l, xpr 169 20 l = l := xpr_no (by decide +kernel)
theorem r_169_21 : xfetch 169 21 = some (.ireturn, 1) := by decide +kernel
theorem n_169_21 : ∀ l, xpr 169 21 l = l := xpr_no (by decide +kernel)
theorem r_169_24 : xfetch 169 24 = some (.iconst 2, 1) := by decide +kernel
theorem n_169_24 : ∀ l, xpr 169 24 l = l := xpr_no (by decide +kernel)
theorem r_169_25 : xfetch 169 25 = some (.ireturn, 1) := by decide +kernel
theorem n_169_25 : ∀ l, xpr 169 25 l = l := xpr_no (by decide +kernel)
theorem r_169_26 : xfetch 169 26 = some (.iconst 0, 1) := by decide +kernel
theorem n_169_26 : ∀ l, xpr 169 26 l = l := xpr_no (by decide +kernel)
theorem r_169_27 : xfetch 169 27 = some (.ireturn, 1) := by decide +kernel
theorem n_169_27 : ∀ l, xpr 169 27 l = l := xpr_no (by decide +kernel)
theorem v_Law_runs_0 {S : Option (Nat × (Nat → Int32))} {s : zSt} {Q : Option Value ⊕ Nat → zSt → Prop} {x1 : Int} {u2 : Int64} {x4 : Int} {x5 : Int} 
    (h : wp S 170 0 [(0, rf 2), (1, iv x1), (2, .long u2), (4, iv x4), (5, iv x5)] [] s (fun o1 s1 => zkI (fun y1 => Q (rI 0) (zwL s1 275 0 (zi2l y1))) (fun e1 => (e1 = 0 ∧ Q (rI 2) s1) ∨ (e1 = 2 ∧ Q (rI 1) s1)) o1)) :
    wp S 169 0 [(0, rf 2), (1, iv x1), (2, .long u2), (4, iv x4), (5, iv x5), (6, rf 275)] [] s Q := by
  refine i_aload (a := 275) r_169_0 (n_169_0 _) rfl ?_
  refine i_iconst r_169_2 (n_169_2 _) ?_
  refine i_aload_n (a := 2) r_169_3 (n_169_3 _) rfl ?_
  refine i_iload_n (x := x1) r_169_4 (n_169_4 _) rfl ?_
  refine i_lload_n (u := u2) r_169_5 (n_169_5 _) rfl ?_
  refine i_iload (x := x4) r_169_6 (n_169_6 _) rfl ?_
  refine i_iload (x := x5) r_169_8 (n_169_8 _) rfl ?_
  refine wp_virt (b := 2) (rest := [iv 0, rf 275]) (Ls := [(0, rf 2), (1, iv x1), (2, .long u2), (4, iv x4), (5, iv x5)]) r_169_10 (n_169_10 _) rfl ⟨rfl, rfl, by decide, by decide⟩ rfl rfl lf_2 ⟨rfl, Nat.le_of_ble_eq_true rfl, Nat.le_of_ble_eq_true rfl⟩ rfl h ?_
  intro o1 s1 h
  rcases h with ⟨y1, q2, rfl, h⟩ | ⟨e1, rfl, h⟩
  · refine .inl ⟨some (iv y1), rfl, ?_⟩
    show wp S 169 13 [(0, rf 2), (1, iv x1), (2, .long u2), (4, iv x4), (5, iv x5), (6, rf 275)] [iv y1, iv 0, rf 275] s1 Q
    refine i_i2l r_169_13 (n_169_13 _) ?_
    refine i_lastore (a := 275) (j := 0) r_169_14 (n_169_14 _) lf_275 ⟨by omega, by omega⟩ (by omega) (by omega) ?_
    refine i_goto (t := 26) r_169_15 (n_169_15 _) rfl ?_
    refine i_iconst r_169_26 (n_169_26 _) ?_
    exact i_ireturn r_169_27 (n_169_27 _) rfl h
  · skip
    rcases h with ⟨rfl, h⟩ | ⟨rfl, h⟩
    · refine .inr ⟨_, rfl, .inr ⟨_, _, 22, (24, [(0, rf 2), (1, iv x1), (2, .long u2), (4, iv x4), (5, iv x5), (6, rf 275)]), rfl, rfl, rfl, ?_⟩⟩
      refine i_iconst r_169_24 (n_169_24 _) ?_
      exact i_ireturn r_169_25 (n_169_25 _) rfl h
    · refine .inr ⟨_, rfl, .inr ⟨_, _, 18, (20, [(0, rf 2), (1, iv x1), (2, .long u2), (4, iv x4), (5, iv x5), (6, rf 275)]), rfl, rfl, rfl, ?_⟩⟩
      refine i_iconst r_169_20 (n_169_20 _) ?_
      exact i_ireturn r_169_21 (n_169_21 _) rfl h
theorem r_172_0 : xfetch 172 0 = some (.aload 5, 2) := by decide +kernel
theorem n_172_0 : ∀ l, xpr 172 0 l = l := xpr_no (by decide +kernel)
theorem r_172_2 : xfetch 172 2 = some (.iconst 0, 1) := by decide +kernel
theorem n_172_2 : ∀ l, xpr 172 2 l = l := xpr_no (by decide +kernel)
theorem r_172_3 : xfetch 172 3 = some (.aload_n 0, 1) := by decide +kernel
theorem n_172_3 : ∀ l, xpr 172 3 l = l := xpr_no (by decide +kernel)
theorem r_172_4 : xfetch 172 4 = some (.iload_n 1, 1) := by decide +kernel
theorem n_172_4 : ∀ l, xpr 172 4 l = l := xpr_no (by decide +kernel)
theorem r_172_5 : xfetch 172 5 = some (.lload_n 2, 1) := by decide +kernel
theorem n_172_5 : ∀ l, xpr 172 5 l = l := xpr_no (by decide +kernel)
theorem r_172_6 : xfetch 172 6 = some (.iload 4, 2) := by decide +kernel
theorem n_172_6 : ∀ l, xpr 172 6 l = l := xpr_no (by decide +kernel)
theorem r_172_8 : xfetch 172 8 = some (.invokevirtual 115, 3) := by decide +kernel
theorem n_172_8 : ∀ l, xpr 172 8 l = l := xpr_no (by decide +kernel)
theorem r_172_11 : xfetch 172 11 = some (.i2l, 1) := by decide +kernel
theorem n_172_11 : ∀ l, xpr 172 11 l = l := xpr_no (by decide +kernel)
theorem r_172_12 : xfetch 172 12 = some (.lastore, 1) := by decide +kernel
theorem n_172_12 : ∀ l, xpr 172 12 l = l := xpr_no (by decide +kernel)
theorem r_172_13 : xfetch 172 13 = some (.goto 11, 3) := by decide +kernel
theorem n_172_13 : ∀ l, xpr 172 13 l = l := xpr_no (by decide +kernel)
theorem r_172_18 : xfetch 172 18 = some (.iconst 1, 1) := by decide +kernel
theorem n_172_18 : ∀ l, xpr 172 18 l = l := xpr_no (by decide +kernel)
theorem r_172_19 : xfetch 172 19 = some (.ireturn, 1) := by decide +kernel
theorem n_172_19 : ∀ l, xpr 172 19 l = l := xpr_no (by decide +kernel)
theorem r_172_22 : xfetch 172 22 = some (.iconst 2, 1) := by decide +kernel
theorem n_172_22 : ∀ l, xpr 172 22 l = l := xpr_no (by decide +kernel)
theorem r_172_23 : xfetch 172 23 = some (.ireturn, 1) := by decide +kernel
theorem n_172_23 : ∀ l, xpr 172 23 l = l := xpr_no (by decide +kernel)
theorem r_172_24 : xfetch 172 24 = some (.iconst 0, 1) := by decide +kernel
theorem n_172_24 : ∀ l, xpr 172 24 l = l := xpr_no (by decide +kernel)
theorem r_172_25 : xfetch 172 25 = some (.ireturn, 1) := by decide +kernel
theorem n_172_25 : ∀ l, xpr 172 25 l = l := xpr_no (by decide +kernel)
theorem v_Law_bestLayout_0 {S : Option (Nat × (Nat → Int32))} {s : zSt} {Q : Option Value ⊕ Nat → zSt → Prop} {x1 : Int} {u2 : Int64} {x4 : Int} 
    (h : wp S 173 0 [(0, rf 2), (1, iv x1), (2, .long u2), (4, iv x4)] [] s (fun o1 s1 => zkI (fun y1 => Q (rI 0) (zwL s1 275 0 (zi2l y1))) (fun e1 => (e1 = 0 ∧ Q (rI 2) s1) ∨ (e1 = 2 ∧ Q (rI 1) s1)) o1)) :
    wp S 172 0 [(0, rf 2), (1, iv x1), (2, .long u2), (4, iv x4), (5, rf 275)] [] s Q := by
  refine i_aload (a := 275) r_172_0 (n_172_0 _) rfl ?_
  refine i_iconst r_172_2 (n_172_2 _) ?_
  refine i_aload_n (a := 2) r_172_3 (n_172_3 _) rfl ?_
  refine i_iload_n (x := x1) r_172_4 (n_172_4 _) rfl ?_
  refine i_lload_n (u := u2) r_172_5 (n_172_5 _) rfl ?_
  refine i_iload (x := x4) r_172_6 (n_172_6 _) rfl ?_
  refine wp_virt (b := 2) (rest := [iv 0, rf 275]) (Ls := [(0, rf 2), (1, iv x1), (2, .long u2), (4, iv x4)]) r_172_8 (n_172_8 _) rfl ⟨rfl, rfl, by decide, by decide⟩ rfl rfl lf_2 ⟨rfl, Nat.le_of_ble_eq_true rfl, Nat.le_of_ble_eq_true rfl⟩ rfl h ?_
  intro o1 s1 h
  rcases h with ⟨y1, q2, rfl, h⟩ | ⟨e1, rfl, h⟩
  · refine .inl ⟨some (iv y1), rfl, ?_⟩
    show wp S 172 11 [(0, rf 2), (1, iv x1), (2, .long u2), (4, iv x4), (5, rf 275)] [iv y1, iv 0, rf 275] s1 Q
    refine i_i2l r_172_11 (n_172_11 _) ?_
    refine i_lastore (a := 275) (j := 0) r_172_12 (n_172_12 _) lf_275 ⟨by omega, by omega⟩ (by omega) (by omega) ?_
    refine i_goto (t := 24) r_172_13 (n_172_13 _) rfl ?_
    refine i_iconst r_172_24 (n_172_24 _) ?_
    exact i_ireturn r_172_25 (n_172_25 _) rfl h
  · skip
    rcases h with ⟨rfl, h⟩ | ⟨rfl, h⟩
    · refine .inr ⟨_, rfl, .inr ⟨_, _, 20, (22, [(0, rf 2), (1, iv x1), (2, .long u2), (4, iv x4), (5, rf 275)]), rfl, rfl, rfl, ?_⟩⟩
      refine i_iconst r_172_22 (n_172_22 _) ?_
      exact i_ireturn r_172_23 (n_172_23 _) rfl h
    · refine .inr ⟨_, rfl, .inr ⟨_, _, 16, (18, [(0, rf 2), (1, iv x1), (2, .long u2), (4, iv x4), (5, rf 275)]), rfl, rfl, rfl, ?_⟩⟩
      refine i_iconst r_172_18 (n_172_18 _) ?_
      exact i_ireturn r_172_19 (n_172_19 _) rfl h
theorem r_174_0 : xfetch 174 0 = some (.aload_n 1, 1) := by decide +kernel
theorem n_174_0 : ∀ l, xpr 174 0 l = l := xpr_no (by decide +kernel)
theorem r_174_1 : xfetch 174 1 = some (.iconst 0, 1) := by decide +kernel
theorem n_174_1 : ∀ l, xpr 174 1 l = l := xpr_no (by decide +kernel)
theorem r_174_2 : xfetch 174 2 = some (.aload_n 0, 1) := by decide +kernel
theorem n_174_2 : ∀ l, xpr 174 2 l = l := xpr_no (by decide +kernel)
theorem r_174_3 : xfetch 174 3 = some (.invokevirtual 119, 3) := by decide +kernel
theorem n_174_3 : ∀ l, xpr 174 3 l = l := xpr_no (by decide +kernel)
theorem r_174_6 : xfetch 174 6 = some (.i2l, 1) := by decide +kernel
theorem n_174_6 : ∀ l, xpr 174 6 l = l := xpr_no (by decide +kernel)
theorem r_174_7 : xfetch 174 7 = some (.lastore, 1) := by decide +kernel
theorem n_174_7 : ∀ l, xpr 174 7 l = l := xpr_no (by decide +kernel)
theorem r_174_8 : xfetch 174 8 = some (.goto 6, 3) := by decide +kernel
theorem n_174_8 : ∀ l, xpr 174 8 l = l := xpr_no (by decide +kernel)
theorem r_174_12 : xfetch 174 12 = some (.iconst 1, 1) := by decide +kernel
theorem n_174_12 : ∀ l, xpr 174 12 l = l := xpr_no (by decide +kernel)
theorem r_174_13 : xfetch 174 13 = some (.ireturn, 1) := by decide +kernel
theorem n_174_13 : ∀ l, xpr 174 13 l = l := xpr_no (by decide +kernel)
theorem r_174_14 : xfetch 174 14 = some (.iconst 0, 1) := by decide +kernel
theorem n_174_14 : ∀ l, xpr 174 14 l = l := xpr_no (by decide +kernel)
theorem r_174_15 : xfetch 174 15 = some (.ireturn, 1) := by decide +kernel
theorem n_174_15 : ∀ l, xpr 174 15 l = l := xpr_no (by decide +kernel)
theorem v_Law_undo_0 {S : Option (Nat × (Nat → Int32))} {s : zSt} {Q : Option Value ⊕ Nat → zSt → Prop}  
    (h : wp S 175 0 [(0, rf 2)] [] s (fun o1 s1 => zkI (fun y1 => Q (rI 0) (zwL s1 275 0 (zi2l y1))) (fun e1 => (e1 = 1 ∧ Q (rI 1) s1)) o1)) :
    wp S 174 0 [(0, rf 2), (1, rf 275)] [] s Q := by
  refine i_aload_n (a := 275) r_174_0 (n_174_0 _) rfl ?_
  refine i_iconst r_174_1 (n_174_1 _) ?_
  refine i_aload_n (a := 2) r_174_2 (n_174_2 _) rfl ?_
  refine wp_virt (b := 2) (rest := [iv 0, rf 275]) (Ls := [(0, rf 2)]) r_174_3 (n_174_3 _) rfl ⟨rfl, rfl, by decide, by decide⟩ rfl rfl lf_2 ⟨rfl, Nat.le_of_ble_eq_true rfl, Nat.le_of_ble_eq_true rfl⟩ rfl h ?_
  intro o1 s1 h
  rcases h with ⟨y1, q2, rfl, h⟩ | ⟨e1, rfl, h⟩
  · refine .inl ⟨some (iv y1), rfl, ?_⟩
    show wp S 174 6 [(0, rf 2), (1, rf 275)] [iv y1, iv 0, rf 275] s1 Q
    refine i_i2l r_174_6 (n_174_6 _) ?_
    refine i_lastore (a := 275) (j := 0) r_174_7 (n_174_7 _) lf_275 ⟨by omega, by omega⟩ (by omega) (by omega) ?_
    refine i_goto (t := 14) r_174_8 (n_174_8 _) rfl ?_
    refine i_iconst r_174_14 (n_174_14 _) ?_
    exact i_ireturn r_174_15 (n_174_15 _) rfl h
  · skip
    rcases h with ⟨rfl, h⟩
    · refine .inr ⟨_, rfl, .inr ⟨_, _, 11, (12, [(0, rf 2), (1, rf 275)]), rfl, rfl, rfl, ?_⟩⟩
      refine i_iconst r_174_12 (n_174_12 _) ?_
      exact i_ireturn r_174_13 (n_174_13 _) rfl h
theorem r_276_23 : xfetch 276 23 = some (.iload 4, 2) := by decide +kernel
theorem r_276_25 : xfetch 276 25 = some (.aload_n 0, 1) := by decide +kernel
theorem n_276_25 : ∀ l, xpr 276 25 l = l := xpr_no (by decide +kernel)
theorem r_276_26 : xfetch 276 26 = some (.arraylength, 1) := by decide +kernel
theorem n_276_26 : ∀ l, xpr 276 26 l = l := xpr_no (by decide +kernel)
theorem r_276_27 : xfetch 276 27 = some (.bipush 7, 2) := by decide +kernel
theorem n_276_27 : ∀ l, xpr 276 27 l = l := xpr_no (by decide +kernel)
theorem r_276_29 : xfetch 276 29 = some (.isub, 1) := by decide +kernel
theorem n_276_29 : ∀ l, xpr 276 29 l = l := xpr_no (by decide +kernel)
theorem r_276_30 : xfetch 276 30 = some (.if_icmp .gt 2884, 3) := by decide +kernel
theorem n_276_30 : ∀ l, xpr 276 30 l = l := xpr_no (by decide +kernel)
theorem r_276_33 : xfetch 276 33 = some (.aload_n 0, 1) := by decide +kernel
theorem n_276_33 : ∀ l, xpr 276 33 l = l := xpr_no (by decide +kernel)
theorem r_276_34 : xfetch 276 34 = some (.iload 4, 2) := by decide +kernel
theorem n_276_34 : ∀ l, xpr 276 34 l = l := xpr_no (by decide +kernel)
theorem r_276_36 : xfetch 276 36 = some (.iaload, 1) := by decide +kernel
theorem n_276_36 : ∀ l, xpr 276 36 l = l := xpr_no (by decide +kernel)
theorem r_276_37 : xfetch 276 37 = some (.bipush 63, 2) := by decide +kernel
theorem n_276_37 : ∀ l, xpr 276 37 l = l := xpr_no (by decide +kernel)
theorem r_276_39 : xfetch 276 39 = some (.iand, 1) := by decide +kernel
theorem n_276_39 : ∀ l, xpr 276 39 l = l := xpr_no (by decide +kernel)
theorem r_276_40 : xfetch 276 40 = some (.tableswitch 2868 0 36 #[164, 220, 312, 325, 393, 473, 553, 633, 689, 745, 813, 869, 882, 938, 1030, 1086, 1099, 1167, 1247, 1326, 1449, 1505, 1573, 1614, 1694, 1774, 1787, 1883, 2041, 2121, 2245, 2369, 2436, 2574, 2698, 2810, 2854], 164) := by decide +kernel
theorem n_276_40 : ∀ l, xpr 276 40 l = l := xpr_no (by decide +kernel)
theorem r_276_204 : xfetch 276 204 = some (.aload_n 1, 1) := by decide +kernel
theorem r_276_205 : xfetch 276 205 = some (.aload_n 0, 1) := by decide +kernel
theorem n_276_205 : ∀ l, xpr 276 205 l = l := xpr_no (by decide +kernel)
theorem r_276_206 : xfetch 276 206 = some (.iload 4, 2) := by decide +kernel
theorem n_276_206 : ∀ l, xpr 276 206 l = l := xpr_no (by decide +kernel)
theorem r_276_208 : xfetch 276 208 = some (.iconst 1, 1) := by decide +kernel
theorem n_276_208 : ∀ l, xpr 276 208 l = l := xpr_no (by decide +kernel)
theorem r_276_209 : xfetch 276 209 = some (.iadd, 1) := by decide +kernel
theorem n_276_209 : ∀ l, xpr 276 209 l = l := xpr_no (by decide +kernel)
theorem r_276_210 : xfetch 276 210 = some (.iaload, 1) := by decide +kernel
theorem n_276_210 : ∀ l, xpr 276 210 l = l := xpr_no (by decide +kernel)
theorem r_276_211 : xfetch 276 211 = some (.aload_n 3, 1) := by decide +kernel
theorem n_276_211 : ∀ l, xpr 276 211 l = l := xpr_no (by decide +kernel)
theorem r_276_212 : xfetch 276 212 = some (.invokestatic 127, 3) := by decide +kernel
theorem n_276_212 : ∀ l, xpr 276 212 l = l := xpr_no (by decide +kernel)
theorem r_276_215 : xfetch 276 215 = some (.istore 5, 2) := by decide +kernel
theorem n_276_215 : ∀ l, xpr 276 215 l = l := xpr_no (by decide +kernel)
theorem r_276_217 : xfetch 276 217 = some (.aload_n 2, 1) := by decide +kernel
theorem n_276_217 : ∀ l, xpr 276 217 l = l := xpr_no (by decide +kernel)
theorem r_276_218 : xfetch 276 218 = some (.aload_n 0, 1) := by decide +kernel
theorem n_276_218 : ∀ l, xpr 276 218 l = l := xpr_no (by decide +kernel)
theorem r_276_219 : xfetch 276 219 = some (.iload 4, 2) := by decide +kernel
theorem n_276_219 : ∀ l, xpr 276 219 l = l := xpr_no (by decide +kernel)
theorem r_276_221 : xfetch 276 221 = some (.iconst 1, 1) := by decide +kernel
theorem n_276_221 : ∀ l, xpr 276 221 l = l := xpr_no (by decide +kernel)
theorem r_276_222 : xfetch 276 222 = some (.iadd, 1) := by decide +kernel
theorem n_276_222 : ∀ l, xpr 276 222 l = l := xpr_no (by decide +kernel)
theorem r_276_223 : xfetch 276 223 = some (.iaload, 1) := by decide +kernel
theorem n_276_223 : ∀ l, xpr 276 223 l = l := xpr_no (by decide +kernel)
theorem r_276_224 : xfetch 276 224 = some (.invokevirtual 132, 3) := by decide +kernel
theorem n_276_224 : ∀ l, xpr 276 224 l = l := xpr_no (by decide +kernel)
theorem r_276_227 : xfetch 276 227 = some (.istore 6, 2) := by decide +kernel
theorem n_276_227 : ∀ l, xpr 276 227 l = l := xpr_no (by decide +kernel)
theorem r_276_229 : xfetch 276 229 = some (.aload_n 2, 1) := by decide +kernel
theorem n_276_229 : ∀ l, xpr 276 229 l = l := xpr_no (by decide +kernel)
theorem r_276_230 : xfetch 276 230 = some (.invokevirtual 133, 3) := by decide +kernel
theorem n_276_230 : ∀ l, xpr 276 230 l = l := xpr_no (by decide +kernel)
theorem r_276_233 : xfetch 276 233 = some (.iload 5, 2) := by decide +kernel
theorem n_276_233 : ∀ l, xpr 276 233 l = l := xpr_no (by decide +kernel)
theorem r_276_235 : xfetch 276 235 = some (.if_icmp .eq 5, 3) := by decide +kernel
theorem n_276_235 : ∀ l, xpr 276 235 l = l := xpr_no (by decide +kernel)
theorem r_276_238 : xfetch 276 238 = some (.iconst 0, 1) := by decide +kernel
theorem n_276_238 : ∀ l, xpr 276 238 l = l := xpr_no (by decide +kernel)
theorem r_276_239 : xfetch 276 239 = some (.ireturn, 1) := by decide +kernel
theorem n_276_239 : ∀ l, xpr 276 239 l = l := xpr_no (by decide +kernel)
theorem r_276_240 : xfetch 276 240 = some (.iload 5, 2) := by decide +kernel
theorem n_276_240 : ∀ l, xpr 276 240 l = l := xpr_no (by decide +kernel)
theorem r_276_242 : xfetch 276 242 = some (.ifCond .ne 15, 3) := by decide +kernel
theorem n_276_242 : ∀ l, xpr 276 242 l = l := xpr_no (by decide +kernel)
theorem r_276_245 : xfetch 276 245 = some (.aload_n 3, 1) := by decide +kernel
theorem n_276_245 : ∀ l, xpr 276 245 l = l := xpr_no (by decide +kernel)
theorem r_276_246 : xfetch 276 246 = some (.iconst 0, 1) := by decide +kernel
theorem n_276_246 : ∀ l, xpr 276 246 l = l := xpr_no (by decide +kernel)
theorem r_276_247 : xfetch 276 247 = some (.laload, 1) := by decide +kernel
theorem n_276_247 : ∀ l, xpr 276 247 l = l := xpr_no (by decide +kernel)
theorem r_276_248 : xfetch 276 248 = some (.iload 6, 2) := by decide +kernel
theorem n_276_248 : ∀ l, xpr 276 248 l = l := xpr_no (by decide +kernel)
theorem r_276_250 : xfetch 276 250 = some (.i2l, 1) := by decide +kernel
theorem n_276_250 : ∀ l, xpr 276 250 l = l := xpr_no (by decide +kernel)
theorem r_276_251 : xfetch 276 251 = some (.lcmp, 1) := by decide +kernel
theorem n_276_251 : ∀ l, xpr 276 251 l = l := xpr_no (by decide +kernel)
theorem r_276_252 : xfetch 276 252 = some (.ifCond .eq 5, 3) := by decide +kernel
theorem n_276_252 : ∀ l, xpr 276 252 l = l := xpr_no (by decide +kernel)
theorem r_276_255 : xfetch 276 255 = some (.iconst 0, 1) := by decide +kernel
theorem n_276_255 : ∀ l, xpr 276 255 l = l := xpr_no (by decide +kernel)
theorem r_276_256 : xfetch 276 256 = some (.ireturn, 1) := by decide +kernel
theorem n_276_256 : ∀ l, xpr 276 256 l = l := xpr_no (by decide +kernel)
theorem r_276_257 : xfetch 276 257 = some (.goto 2651, 3) := by decide +kernel
theorem n_276_257 : ∀ l, xpr 276 257 l = l := xpr_no (by decide +kernel)
theorem r_276_260 : xfetch 276 260 = some (.aload_n 1, 1) := by decide +kernel
theorem r_276_261 : xfetch 276 261 = some (.aload_n 0, 1) := by decide +kernel
theorem n_276_261 : ∀ l, xpr 276 261 l = l := xpr_no (by decide +kernel)
theorem r_276_262 : xfetch 276 262 = some (.iload 4, 2) := by decide +kernel
theorem n_276_262 : ∀ l, xpr 276 262 l = l := xpr_no (by decide +kernel)
theorem r_276_264 : xfetch 276 264 = some (.iconst 1, 1) := by decide +kernel
theorem n_276_264 : ∀ l, xpr 276 264 l = l := xpr_no (by decide +kernel)
theorem r_276_265 : xfetch 276 265 = some (.iadd, 1) := by decide +kernel
theorem n_276_265 : ∀ l, xpr 276 265 l = l := xpr_no (by decide +kernel)
theorem r_276_266 : xfetch 276 266 = some (.iaload, 1) := by decide +kernel
theorem n_276_266 : ∀ l, xpr 276 266 l = l := xpr_no (by decide +kernel)
theorem r_276_267 : xfetch 276 267 = some (.aload_n 0, 1) := by decide +kernel
theorem n_276_267 : ∀ l, xpr 276 267 l = l := xpr_no (by decide +kernel)
theorem r_276_268 : xfetch 276 268 = some (.iload 4, 2) := by decide +kernel
theorem n_276_268 : ∀ l, xpr 276 268 l = l := xpr_no (by decide +kernel)
theorem r_276_270 : xfetch 276 270 = some (.iconst 2, 1) := by decide +kernel
theorem n_276_270 : ∀ l, xpr 276 270 l = l := xpr_no (by decide +kernel)
theorem r_276_271 : xfetch 276 271 = some (.iadd, 1) := by decide +kernel
theorem n_276_271 : ∀ l, xpr 276 271 l = l := xpr_no (by decide +kernel)
theorem r_276_272 : xfetch 276 272 = some (.iaload, 1) := by decide +kernel
theorem n_276_272 : ∀ l, xpr 276 272 l = l := xpr_no (by decide +kernel)
theorem r_276_273 : xfetch 276 273 = some (.aload_n 0, 1) := by decide +kernel
theorem n_276_273 : ∀ l, xpr 276 273 l = l := xpr_no (by decide +kernel)
theorem r_276_274 : xfetch 276 274 = some (.iload 4, 2) := by decide +kernel
theorem n_276_274 : ∀ l, xpr 276 274 l = l := xpr_no (by decide +kernel)
theorem r_276_276 : xfetch 276 276 = some (.iconst 3, 1) := by decide +kernel
theorem n_276_276 : ∀ l, xpr 276 276 l = l := xpr_no (by decide +kernel)
theorem r_276_277 : xfetch 276 277 = some (.iadd, 1) := by decide +kernel
theorem n_276_277 : ∀ l, xpr 276 277 l = l := xpr_no (by decide +kernel)
theorem r_276_278 : xfetch 276 278 = some (.iaload, 1) := by decide +kernel
theorem n_276_278 : ∀ l, xpr 276 278 l = l := xpr_no (by decide +kernel)
theorem r_276_279 : xfetch 276 279 = some (.aload_n 0, 1) := by decide +kernel
theorem n_276_279 : ∀ l, xpr 276 279 l = l := xpr_no (by decide +kernel)
theorem r_276_280 : xfetch 276 280 = some (.iload 4, 2) := by decide +kernel
theorem n_276_280 : ∀ l, xpr 276 280 l = l := xpr_no (by decide +kernel)
theorem r_276_282 : xfetch 276 282 = some (.iconst 4, 1) := by decide +kernel
theorem n_276_282 : ∀ l, xpr 276 282 l = l := xpr_no (by decide +kernel)
theorem r_276_283 : xfetch 276 283 = some (.iadd, 1) := by decide +kernel
theorem n_276_283 : ∀ l, xpr 276 283 l = l := xpr_no (by decide +kernel)
theorem r_276_284 : xfetch 276 284 = some (.iaload, 1) := by decide +kernel
theorem n_276_284 : ∀ l, xpr 276 284 l = l := xpr_no (by decide +kernel)
theorem r_276_285 : xfetch 276 285 = some (.aload_n 3, 1) := by decide +kernel
theorem n_276_285 : ∀ l, xpr 276 285 l = l := xpr_no (by decide +kernel)
theorem r_276_286 : xfetch 276 286 = some (.invokestatic 136, 3) := by decide +kernel
theorem n_276_286 : ∀ l, xpr 276 286 l = l := xpr_no (by decide +kernel)
theorem r_276_289 : xfetch 276 289 = some (.istore 5, 2) := by decide +kernel
theorem n_276_289 : ∀ l, xpr 276 289 l = l := xpr_no (by decide +kernel)
theorem r_276_291 : xfetch 276 291 = some (.aload_n 2, 1) := by decide +kernel
theorem n_276_291 : ∀ l, xpr 276 291 l = l := xpr_no (by decide +kernel)
theorem r_276_292 : xfetch 276 292 = some (.aload_n 0, 1) := by decide +kernel
theorem n_276_292 : ∀ l, xpr 276 292 l = l := xpr_no (by decide +kernel)
theorem r_276_293 : xfetch 276 293 = some (.iload 4, 2) := by decide +kernel
theorem n_276_293 : ∀ l, xpr 276 293 l = l := xpr_no (by decide +kernel)
theorem r_276_295 : xfetch 276 295 = some (.iconst 1, 1) := by decide +kernel
theorem n_276_295 : ∀ l, xpr 276 295 l = l := xpr_no (by decide +kernel)
theorem r_276_296 : xfetch 276 296 = some (.iadd, 1) := by decide +kernel
theorem n_276_296 : ∀ l, xpr 276 296 l = l := xpr_no (by decide +kernel)
theorem r_276_297 : xfetch 276 297 = some (.iaload, 1) := by decide +kernel
theorem n_276_297 : ∀ l, xpr 276 297 l = l := xpr_no (by decide +kernel)
theorem r_276_298 : xfetch 276 298 = some (.aload_n 0, 1) := by decide +kernel
theorem n_276_298 : ∀ l, xpr 276 298 l = l := xpr_no (by decide +kernel)
theorem r_276_299 : xfetch 276 299 = some (.iload 4, 2) := by decide +kernel
theorem n_276_299 : ∀ l, xpr 276 299 l = l := xpr_no (by decide +kernel)
theorem r_276_301 : xfetch 276 301 = some (.iconst 2, 1) := by decide +kernel
theorem n_276_301 : ∀ l, xpr 276 301 l = l := xpr_no (by decide +kernel)
theorem r_276_302 : xfetch 276 302 = some (.iadd, 1) := by decide +kernel
theorem n_276_302 : ∀ l, xpr 276 302 l = l := xpr_no (by decide +kernel)
theorem r_276_303 : xfetch 276 303 = some (.iaload, 1) := by decide +kernel
theorem n_276_303 : ∀ l, xpr 276 303 l = l := xpr_no (by decide +kernel)
theorem r_276_304 : xfetch 276 304 = some (.aload_n 0, 1) := by decide +kernel
theorem n_276_304 : ∀ l, xpr 276 304 l = l := xpr_no (by decide +kernel)
theorem r_276_305 : xfetch 276 305 = some (.iload 4, 2) := by decide +kernel
theorem n_276_305 : ∀ l, xpr 276 305 l = l := xpr_no (by decide +kernel)
theorem r_276_307 : xfetch 276 307 = some (.iconst 3, 1) := by decide +kernel
theorem n_276_307 : ∀ l, xpr 276 307 l = l := xpr_no (by decide +kernel)
theorem r_276_308 : xfetch 276 308 = some (.iadd, 1) := by decide +kernel
theorem n_276_308 : ∀ l, xpr 276 308 l = l := xpr_no (by decide +kernel)
theorem r_276_309 : xfetch 276 309 = some (.iaload, 1) := by decide +kernel
theorem n_276_309 : ∀ l, xpr 276 309 l = l := xpr_no (by decide +kernel)
theorem r_276_310 : xfetch 276 310 = some (.aload_n 0, 1) := by decide +kernel
theorem n_276_310 : ∀ l, xpr 276 310 l = l := xpr_no (by decide +kernel)
theorem r_276_311 : xfetch 276 311 = some (.iload 4, 2) := by decide +kernel
theorem n_276_311 : ∀ l, xpr 276 311 l = l := xpr_no (by decide +kernel)
theorem r_276_313 : xfetch 276 313 = some (.iconst 4, 1) := by decide +kernel
theorem n_276_313 : ∀ l, xpr 276 313 l = l := xpr_no (by decide +kernel)
theorem r_276_314 : xfetch 276 314 = some (.iadd, 1) := by decide +kernel
theorem n_276_314 : ∀ l, xpr 276 314 l = l := xpr_no (by decide +kernel)
theorem r_276_315 : xfetch 276 315 = some (.iaload, 1) := by decide +kernel
theorem n_276_315 : ∀ l, xpr 276 315 l = l := xpr_no (by decide +kernel)
theorem r_276_316 : xfetch 276 316 = some (.invokevirtual 139, 3) := by decide +kernel
theorem n_276_316 : ∀ l, xpr 276 316 l = l := xpr_no (by decide +kernel)
theorem r_276_319 : xfetch 276 319 = some (.istore 6, 2) := by decide +kernel
theorem n_276_319 : ∀ l, xpr 276 319 l = l := xpr_no (by decide +kernel)
theorem r_276_321 : xfetch 276 321 = some (.aload_n 2, 1) := by decide +kernel
theorem n_276_321 : ∀ l, xpr 276 321 l = l := xpr_no (by decide +kernel)
theorem r_276_322 : xfetch 276 322 = some (.invokevirtual 133, 3) := by decide +kernel
theorem n_276_322 : ∀ l, xpr 276 322 l = l := xpr_no (by decide +kernel)
theorem r_276_325 : xfetch 276 325 = some (.iload 5, 2) := by decide +kernel
theorem n_276_325 : ∀ l, xpr 276 325 l = l := xpr_no (by decide +kernel)
theorem r_276_327 : xfetch 276 327 = some (.if_icmp .eq 5, 3) := by decide +kernel
theorem n_276_327 : ∀ l, xpr 276 327 l = l := xpr_no (by decide +kernel)
theorem r_276_330 : xfetch 276 330 = some (.iconst 0, 1) := by decide +kernel
theorem n_276_330 : ∀ l, xpr 276 330 l = l := xpr_no (by decide +kernel)
theorem r_276_331 : xfetch 276 331 = some (.ireturn, 1) := by decide +kernel
theorem n_276_331 : ∀ l, xpr 276 331 l = l := xpr_no (by decide +kernel)
theorem r_276_332 : xfetch 276 332 = some (.iload 5, 2) := by decide +kernel
theorem n_276_332 : ∀ l, xpr 276 332 l = l := xpr_no (by decide +kernel)
theorem r_276_334 : xfetch 276 334 = some (.ifCond .ne 15, 3) := by decide +kernel
theorem n_276_334 : ∀ l, xpr 276 334 l = l := xpr_no (by decide +kernel)
theorem r_276_337 : xfetch 276 337 = some (.aload_n 3, 1) := by decide +kernel
theorem n_276_337 : ∀ l, xpr 276 337 l = l := xpr_no (by decide +kernel)
theorem r_276_338 : xfetch 276 338 = some (.iconst 0, 1) := by decide +kernel
theorem n_276_338 : ∀ l, xpr 276 338 l = l := xpr_no (by decide +kernel)
theorem r_276_339 : xfetch 276 339 = some (.laload, 1) := by decide +kernel
theorem n_276_339 : ∀ l, xpr 276 339 l = l := xpr_no (by decide +kernel)
theorem r_276_340 : xfetch 276 340 = some (.iload 6, 2) := by decide +kernel
theorem n_276_340 : ∀ l, xpr 276 340 l = l := xpr_no (by decide +kernel)
theorem r_276_342 : xfetch 276 342 = some (.i2l, 1) := by decide +kernel
theorem n_276_342 : ∀ l, xpr 276 342 l = l := xpr_no (by decide +kernel)
theorem r_276_343 : xfetch 276 343 = some (.lcmp, 1) := by decide +kernel
theorem n_276_343 : ∀ l, xpr 276 343 l = l := xpr_no (by decide +kernel)
theorem r_276_344 : xfetch 276 344 = some (.ifCond .eq 5, 3) := by decide +kernel
theorem n_276_344 : ∀ l, xpr 276 344 l = l := xpr_no (by decide +kernel)
theorem r_276_347 : xfetch 276 347 = some (.iconst 0, 1) := by decide +kernel
theorem n_276_347 : ∀ l, xpr 276 347 l = l := xpr_no (by decide +kernel)
theorem r_276_348 : xfetch 276 348 = some (.ireturn, 1) := by decide +kernel
theorem n_276_348 : ∀ l, xpr 276 348 l = l := xpr_no (by decide +kernel)
theorem r_276_349 : xfetch 276 349 = some (.goto 2559, 3) := by decide +kernel
theorem n_276_349 : ∀ l, xpr 276 349 l = l := xpr_no (by decide +kernel)
theorem r_276_352 : xfetch 276 352 = some (.aload_n 1, 1) := by decide +kernel
theorem r_276_353 : xfetch 276 353 = some (.invokevirtual 140, 3) := by decide +kernel
theorem n_276_353 : ∀ l, xpr 276 353 l = l := xpr_no (by decide +kernel)
theorem r_276_356 : xfetch 276 356 = some (.aload_n 2, 1) := by decide +kernel
theorem n_276_356 : ∀ l, xpr 276 356 l = l := xpr_no (by decide +kernel)
theorem r_276_357 : xfetch 276 357 = some (.invokevirtual 143, 3) := by decide +kernel
theorem n_276_357 : ∀ l, xpr 276 357 l = l := xpr_no (by decide +kernel)
theorem r_276_360 : xfetch 276 360 = some (.if_icmp .eq 2548, 3) := by decide +kernel
theorem n_276_360 : ∀ l, xpr 276 360 l = l := xpr_no (by decide +kernel)
theorem r_276_363 : xfetch 276 363 = some (.iconst 0, 1) := by decide +kernel
theorem n_276_363 : ∀ l, xpr 276 363 l = l := xpr_no (by decide +kernel)
theorem r_276_364 : xfetch 276 364 = some (.ireturn, 1) := by decide +kernel
theorem n_276_364 : ∀ l, xpr 276 364 l = l := xpr_no (by decide +kernel)
theorem r_276_365 : xfetch 276 365 = some (.aload_n 1, 1) := by decide +kernel
theorem r_276_366 : xfetch 276 366 = some (.aload_n 0, 1) := by decide +kernel
theorem n_276_366 : ∀ l, xpr 276 366 l = l := xpr_no (by decide +kernel)
theorem r_276_367 : xfetch 276 367 = some (.iload 4, 2) := by decide +kernel
theorem n_276_367 : ∀ l, xpr 276 367 l = l := xpr_no (by decide +kernel)
theorem r_276_369 : xfetch 276 369 = some (.iconst 1, 1) := by decide +kernel
theorem n_276_369 : ∀ l, xpr 276 369 l = l := xpr_no (by decide +kernel)
theorem r_276_370 : xfetch 276 370 = some (.iadd, 1) := by decide +kernel
theorem n_276_370 : ∀ l, xpr 276 370 l = l := xpr_no (by decide +kernel)
theorem r_276_371 : xfetch 276 371 = some (.iaload, 1) := by decide +kernel
theorem n_276_371 : ∀ l, xpr 276 371 l = l := xpr_no (by decide +kernel)
theorem r_276_372 : xfetch 276 372 = some (.aload_n 0, 1) := by decide +kernel
theorem n_276_372 : ∀ l, xpr 276 372 l = l := xpr_no (by decide +kernel)
theorem r_276_373 : xfetch 276 373 = some (.iload 4, 2) := by decide +kernel
theorem n_276_373 : ∀ l, xpr 276 373 l = l := xpr_no (by decide +kernel)
theorem r_276_375 : xfetch 276 375 = some (.iconst 2, 1) := by decide +kernel
theorem n_276_375 : ∀ l, xpr 276 375 l = l := xpr_no (by decide +kernel)
theorem r_276_376 : xfetch 276 376 = some (.iadd, 1) := by decide +kernel
theorem n_276_376 : ∀ l, xpr 276 376 l = l := xpr_no (by decide +kernel)
theorem r_276_377 : xfetch 276 377 = some (.iaload, 1) := by decide +kernel
theorem n_276_377 : ∀ l, xpr 276 377 l = l := xpr_no (by decide +kernel)
theorem r_276_378 : xfetch 276 378 = some (.aload_n 3, 1) := by decide +kernel
theorem n_276_378 : ∀ l, xpr 276 378 l = l := xpr_no (by decide +kernel)
theorem r_276_379 : xfetch 276 379 = some (.invokestatic 144, 3) := by decide +kernel
theorem n_276_379 : ∀ l, xpr 276 379 l = l := xpr_no (by decide +kernel)
theorem r_276_382 : xfetch 276 382 = some (.istore 5, 2) := by decide +kernel
theorem n_276_382 : ∀ l, xpr 276 382 l = l := xpr_no (by decide +kernel)
theorem r_276_384 : xfetch 276 384 = some (.aload_n 2, 1) := by decide +kernel
theorem n_276_384 : ∀ l, xpr 276 384 l = l := xpr_no (by decide +kernel)
theorem r_276_385 : xfetch 276 385 = some (.aload_n 0, 1) := by decide +kernel
theorem n_276_385 : ∀ l, xpr 276 385 l = l := xpr_no (by decide +kernel)
theorem r_276_386 : xfetch 276 386 = some (.iload 4, 2) := by decide +kernel
theorem n_276_386 : ∀ l, xpr 276 386 l = l := xpr_no (by decide +kernel)
theorem r_276_388 : xfetch 276 388 = some (.iconst 1, 1) := by decide +kernel
theorem n_276_388 : ∀ l, xpr 276 388 l = l := xpr_no (by decide +kernel)
theorem r_276_389 : xfetch 276 389 = some (.iadd, 1) := by decide +kernel
theorem n_276_389 : ∀ l, xpr 276 389 l = l := xpr_no (by decide +kernel)
theorem r_276_390 : xfetch 276 390 = some (.iaload, 1) := by decide +kernel
theorem n_276_390 : ∀ l, xpr 276 390 l = l := xpr_no (by decide +kernel)
theorem r_276_391 : xfetch 276 391 = some (.aload_n 0, 1) := by decide +kernel
theorem n_276_391 : ∀ l, xpr 276 391 l = l := xpr_no (by decide +kernel)
theorem r_276_392 : xfetch 276 392 = some (.iload 4, 2) := by decide +kernel
theorem n_276_392 : ∀ l, xpr 276 392 l = l := xpr_no (by decide +kernel)
theorem r_276_394 : xfetch 276 394 = some (.iconst 2, 1) := by decide +kernel
theorem n_276_394 : ∀ l, xpr 276 394 l = l := xpr_no (by decide +kernel)
theorem r_276_395 : xfetch 276 395 = some (.iadd, 1) := by decide +kernel
theorem n_276_395 : ∀ l, xpr 276 395 l = l := xpr_no (by decide +kernel)
theorem r_276_396 : xfetch 276 396 = some (.iaload, 1) := by decide +kernel
theorem n_276_396 : ∀ l, xpr 276 396 l = l := xpr_no (by decide +kernel)
theorem r_276_397 : xfetch 276 397 = some (.invokevirtual 147, 3) := by decide +kernel
theorem n_276_397 : ∀ l, xpr 276 397 l = l := xpr_no (by decide +kernel)
theorem r_276_400 : xfetch 276 400 = some (.istore 6, 2) := by decide +kernel
theorem n_276_400 : ∀ l, xpr 276 400 l = l := xpr_no (by decide +kernel)
theorem r_276_402 : xfetch 276 402 = some (.aload_n 2, 1) := by decide +kernel
theorem n_276_402 : ∀ l, xpr 276 402 l = l := xpr_no (by decide +kernel)
theorem r_276_403 : xfetch 276 403 = some (.invokevirtual 133, 3) := by decide +kernel
theorem n_276_403 : ∀ l, xpr 276 403 l = l := xpr_no (by decide +kernel)
theorem r_276_406 : xfetch 276 406 = some (.iload 5, 2) := by decide +kernel
theorem n_276_406 : ∀ l, xpr 276 406 l = l := xpr_no (by decide +kernel)
theorem r_276_408 : xfetch 276 408 = some (.if_icmp .eq 5, 3) := by decide +kernel
theorem n_276_408 : ∀ l, xpr 276 408 l = l := xpr_no (by decide +kernel)
theorem r_276_411 : xfetch 276 411 = some (.iconst 0, 1) := by decide +kernel
theorem n_276_411 : ∀ l, xpr 276 411 l = l := xpr_no (by decide +kernel)
theorem r_276_412 : xfetch 276 412 = some (.ireturn, 1) := by decide +kernel
theorem n_276_412 : ∀ l, xpr 276 412 l = l := xpr_no (by decide +kernel)
theorem r_276_413 : xfetch 276 413 = some (.iload 5, 2) := by decide +kernel
theorem n_276_413 : ∀ l, xpr 276 413 l = l := xpr_no (by decide +kernel)
theorem r_276_415 : xfetch 276 415 = some (.ifCond .ne 15, 3) := by decide +kernel
theorem n_276_415 : ∀ l, xpr 276 415 l = l := xpr_no (by decide +kernel)
theorem r_276_418 : xfetch 276 418 = some (.aload_n 3, 1) := by decide +kernel
theorem n_276_418 : ∀ l, xpr 276 418 l = l := xpr_no (by decide +kernel)
theorem r_276_419 : xfetch 276 419 = some (.iconst 0, 1) := by decide +kernel
theorem n_276_419 : ∀ l, xpr 276 419 l = l := xpr_no (by decide +kernel)
theorem r_276_420 : xfetch 276 420 = some (.laload, 1) := by decide +kernel
theorem n_276_420 : ∀ l, xpr 276 420 l = l := xpr_no (by decide +kernel)
theorem r_276_421 : xfetch 276 421 = some (.iload 6, 2) := by decide +kernel
theorem n_276_421 : ∀ l, xpr 276 421 l = l := xpr_no (by decide +kernel)
theorem r_276_423 : xfetch 276 423 = some (.i2l, 1) := by decide +kernel
theorem n_276_423 : ∀ l, xpr 276 423 l = l := xpr_no (by decide +kernel)
theorem r_276_424 : xfetch 276 424 = some (.lcmp, 1) := by decide +kernel
theorem n_276_424 : ∀ l, xpr 276 424 l = l := xpr_no (by decide +kernel)
theorem r_276_425 : xfetch 276 425 = some (.ifCond .eq 5, 3) := by decide +kernel
theorem n_276_425 : ∀ l, xpr 276 425 l = l := xpr_no (by decide +kernel)
theorem r_276_428 : xfetch 276 428 = some (.iconst 0, 1) := by decide +kernel
theorem n_276_428 : ∀ l, xpr 276 428 l = l := xpr_no (by decide +kernel)
theorem r_276_429 : xfetch 276 429 = some (.ireturn, 1) := by decide +kernel
theorem n_276_429 : ∀ l, xpr 276 429 l = l := xpr_no (by decide +kernel)
theorem r_276_430 : xfetch 276 430 = some (.goto 2478, 3) := by decide +kernel
theorem n_276_430 : ∀ l, xpr 276 430 l = l := xpr_no (by decide +kernel)
theorem r_276_433 : xfetch 276 433 = some (.aload_n 1, 1) := by decide +kernel
theorem r_276_434 : xfetch 276 434 = some (.aload_n 0, 1) := by decide +kernel
theorem n_276_434 : ∀ l, xpr 276 434 l = l := xpr_no (by decide +kernel)
theorem r_276_435 : xfetch 276 435 = some (.iload 4, 2) := by decide +kernel
theorem n_276_435 : ∀ l, xpr 276 435 l = l := xpr_no (by decide +kernel)
theorem r_276_437 : xfetch 276 437 = some (.iconst 1, 1) := by decide +kernel
theorem n_276_437 : ∀ l, xpr 276 437 l = l := xpr_no (by decide +kernel)
theorem r_276_438 : xfetch 276 438 = some (.iadd, 1) := by decide +kernel
theorem n_276_438 : ∀ l, xpr 276 438 l = l := xpr_no (by decide +kernel)
theorem r_276_439 : xfetch 276 439 = some (.iaload, 1) := by decide +kernel
theorem n_276_439 : ∀ l, xpr 276 439 l = l := xpr_no (by decide +kernel)
theorem r_276_440 : xfetch 276 440 = some (.aload_n 0, 1) := by decide +kernel
theorem n_276_440 : ∀ l, xpr 276 440 l = l := xpr_no (by decide +kernel)
theorem r_276_441 : xfetch 276 441 = some (.iload 4, 2) := by decide +kernel
theorem n_276_441 : ∀ l, xpr 276 441 l = l := xpr_no (by decide +kernel)
theorem r_276_443 : xfetch 276 443 = some (.iconst 2, 1) := by decide +kernel
theorem n_276_443 : ∀ l, xpr 276 443 l = l := xpr_no (by decide +kernel)
theorem r_276_444 : xfetch 276 444 = some (.iadd, 1) := by decide +kernel
theorem n_276_444 : ∀ l, xpr 276 444 l = l := xpr_no (by decide +kernel)
theorem r_276_445 : xfetch 276 445 = some (.iaload, 1) := by decide +kernel
theorem n_276_445 : ∀ l, xpr 276 445 l = l := xpr_no (by decide +kernel)
theorem r_276_446 : xfetch 276 446 = some (.aload_n 0, 1) := by decide +kernel
theorem n_276_446 : ∀ l, xpr 276 446 l = l := xpr_no (by decide +kernel)
theorem r_276_447 : xfetch 276 447 = some (.iload 4, 2) := by decide +kernel
theorem n_276_447 : ∀ l, xpr 276 447 l = l := xpr_no (by decide +kernel)
theorem r_276_449 : xfetch 276 449 = some (.iconst 3, 1) := by decide +kernel
theorem n_276_449 : ∀ l, xpr 276 449 l = l := xpr_no (by decide +kernel)
theorem r_276_450 : xfetch 276 450 = some (.iadd, 1) := by decide +kernel
theorem n_276_450 : ∀ l, xpr 276 450 l = l := xpr_no (by decide +kernel)
theorem r_276_451 : xfetch 276 451 = some (.iaload, 1) := by decide +kernel
theorem n_276_451 : ∀ l, xpr 276 451 l = l := xpr_no (by decide +kernel)
theorem r_276_452 : xfetch 276 452 = some (.aload_n 3, 1) := by decide +kernel
theorem n_276_452 : ∀ l, xpr 276 452 l = l := xpr_no (by decide +kernel)
theorem r_276_453 : xfetch 276 453 = some (.invokestatic 148, 3) := by decide +kernel
theorem n_276_453 : ∀ l, xpr 276 453 l = l := xpr_no (by decide +kernel)
theorem r_276_456 : xfetch 276 456 = some (.istore 5, 2) := by decide +kernel
theorem n_276_456 : ∀ l, xpr 276 456 l = l := xpr_no (by decide +kernel)
theorem r_276_458 : xfetch 276 458 = some (.aload_n 2, 1) := by decide +kernel
theorem n_276_458 : ∀ l, xpr 276 458 l = l := xpr_no (by decide +kernel)
theorem r_276_459 : xfetch 276 459 = some (.aload_n 0, 1) := by decide +kernel
theorem n_276_459 : ∀ l, xpr 276 459 l = l := xpr_no (by decide +kernel)
theorem r_276_460 : xfetch 276 460 = some (.iload 4, 2) := by decide +kernel
theorem n_276_460 : ∀ l, xpr 276 460 l = l := xpr_no (by decide +kernel)
theorem r_276_462 : xfetch 276 462 = some (.iconst 1, 1) := by decide +kernel
theorem n_276_462 : ∀ l, xpr 276 462 l = l := xpr_no (by decide +kernel)
theorem r_276_463 : xfetch 276 463 = some (.iadd, 1) := by decide +kernel
theorem n_276_463 : ∀ l, xpr 276 463 l = l := xpr_no (by decide +kernel)
theorem r_276_464 : xfetch 276 464 = some (.iaload, 1) := by decide +kernel
theorem n_276_464 : ∀ l, xpr 276 464 l = l := xpr_no (by decide +kernel)
theorem r_276_465 : xfetch 276 465 = some (.aload_n 0, 1) := by decide +kernel
theorem n_276_465 : ∀ l, xpr 276 465 l = l := xpr_no (by decide +kernel)
theorem r_276_466 : xfetch 276 466 = some (.iload 4, 2) := by decide +kernel
theorem n_276_466 : ∀ l, xpr 276 466 l = l := xpr_no (by decide +kernel)
theorem r_276_468 : xfetch 276 468 = some (.iconst 2, 1) := by decide +kernel
theorem n_276_468 : ∀ l, xpr 276 468 l = l := xpr_no (by decide +kernel)
theorem r_276_469 : xfetch 276 469 = some (.iadd, 1) := by decide +kernel
theorem n_276_469 : ∀ l, xpr 276 469 l = l := xpr_no (by decide +kernel)
theorem r_276_470 : xfetch 276 470 = some (.iaload, 1) := by decide +kernel
theorem n_276_470 : ∀ l, xpr 276 470 l = l := xpr_no (by decide +kernel)
theorem r_276_471 : xfetch 276 471 = some (.aload_n 0, 1) := by decide +kernel
theorem n_276_471 : ∀ l, xpr 276 471 l = l := xpr_no (by decide +kernel)
theorem r_276_472 : xfetch 276 472 = some (.iload 4, 2) := by decide +kernel
theorem n_276_472 : ∀ l, xpr 276 472 l = l := xpr_no (by decide +kernel)
theorem r_276_474 : xfetch 276 474 = some (.iconst 3, 1) := by decide +kernel
theorem n_276_474 : ∀ l, xpr 276 474 l = l := xpr_no (by decide +kernel)
theorem r_276_475 : xfetch 276 475 = some (.iadd, 1) := by decide +kernel
theorem n_276_475 : ∀ l, xpr 276 475 l = l := xpr_no (by decide +kernel)
theorem r_276_476 : xfetch 276 476 = some (.iaload, 1) := by decide +kernel
theorem n_276_476 : ∀ l, xpr 276 476 l = l := xpr_no (by decide +kernel)
theorem r_276_477 : xfetch 276 477 = some (.invokevirtual 151, 3) := by decide +kernel
theorem n_276_477 : ∀ l, xpr 276 477 l = l := xpr_no (by decide +kernel)
theorem r_276_480 : xfetch 276 480 = some (.istore 6, 2) := by decide +kernel
theorem n_276_480 : ∀ l, xpr 276 480 l = l := xpr_no (by decide +kernel)
theorem r_276_482 : xfetch 276 482 = some (.aload_n 2, 1) := by decide +kernel
theorem n_276_482 : ∀ l, xpr 276 482 l = l := xpr_no (by decide +kernel)
theorem r_276_483 : xfetch 276 483 = some (.invokevirtual 133, 3) := by decide +kernel
theorem n_276_483 : ∀ l, xpr 276 483 l = l := xpr_no (by decide +kernel)
theorem r_276_486 : xfetch 276 486 = some (.iload 5, 2) := by decide +kernel
theorem n_276_486 : ∀ l, xpr 276 486 l = l := xpr_no (by decide +kernel)
theorem r_276_488 : xfetch 276 488 = some (.if_icmp .eq 5, 3) := by decide +kernel
theorem n_276_488 : ∀ l, xpr 276 488 l = l := xpr_no (by decide +kernel)
theorem r_276_491 : xfetch 276 491 = some (.iconst 0, 1) := by decide +kernel
theorem n_276_491 : ∀ l, xpr 276 491 l = l := xpr_no (by decide +kernel)
theorem r_276_492 : xfetch 276 492 = some (.ireturn, 1) := by decide +kernel
theorem n_276_492 : ∀ l, xpr 276 492 l = l := xpr_no (by decide +kernel)
theorem r_276_493 : xfetch 276 493 = some (.iload 5, 2) := by decide +kernel
theorem n_276_493 : ∀ l, xpr 276 493 l = l := xpr_no (by decide +kernel)
theorem r_276_495 : xfetch 276 495 = some (.ifCond .ne 15, 3) := by decide +kernel
theorem n_276_495 : ∀ l, xpr 276 495 l = l := xpr_no (by decide +kernel)
theorem r_276_498 : xfetch 276 498 = some (.aload_n 3, 1) := by decide +kernel
theorem n_276_498 : ∀ l, xpr 276 498 l = l := xpr_no (by decide +kernel)
theorem r_276_499 : xfetch 276 499 = some (.iconst 0, 1) := by decide +kernel
theorem n_276_499 : ∀ l, xpr 276 499 l = l := xpr_no (by decide +kernel)
theorem r_276_500 : xfetch 276 500 = some (.laload, 1) := by decide +kernel
theorem n_276_500 : ∀ l, xpr 276 500 l = l := xpr_no (by decide +kernel)
theorem r_276_501 : xfetch 276 501 = some (.iload 6, 2) := by decide +kernel
theorem n_276_501 : ∀ l, xpr 276 501 l = l := xpr_no (by decide +kernel)
theorem r_276_503 : xfetch 276 503 = some (.i2l, 1) := by decide +kernel
theorem n_276_503 : ∀ l, xpr 276 503 l = l := xpr_no (by decide +kernel)
theorem r_276_504 : xfetch 276 504 = some (.lcmp, 1) := by decide +kernel
theorem n_276_504 : ∀ l, xpr 276 504 l = l := xpr_no (by decide +kernel)
theorem r_276_505 : xfetch 276 505 = some (.ifCond .eq 5, 3) := by decide +kernel
theorem n_276_505 : ∀ l, xpr 276 505 l = l := xpr_no (by decide +kernel)
theorem r_276_508 : xfetch 276 508 = some (.iconst 0, 1) := by decide +kernel
theorem n_276_508 : ∀ l, xpr 276 508 l = l := xpr_no (by decide +kernel)
theorem r_276_509 : xfetch 276 509 = some (.ireturn, 1) := by decide +kernel
theorem n_276_509 : ∀ l, xpr 276 509 l = l := xpr_no (by decide +kernel)
theorem r_276_510 : xfetch 276 510 = some (.goto 2398, 3) := by decide +kernel
theorem n_276_510 : ∀ l, xpr 276 510 l = l := xpr_no (by decide +kernel)
theorem r_276_513 : xfetch 276 513 = some (.aload_n 1, 1) := by decide +kernel
theorem r_276_514 : xfetch 276 514 = some (.aload_n 0, 1) := by decide +kernel
theorem n_276_514 : ∀ l, xpr 276 514 l = l := xpr_no (by decide +kernel)
theorem r_276_515 : xfetch 276 515 = some (.iload 4, 2) := by decide +kernel
theorem n_276_515 : ∀ l, xpr 276 515 l = l := xpr_no (by decide +kernel)
theorem r_276_517 : xfetch 276 517 = some (.iconst 1, 1) := by decide +kernel
theorem n_276_517 : ∀ l, xpr 276 517 l = l := xpr_no (by decide +kernel)
theorem r_276_518 : xfetch 276 518 = some (.iadd, 1) := by decide +kernel
theorem n_276_518 : ∀ l, xpr 276 518 l = l := xpr_no (by decide +kernel)
theorem r_276_519 : xfetch 276 519 = some (.iaload, 1) := by decide +kernel
theorem n_276_519 : ∀ l, xpr 276 519 l = l := xpr_no (by decide +kernel)
theorem r_276_520 : xfetch 276 520 = some (.aload_n 0, 1) := by decide +kernel
theorem n_276_520 : ∀ l, xpr 276 520 l = l := xpr_no (by decide +kernel)
theorem r_276_521 : xfetch 276 521 = some (.iload 4, 2) := by decide +kernel
theorem n_276_521 : ∀ l, xpr 276 521 l = l := xpr_no (by decide +kernel)
theorem r_276_523 : xfetch 276 523 = some (.iconst 2, 1) := by decide +kernel
theorem n_276_523 : ∀ l, xpr 276 523 l = l := xpr_no (by decide +kernel)
theorem r_276_524 : xfetch 276 524 = some (.iadd, 1) := by decide +kernel
theorem n_276_524 : ∀ l, xpr 276 524 l = l := xpr_no (by decide +kernel)
theorem r_276_525 : xfetch 276 525 = some (.iaload, 1) := by decide +kernel
theorem n_276_525 : ∀ l, xpr 276 525 l = l := xpr_no (by decide +kernel)
theorem r_276_526 : xfetch 276 526 = some (.aload_n 0, 1) := by decide +kernel
theorem n_276_526 : ∀ l, xpr 276 526 l = l := xpr_no (by decide +kernel)
theorem r_276_527 : xfetch 276 527 = some (.iload 4, 2) := by decide +kernel
theorem n_276_527 : ∀ l, xpr 276 527 l = l := xpr_no (by decide +kernel)
theorem r_276_529 : xfetch 276 529 = some (.iconst 3, 1) := by decide +kernel
theorem n_276_529 : ∀ l, xpr 276 529 l = l := xpr_no (by decide +kernel)
theorem r_276_530 : xfetch 276 530 = some (.iadd, 1) := by decide +kernel
theorem n_276_530 : ∀ l, xpr 276 530 l = l := xpr_no (by decide +kernel)
theorem r_276_531 : xfetch 276 531 = some (.iaload, 1) := by decide +kernel
theorem n_276_531 : ∀ l, xpr 276 531 l = l := xpr_no (by decide +kernel)
theorem r_276_532 : xfetch 276 532 = some (.aload_n 3, 1) := by decide +kernel
theorem n_276_532 : ∀ l, xpr 276 532 l = l := xpr_no (by decide +kernel)
theorem r_276_533 : xfetch 276 533 = some (.invokestatic 152, 3) := by decide +kernel
theorem n_276_533 : ∀ l, xpr 276 533 l = l := xpr_no (by decide +kernel)
theorem r_276_536 : xfetch 276 536 = some (.istore 5, 2) := by decide +kernel
theorem n_276_536 : ∀ l, xpr 276 536 l = l := xpr_no (by decide +kernel)
theorem r_276_538 : xfetch 276 538 = some (.aload_n 2, 1) := by decide +kernel
theorem n_276_538 : ∀ l, xpr 276 538 l = l := xpr_no (by decide +kernel)
theorem r_276_539 : xfetch 276 539 = some (.aload_n 0, 1) := by decide +kernel
theorem n_276_539 : ∀ l, xpr 276 539 l = l := xpr_no (by decide +kernel)
theorem r_276_540 : xfetch 276 540 = some (.iload 4, 2) := by decide +kernel
theorem n_276_540 : ∀ l, xpr 276 540 l = l := xpr_no (by decide +kernel)
theorem r_276_542 : xfetch 276 542 = some (.iconst 1, 1) := by decide +kernel
theorem n_276_542 : ∀ l, xpr 276 542 l = l := xpr_no (by decide +kernel)
theorem r_276_543 : xfetch 276 543 = some (.iadd, 1) := by decide +kernel
theorem n_276_543 : ∀ l, xpr 276 543 l = l := xpr_no (by decide +kernel)
theorem r_276_544 : xfetch 276 544 = some (.iaload, 1) := by decide +kernel
theorem n_276_544 : ∀ l, xpr 276 544 l = l := xpr_no (by decide +kernel)
theorem r_276_545 : xfetch 276 545 = some (.aload_n 0, 1) := by decide +kernel
theorem n_276_545 : ∀ l, xpr 276 545 l = l := xpr_no (by decide +kernel)
theorem r_276_546 : xfetch 276 546 = some (.iload 4, 2) := by decide +kernel
theorem n_276_546 : ∀ l, xpr 276 546 l = l := xpr_no (by decide +kernel)
theorem r_276_548 : xfetch 276 548 = some (.iconst 2, 1) := by decide +kernel
theorem n_276_548 : ∀ l, xpr 276 548 l = l := xpr_no (by decide +kernel)
theorem r_276_549 : xfetch 276 549 = some (.iadd, 1) := by decide +kernel
theorem n_276_549 : ∀ l, xpr 276 549 l = l := xpr_no (by decide +kernel)
theorem r_276_550 : xfetch 276 550 = some (.iaload, 1) := by decide +kernel
theorem n_276_550 : ∀ l, xpr 276 550 l = l := xpr_no (by decide +kernel)
theorem r_276_551 : xfetch 276 551 = some (.aload_n 0, 1) := by decide +kernel
theorem n_276_551 : ∀ l, xpr 276 551 l = l := xpr_no (by decide +kernel)
theorem r_276_552 : xfetch 276 552 = some (.iload 4, 2) := by decide +kernel
theorem n_276_552 : ∀ l, xpr 276 552 l = l := xpr_no (by decide +kernel)
theorem r_276_554 : xfetch 276 554 = some (.iconst 3, 1) := by decide +kernel
theorem n_276_554 : ∀ l, xpr 276 554 l = l := xpr_no (by decide +kernel)
theorem r_276_555 : xfetch 276 555 = some (.iadd, 1) := by decide +kernel
theorem n_276_555 : ∀ l, xpr 276 555 l = l := xpr_no (by decide +kernel)
theorem r_276_556 : xfetch 276 556 = some (.iaload, 1) := by decide +kernel
theorem n_276_556 : ∀ l, xpr 276 556 l = l := xpr_no (by decide +kernel)
theorem r_276_557 : xfetch 276 557 = some (.invokevirtual 154, 3) := by decide +kernel
theorem n_276_557 : ∀ l, xpr 276 557 l = l := xpr_no (by decide +kernel)
theorem r_276_560 : xfetch 276 560 = some (.istore 6, 2) := by decide +kernel
theorem n_276_560 : ∀ l, xpr 276 560 l = l := xpr_no (by decide +kernel)
theorem r_276_562 : xfetch 276 562 = some (.aload_n 2, 1) := by decide +kernel
theorem n_276_562 : ∀ l, xpr 276 562 l = l := xpr_no (by decide +kernel)
theorem r_276_563 : xfetch 276 563 = some (.invokevirtual 133, 3) := by decide +kernel
theorem n_276_563 : ∀ l, xpr 276 563 l = l := xpr_no (by decide +kernel)
theorem r_276_566 : xfetch 276 566 = some (.iload 5, 2) := by decide +kernel
theorem n_276_566 : ∀ l, xpr 276 566 l = l := xpr_no (by decide +kernel)
theorem r_276_568 : xfetch 276 568 = some (.if_icmp .eq 5, 3) := by decide +kernel
theorem n_276_568 : ∀ l, xpr 276 568 l = l := xpr_no (by decide +kernel)
theorem r_276_571 : xfetch 276 571 = some (.iconst 0, 1) := by decide +kernel
theorem n_276_571 : ∀ l, xpr 276 571 l = l := xpr_no (by decide +kernel)
theorem r_276_572 : xfetch 276 572 = some (.ireturn, 1) := by decide +kernel
theorem n_276_572 : ∀ l, xpr 276 572 l = l := xpr_no (by decide +kernel)
theorem r_276_573 : xfetch 276 573 = some (.iload 5, 2) := by decide +kernel
theorem n_276_573 : ∀ l, xpr 276 573 l = l := xpr_no (by decide +kernel)
theorem r_276_575 : xfetch 276 575 = some (.ifCond .ne 15, 3) := by decide +kernel
theorem n_276_575 : ∀ l, xpr 276 575 l = l := xpr_no (by decide +kernel)
theorem r_276_578 : xfetch 276 578 = some (.aload_n 3, 1) := by decide +kernel
theorem n_276_578 : ∀ l, xpr 276 578 l = l := xpr_no (by decide +kernel)
theorem r_276_579 : xfetch 276 579 = some (.iconst 0, 1) := by decide +kernel
theorem n_276_579 : ∀ l, xpr 276 579 l = l := xpr_no (by decide +kernel)
theorem r_276_580 : xfetch 276 580 = some (.laload, 1) := by decide +kernel
theorem n_276_580 : ∀ l, xpr 276 580 l = l := xpr_no (by decide +kernel)
theorem r_276_581 : xfetch 276 581 = some (.iload 6, 2) := by decide +kernel
theorem n_276_581 : ∀ l, xpr 276 581 l = l := xpr_no (by decide +kernel)
theorem r_276_583 : xfetch 276 583 = some (.i2l, 1) := by decide +kernel
theorem n_276_583 : ∀ l, xpr 276 583 l = l := xpr_no (by decide +kernel)
theorem r_276_584 : xfetch 276 584 = some (.lcmp, 1) := by decide +kernel
theorem n_276_584 : ∀ l, xpr 276 584 l = l := xpr_no (by decide +kernel)
theorem r_276_585 : xfetch 276 585 = some (.ifCond .eq 5, 3) := by decide +kernel
theorem n_276_585 : ∀ l, xpr 276 585 l = l := xpr_no (by decide +kernel)
theorem r_276_588 : xfetch 276 588 = some (.iconst 0, 1) := by decide +kernel
theorem n_276_588 : ∀ l, xpr 276 588 l = l := xpr_no (by decide +kernel)
theorem r_276_589 : xfetch 276 589 = some (.ireturn, 1) := by decide +kernel
theorem n_276_589 : ∀ l, xpr 276 589 l = l := xpr_no (by decide +kernel)
theorem r_276_590 : xfetch 276 590 = some (.goto 2318, 3) := by decide +kernel
theorem n_276_590 : ∀ l, xpr 276 590 l = l := xpr_no (by decide +kernel)
theorem r_276_593 : xfetch 276 593 = some (.aload_n 1, 1) := by decide +kernel
theorem r_276_594 : xfetch 276 594 = some (.aload_n 0, 1) := by decide +kernel
theorem n_276_594 : ∀ l, xpr 276 594 l = l := xpr_no (by decide +kernel)
theorem r_276_595 : xfetch 276 595 = some (.iload 4, 2) := by decide +kernel
theorem n_276_595 : ∀ l, xpr 276 595 l = l := xpr_no (by decide +kernel)
theorem r_276_597 : xfetch 276 597 = some (.iconst 1, 1) := by decide +kernel
theorem n_276_597 : ∀ l, xpr 276 597 l = l := xpr_no (by decide +kernel)
theorem r_276_598 : xfetch 276 598 = some (.iadd, 1) := by decide +kernel
theorem n_276_598 : ∀ l, xpr 276 598 l = l := xpr_no (by decide +kernel)
theorem r_276_599 : xfetch 276 599 = some (.iaload, 1) := by decide +kernel
theorem n_276_599 : ∀ l, xpr 276 599 l = l := xpr_no (by decide +kernel)
theorem r_276_600 : xfetch 276 600 = some (.aload_n 0, 1) := by decide +kernel
theorem n_276_600 : ∀ l, xpr 276 600 l = l := xpr_no (by decide +kernel)
theorem r_276_601 : xfetch 276 601 = some (.iload 4, 2) := by decide +kernel
theorem n_276_601 : ∀ l, xpr 276 601 l = l := xpr_no (by decide +kernel)
theorem r_276_603 : xfetch 276 603 = some (.iconst 2, 1) := by decide +kernel
theorem n_276_603 : ∀ l, xpr 276 603 l = l := xpr_no (by decide +kernel)
theorem r_276_604 : xfetch 276 604 = some (.iadd, 1) := by decide +kernel
theorem n_276_604 : ∀ l, xpr 276 604 l = l := xpr_no (by decide +kernel)
theorem r_276_605 : xfetch 276 605 = some (.iaload, 1) := by decide +kernel
theorem n_276_605 : ∀ l, xpr 276 605 l = l := xpr_no (by decide +kernel)
theorem r_276_606 : xfetch 276 606 = some (.aload_n 0, 1) := by decide +kernel
theorem n_276_606 : ∀ l, xpr 276 606 l = l := xpr_no (by decide +kernel)
theorem r_276_607 : xfetch 276 607 = some (.iload 4, 2) := by decide +kernel
theorem n_276_607 : ∀ l, xpr 276 607 l = l := xpr_no (by decide +kernel)
theorem r_276_609 : xfetch 276 609 = some (.iconst 3, 1) := by decide +kernel
theorem n_276_609 : ∀ l, xpr 276 609 l = l := xpr_no (by decide +kernel)
theorem r_276_610 : xfetch 276 610 = some (.iadd, 1) := by decide +kernel
theorem n_276_610 : ∀ l, xpr 276 610 l = l := xpr_no (by decide +kernel)
theorem r_276_611 : xfetch 276 611 = some (.iaload, 1) := by decide +kernel
theorem n_276_611 : ∀ l, xpr 276 611 l = l := xpr_no (by decide +kernel)
theorem r_276_612 : xfetch 276 612 = some (.aload_n 3, 1) := by decide +kernel
theorem n_276_612 : ∀ l, xpr 276 612 l = l := xpr_no (by decide +kernel)
theorem r_276_613 : xfetch 276 613 = some (.invokestatic 155, 3) := by decide +kernel
theorem n_276_613 : ∀ l, xpr 276 613 l = l := xpr_no (by decide +kernel)
theorem r_276_616 : xfetch 276 616 = some (.istore 5, 2) := by decide +kernel
theorem n_276_616 : ∀ l, xpr 276 616 l = l := xpr_no (by decide +kernel)
theorem r_276_618 : xfetch 276 618 = some (.aload_n 2, 1) := by decide +kernel
theorem n_276_618 : ∀ l, xpr 276 618 l = l := xpr_no (by decide +kernel)
theorem r_276_619 : xfetch 276 619 = some (.aload_n 0, 1) := by decide +kernel
theorem n_276_619 : ∀ l, xpr 276 619 l = l := xpr_no (by decide +kernel)
theorem r_276_620 : xfetch 276 620 = some (.iload 4, 2) := by decide +kernel
theorem n_276_620 : ∀ l, xpr 276 620 l = l := xpr_no (by decide +kernel)
theorem r_276_622 : xfetch 276 622 = some (.iconst 1, 1) := by decide +kernel
theorem n_276_622 : ∀ l, xpr 276 622 l = l := xpr_no (by decide +kernel)
theorem r_276_623 : xfetch 276 623 = some (.iadd, 1) := by decide +kernel
theorem n_276_623 : ∀ l, xpr 276 623 l = l := xpr_no (by decide +kernel)
theorem r_276_624 : xfetch 276 624 = some (.iaload, 1) := by decide +kernel
theorem n_276_624 : ∀ l, xpr 276 624 l = l := xpr_no (by decide +kernel)
theorem r_276_625 : xfetch 276 625 = some (.aload_n 0, 1) := by decide +kernel
theorem n_276_625 : ∀ l, xpr 276 625 l = l := xpr_no (by decide +kernel)
theorem r_276_626 : xfetch 276 626 = some (.iload 4, 2) := by decide +kernel
theorem n_276_626 : ∀ l, xpr 276 626 l = l := xpr_no (by decide +kernel)
theorem r_276_628 : xfetch 276 628 = some (.iconst 2, 1) := by decide +kernel
theorem n_276_628 : ∀ l, xpr 276 628 l = l := xpr_no (by decide +kernel)
theorem r_276_629 : xfetch 276 629 = some (.iadd, 1) := by decide +kernel
theorem n_276_629 : ∀ l, xpr 276 629 l = l := xpr_no (by decide +kernel)
theorem r_276_630 : xfetch 276 630 = some (.iaload, 1) := by decide +kernel
theorem n_276_630 : ∀ l, xpr 276 630 l = l := xpr_no (by decide +kernel)
theorem r_276_631 : xfetch 276 631 = some (.aload_n 0, 1) := by decide +kernel
theorem n_276_631 : ∀ l, xpr 276 631 l = l := xpr_no (by decide +kernel)
theorem r_276_632 : xfetch 276 632 = some (.iload 4, 2) := by decide +kernel
theorem n_276_632 : ∀ l, xpr 276 632 l = l := xpr_no (by decide +kernel)
theorem r_276_634 : xfetch 276 634 = some (.iconst 3, 1) := by decide +kernel
theorem n_276_634 : ∀ l, xpr 276 634 l = l := xpr_no (by decide +kernel)
theorem r_276_635 : xfetch 276 635 = some (.iadd, 1) := by decide +kernel
theorem n_276_635 : ∀ l, xpr 276 635 l = l := xpr_no (by decide +kernel)
theorem r_276_636 : xfetch 276 636 = some (.iaload, 1) := by decide +kernel
theorem n_276_636 : ∀ l, xpr 276 636 l = l := xpr_no (by decide +kernel)
theorem r_276_637 : xfetch 276 637 = some (.invokevirtual 157, 3) := by decide +kernel
theorem n_276_637 : ∀ l, xpr 276 637 l = l := xpr_no (by decide +kernel)
theorem r_276_640 : xfetch 276 640 = some (.istore 6, 2) := by decide +kernel
theorem n_276_640 : ∀ l, xpr 276 640 l = l := xpr_no (by decide +kernel)
theorem r_276_642 : xfetch 276 642 = some (.aload_n 2, 1) := by decide +kernel
theorem n_276_642 : ∀ l, xpr 276 642 l = l := xpr_no (by decide +kernel)
theorem r_276_643 : xfetch 276 643 = some (.invokevirtual 133, 3) := by decide +kernel
theorem n_276_643 : ∀ l, xpr 276 643 l = l := xpr_no (by decide +kernel)
theorem r_276_646 : xfetch 276 646 = some (.iload 5, 2) := by decide +kernel
theorem n_276_646 : ∀ l, xpr 276 646 l = l := xpr_no (by decide +kernel)
theorem r_276_648 : xfetch 276 648 = some (.if_icmp .eq 5, 3) := by decide +kernel
theorem n_276_648 : ∀ l, xpr 276 648 l = l := xpr_no (by decide +kernel)
theorem r_276_651 : xfetch 276 651 = some (.iconst 0, 1) := by decide +kernel
theorem n_276_651 : ∀ l, xpr 276 651 l = l := xpr_no (by decide +kernel)
theorem r_276_652 : xfetch 276 652 = some (.ireturn, 1) := by decide +kernel
theorem n_276_652 : ∀ l, xpr 276 652 l = l := xpr_no (by decide +kernel)
theorem r_276_653 : xfetch 276 653 = some (.iload 5, 2) := by decide +kernel
theorem n_276_653 : ∀ l, xpr 276 653 l = l := xpr_no (by decide +kernel)
theorem r_276_655 : xfetch 276 655 = some (.ifCond .ne 15, 3) := by decide +kernel
theorem n_276_655 : ∀ l, xpr 276 655 l = l := xpr_no (by decide +kernel)
theorem r_276_658 : xfetch 276 658 = some (.aload_n 3, 1) := by decide +kernel
theorem n_276_658 : ∀ l, xpr 276 658 l = l := xpr_no (by decide +kernel)
theorem r_276_659 : xfetch 276 659 = some (.iconst 0, 1) := by decide +kernel
theorem n_276_659 : ∀ l, xpr 276 659 l = l := xpr_no (by decide +kernel)
theorem r_276_660 : xfetch 276 660 = some (.laload, 1) := by decide +kernel
theorem n_276_660 : ∀ l, xpr 276 660 l = l := xpr_no (by decide +kernel)
theorem r_276_661 : xfetch 276 661 = some (.iload 6, 2) := by decide +kernel
theorem n_276_661 : ∀ l, xpr 276 661 l = l := xpr_no (by decide +kernel)
theorem r_276_663 : xfetch 276 663 = some (.i2l, 1) := by decide +kernel
theorem n_276_663 : ∀ l, xpr 276 663 l = l := xpr_no (by decide +kernel)
theorem r_276_664 : xfetch 276 664 = some (.lcmp, 1) := by decide +kernel
theorem n_276_664 : ∀ l, xpr 276 664 l = l := xpr_no (by decide +kernel)
theorem r_276_665 : xfetch 276 665 = some (.ifCond .eq 5, 3) := by decide +kernel
theorem n_276_665 : ∀ l, xpr 276 665 l = l := xpr_no (by decide +kernel)
theorem r_276_668 : xfetch 276 668 = some (.iconst 0, 1) := by decide +kernel
theorem n_276_668 : ∀ l, xpr 276 668 l = l := xpr_no (by decide +kernel)
theorem r_276_669 : xfetch 276 669 = some (.ireturn, 1) := by decide +kernel
theorem n_276_669 : ∀ l, xpr 276 669 l = l := xpr_no (by decide +kernel)
theorem r_276_670 : xfetch 276 670 = some (.goto 2238, 3) := by decide +kernel
theorem n_276_670 : ∀ l, xpr 276 670 l = l := xpr_no (by decide +kernel)
theorem r_276_673 : xfetch 276 673 = some (.aload_n 1, 1) := by decide +kernel
theorem r_276_674 : xfetch 276 674 = some (.aload_n 0, 1) := by decide +kernel
theorem n_276_674 : ∀ l, xpr 276 674 l = l := xpr_no (by decide +kernel)
theorem r_276_675 : xfetch 276 675 = some (.iload 4, 2) := by decide +kernel
theorem n_276_675 : ∀ l, xpr 276 675 l = l := xpr_no (by decide +kernel)
theorem r_276_677 : xfetch 276 677 = some (.iconst 1, 1) := by decide +kernel
theorem n_276_677 : ∀ l, xpr 276 677 l = l := xpr_no (by decide +kernel)
theorem r_276_678 : xfetch 276 678 = some (.iadd, 1) := by decide +kernel
theorem n_276_678 : ∀ l, xpr 276 678 l = l := xpr_no (by decide +kernel)
theorem r_276_679 : xfetch 276 679 = some (.iaload, 1) := by decide +kernel
theorem n_276_679 : ∀ l, xpr 276 679 l = l := xpr_no (by decide +kernel)
theorem r_276_680 : xfetch 276 680 = some (.aload_n 3, 1) := by decide +kernel
theorem n_276_680 : ∀ l, xpr 276 680 l = l := xpr_no (by decide +kernel)
theorem r_276_681 : xfetch 276 681 = some (.invokestatic 158, 3) := by decide +kernel
theorem n_276_681 : ∀ l, xpr 276 681 l = l := xpr_no (by decide +kernel)
theorem r_276_684 : xfetch 276 684 = some (.istore 5, 2) := by decide +kernel
theorem n_276_684 : ∀ l, xpr 276 684 l = l := xpr_no (by decide +kernel)
theorem r_276_686 : xfetch 276 686 = some (.aload_n 2, 1) := by decide +kernel
theorem n_276_686 : ∀ l, xpr 276 686 l = l := xpr_no (by decide +kernel)
theorem r_276_687 : xfetch 276 687 = some (.aload_n 0, 1) := by decide +kernel
theorem n_276_687 : ∀ l, xpr 276 687 l = l := xpr_no (by decide +kernel)
theorem r_276_688 : xfetch 276 688 = some (.iload 4, 2) := by decide +kernel
theorem n_276_688 : ∀ l, xpr 276 688 l = l := xpr_no (by decide +kernel)
theorem r_276_690 : xfetch 276 690 = some (.iconst 1, 1) := by decide +kernel
theorem n_276_690 : ∀ l, xpr 276 690 l = l := xpr_no (by decide +kernel)
theorem r_276_691 : xfetch 276 691 = some (.iadd, 1) := by decide +kernel
theorem n_276_691 : ∀ l, xpr 276 691 l = l := xpr_no (by decide +kernel)
theorem r_276_692 : xfetch 276 692 = some (.iaload, 1) := by decide +kernel
theorem n_276_692 : ∀ l, xpr 276 692 l = l := xpr_no (by decide +kernel)
theorem r_276_693 : xfetch 276 693 = some (.invokevirtual 160, 3) := by decide +kernel
theorem n_276_693 : ∀ l, xpr 276 693 l = l := xpr_no (by decide +kernel)
theorem r_276_696 : xfetch 276 696 = some (.istore 6, 2) := by decide +kernel
theorem n_276_696 : ∀ l, xpr 276 696 l = l := xpr_no (by decide +kernel)
theorem r_276_698 : xfetch 276 698 = some (.aload_n 2, 1) := by decide +kernel
theorem n_276_698 : ∀ l, xpr 276 698 l = l := xpr_no (by decide +kernel)
theorem r_276_699 : xfetch 276 699 = some (.invokevirtual 133, 3) := by decide +kernel
theorem n_276_699 : ∀ l, xpr 276 699 l = l := xpr_no (by decide +kernel)
theorem r_276_702 : xfetch 276 702 = some (.iload 5, 2) := by decide +kernel
theorem n_276_702 : ∀ l, xpr 276 702 l = l := xpr_no (by decide +kernel)
theorem r_276_704 : xfetch 276 704 = some (.if_icmp .eq 5, 3) := by decide +kernel
theorem n_276_704 : ∀ l, xpr 276 704 l = l := xpr_no (by decide +kernel)
theorem r_276_707 : xfetch 276 707 = some (.iconst 0, 1) := by decide +kernel
theorem n_276_707 : ∀ l, xpr 276 707 l = l := xpr_no (by decide +kernel)
theorem r_276_708 : xfetch 276 708 = some (.ireturn, 1) := by decide +kernel
theorem n_276_708 : ∀ l, xpr 276 708 l = l := xpr_no (by decide +kernel)
theorem r_276_709 : xfetch 276 709 = some (.iload 5, 2) := by decide +kernel
theorem n_276_709 : ∀ l, xpr 276 709 l = l := xpr_no (by decide +kernel)
theorem r_276_711 : xfetch 276 711 = some (.ifCond .ne 15, 3) := by decide +kernel
theorem n_276_711 : ∀ l, xpr 276 711 l = l := xpr_no (by decide +kernel)
theorem r_276_714 : xfetch 276 714 = some (.aload_n 3, 1) := by decide +kernel
theorem n_276_714 : ∀ l, xpr 276 714 l = l := xpr_no (by decide +kernel)
theorem r_276_715 : xfetch 276 715 = some (.iconst 0, 1) := by decide +kernel
theorem n_276_715 : ∀ l, xpr 276 715 l = l := xpr_no (by decide +kernel)
theorem r_276_716 : xfetch 276 716 = some (.laload, 1) := by decide +kernel
theorem n_276_716 : ∀ l, xpr 276 716 l = l := xpr_no (by decide +kernel)
theorem r_276_717 : xfetch 276 717 = some (.iload 6, 2) := by decide +kernel
theorem n_276_717 : ∀ l, xpr 276 717 l = l := xpr_no (by decide +kernel)
theorem r_276_719 : xfetch 276 719 = some (.i2l, 1) := by decide +kernel
theorem n_276_719 : ∀ l, xpr 276 719 l = l := xpr_no (by decide +kernel)
theorem r_276_720 : xfetch 276 720 = some (.lcmp, 1) := by decide +kernel
theorem n_276_720 : ∀ l, xpr 276 720 l = l := xpr_no (by decide +kernel)
theorem r_276_721 : xfetch 276 721 = some (.ifCond .eq 5, 3) := by decide +kernel
theorem n_276_721 : ∀ l, xpr 276 721 l = l := xpr_no (by decide +kernel)
theorem r_276_724 : xfetch 276 724 = some (.iconst 0, 1) := by decide +kernel
theorem n_276_724 : ∀ l, xpr 276 724 l = l := xpr_no (by decide +kernel)
theorem r_276_725 : xfetch 276 725 = some (.ireturn, 1) := by decide +kernel
theorem n_276_725 : ∀ l, xpr 276 725 l = l := xpr_no (by decide +kernel)
theorem r_276_726 : xfetch 276 726 = some (.goto 2182, 3) := by decide +kernel
theorem n_276_726 : ∀ l, xpr 276 726 l = l := xpr_no (by decide +kernel)
theorem r_276_729 : xfetch 276 729 = some (.aload_n 1, 1) := by decide +kernel
theorem r_276_730 : xfetch 276 730 = some (.aload_n 0, 1) := by decide +kernel
theorem n_276_730 : ∀ l, xpr 276 730 l = l := xpr_no (by decide +kernel)
theorem r_276_731 : xfetch 276 731 = some (.iload 4, 2) := by decide +kernel
theorem n_276_731 : ∀ l, xpr 276 731 l = l := xpr_no (by decide +kernel)
theorem r_276_733 : xfetch 276 733 = some (.iconst 1, 1) := by decide +kernel
theorem n_276_733 : ∀ l, xpr 276 733 l = l := xpr_no (by decide +kernel)
theorem r_276_734 : xfetch 276 734 = some (.iadd, 1) := by decide +kernel
theorem n_276_734 : ∀ l, xpr 276 734 l = l := xpr_no (by decide +kernel)
theorem r_276_735 : xfetch 276 735 = some (.iaload, 1) := by decide +kernel
theorem n_276_735 : ∀ l, xpr 276 735 l = l := xpr_no (by decide +kernel)
theorem r_276_736 : xfetch 276 736 = some (.aload_n 3, 1) := by decide +kernel
theorem n_276_736 : ∀ l, xpr 276 736 l = l := xpr_no (by decide +kernel)
theorem r_276_737 : xfetch 276 737 = some (.invokestatic 161, 3) := by decide +kernel
theorem n_276_737 : ∀ l, xpr 276 737 l = l := xpr_no (by decide +kernel)
theorem r_276_740 : xfetch 276 740 = some (.istore 5, 2) := by decide +kernel
theorem n_276_740 : ∀ l, xpr 276 740 l = l := xpr_no (by decide +kernel)
theorem r_276_742 : xfetch 276 742 = some (.aload_n 2, 1) := by decide +kernel
theorem n_276_742 : ∀ l, xpr 276 742 l = l := xpr_no (by decide +kernel)
theorem r_276_743 : xfetch 276 743 = some (.aload_n 0, 1) := by decide +kernel
theorem n_276_743 : ∀ l, xpr 276 743 l = l := xpr_no (by decide +kernel)
theorem r_276_744 : xfetch 276 744 = some (.iload 4, 2) := by decide +kernel
theorem n_276_744 : ∀ l, xpr 276 744 l = l := xpr_no (by decide +kernel)
theorem r_276_746 : xfetch 276 746 = some (.iconst 1, 1) := by decide +kernel
theorem n_276_746 : ∀ l, xpr 276 746 l = l := xpr_no (by decide +kernel)
theorem r_276_747 : xfetch 276 747 = some (.iadd, 1) := by decide +kernel
theorem n_276_747 : ∀ l, xpr 276 747 l = l := xpr_no (by decide +kernel)
theorem r_276_748 : xfetch 276 748 = some (.iaload, 1) := by decide +kernel
theorem n_276_748 : ∀ l, xpr 276 748 l = l := xpr_no (by decide +kernel)
theorem r_276_749 : xfetch 276 749 = some (.invokevirtual 163, 3) := by decide +kernel
theorem n_276_749 : ∀ l, xpr 276 749 l = l := xpr_no (by decide +kernel)
theorem r_276_752 : xfetch 276 752 = some (.istore 6, 2) := by decide +kernel
theorem n_276_752 : ∀ l, xpr 276 752 l = l := xpr_no (by decide +kernel)
theorem r_276_754 : xfetch 276 754 = some (.aload_n 2, 1) := by decide +kernel
theorem n_276_754 : ∀ l, xpr 276 754 l = l := xpr_no (by decide +kernel)
theorem r_276_755 : xfetch 276 755 = some (.invokevirtual 133, 3) := by decide +kernel
theorem n_276_755 : ∀ l, xpr 276 755 l = l := xpr_no (by decide +kernel)
theorem r_276_758 : xfetch 276 758 = some (.iload 5, 2) := by decide +kernel
theorem n_276_758 : ∀ l, xpr 276 758 l = l := xpr_no (by decide +kernel)
theorem r_276_760 : xfetch 276 760 = some (.if_icmp .eq 5, 3) := by decide +kernel
theorem n_276_760 : ∀ l, xpr 276 760 l = l := xpr_no (by decide +kernel)
theorem r_276_763 : xfetch 276 763 = some (.iconst 0, 1) := by decide +kernel
theorem n_276_763 : ∀ l, xpr 276 763 l = l := xpr_no (by decide +kernel)
theorem r_276_764 : xfetch 276 764 = some (.ireturn, 1) := by decide +kernel
theorem n_276_764 : ∀ l, xpr 276 764 l = l := xpr_no (by decide +kernel)
theorem r_276_765 : xfetch 276 765 = some (.iload 5, 2) := by decide +kernel
theorem n_276_765 : ∀ l, xpr 276 765 l = l := xpr_no (by decide +kernel)
theorem r_276_767 : xfetch 276 767 = some (.ifCond .ne 15, 3) := by decide +kernel
theorem n_276_767 : ∀ l, xpr 276 767 l = l := xpr_no (by decide +kernel)
theorem r_276_770 : xfetch 276 770 = some (.aload_n 3, 1) := by decide +kernel
theorem n_276_770 : ∀ l, xpr 276 770 l = l := xpr_no (by decide +kernel)
theorem r_276_771 : xfetch 276 771 = some (.iconst 0, 1) := by decide +kernel
theorem n_276_771 : ∀ l, xpr 276 771 l = l := xpr_no (by decide +kernel)
theorem r_276_772 : xfetch 276 772 = some (.laload, 1) := by decide +kernel
theorem n_276_772 : ∀ l, xpr 276 772 l = l := xpr_no (by decide +kernel)
theorem r_276_773 : xfetch 276 773 = some (.iload 6, 2) := by decide +kernel
theorem n_276_773 : ∀ l, xpr 276 773 l = l := xpr_no (by decide +kernel)
theorem r_276_775 : xfetch 276 775 = some (.i2l, 1) := by decide +kernel
theorem n_276_775 : ∀ l, xpr 276 775 l = l := xpr_no (by decide +kernel)
theorem r_276_776 : xfetch 276 776 = some (.lcmp, 1) := by decide +kernel
theorem n_276_776 : ∀ l, xpr 276 776 l = l := xpr_no (by decide +kernel)
theorem r_276_777 : xfetch 276 777 = some (.ifCond .eq 5, 3) := by decide +kernel
theorem n_276_777 : ∀ l, xpr 276 777 l = l := xpr_no (by decide +kernel)
theorem r_276_780 : xfetch 276 780 = some (.iconst 0, 1) := by decide +kernel
theorem n_276_780 : ∀ l, xpr 276 780 l = l := xpr_no (by decide +kernel)
theorem r_276_781 : xfetch 276 781 = some (.ireturn, 1) := by decide +kernel
theorem n_276_781 : ∀ l, xpr 276 781 l = l := xpr_no (by decide +kernel)
theorem r_276_782 : xfetch 276 782 = some (.goto 2126, 3) := by decide +kernel
theorem n_276_782 : ∀ l, xpr 276 782 l = l := xpr_no (by decide +kernel)
theorem r_276_785 : xfetch 276 785 = some (.aload_n 1, 1) := by decide +kernel
theorem r_276_786 : xfetch 276 786 = some (.aload_n 0, 1) := by decide +kernel
theorem n_276_786 : ∀ l, xpr 276 786 l = l := xpr_no (by decide +kernel)
theorem r_276_787 : xfetch 276 787 = some (.iload 4, 2) := by decide +kernel
theorem n_276_787 : ∀ l, xpr 276 787 l = l := xpr_no (by decide +kernel)
theorem r_276_789 : xfetch 276 789 = some (.iconst 1, 1) := by decide +kernel
theorem n_276_789 : ∀ l, xpr 276 789 l = l := xpr_no (by decide +kernel)
theorem r_276_790 : xfetch 276 790 = some (.iadd, 1) := by decide +kernel
theorem n_276_790 : ∀ l, xpr 276 790 l = l := xpr_no (by decide +kernel)
theorem r_276_791 : xfetch 276 791 = some (.iaload, 1) := by decide +kernel
theorem n_276_791 : ∀ l, xpr 276 791 l = l := xpr_no (by decide +kernel)
theorem r_276_792 : xfetch 276 792 = some (.aload_n 0, 1) := by decide +kernel
theorem n_276_792 : ∀ l, xpr 276 792 l = l := xpr_no (by decide +kernel)
theorem r_276_793 : xfetch 276 793 = some (.iload 4, 2) := by decide +kernel
theorem n_276_793 : ∀ l, xpr 276 793 l = l := xpr_no (by decide +kernel)
theorem r_276_795 : xfetch 276 795 = some (.iconst 2, 1) := by decide +kernel
theorem n_276_795 : ∀ l, xpr 276 795 l = l := xpr_no (by decide +kernel)
theorem r_276_796 : xfetch 276 796 = some (.iadd, 1) := by decide +kernel
theorem n_276_796 : ∀ l, xpr 276 796 l = l := xpr_no (by decide +kernel)
theorem r_276_797 : xfetch 276 797 = some (.iaload, 1) := by decide +kernel
theorem n_276_797 : ∀ l, xpr 276 797 l = l := xpr_no (by decide +kernel)
theorem r_276_798 : xfetch 276 798 = some (.aload_n 3, 1) := by decide +kernel
theorem n_276_798 : ∀ l, xpr 276 798 l = l := xpr_no (by decide +kernel)
theorem r_276_799 : xfetch 276 799 = some (.invokestatic 164, 3) := by decide +kernel
theorem n_276_799 : ∀ l, xpr 276 799 l = l := xpr_no (by decide +kernel)
theorem r_276_802 : xfetch 276 802 = some (.istore 5, 2) := by decide +kernel
theorem n_276_802 : ∀ l, xpr 276 802 l = l := xpr_no (by decide +kernel)
theorem r_276_804 : xfetch 276 804 = some (.aload_n 2, 1) := by decide +kernel
theorem n_276_804 : ∀ l, xpr 276 804 l = l := xpr_no (by decide +kernel)
theorem r_276_805 : xfetch 276 805 = some (.aload_n 0, 1) := by decide +kernel
theorem n_276_805 : ∀ l, xpr 276 805 l = l := xpr_no (by decide +kernel)
theorem r_276_806 : xfetch 276 806 = some (.iload 4, 2) := by decide +kernel
theorem n_276_806 : ∀ l, xpr 276 806 l = l := xpr_no (by decide +kernel)
theorem r_276_808 : xfetch 276 808 = some (.iconst 1, 1) := by decide +kernel
theorem n_276_808 : ∀ l, xpr 276 808 l = l := xpr_no (by decide +kernel)
theorem r_276_809 : xfetch 276 809 = some (.iadd, 1) := by decide +kernel
theorem n_276_809 : ∀ l, xpr 276 809 l = l := xpr_no (by decide +kernel)
theorem r_276_810 : xfetch 276 810 = some (.iaload, 1) := by decide +kernel
theorem n_276_810 : ∀ l, xpr 276 810 l = l := xpr_no (by decide +kernel)
theorem r_276_811 : xfetch 276 811 = some (.aload_n 0, 1) := by decide +kernel
theorem n_276_811 : ∀ l, xpr 276 811 l = l := xpr_no (by decide +kernel)
theorem r_276_812 : xfetch 276 812 = some (.iload 4, 2) := by decide +kernel
theorem n_276_812 : ∀ l, xpr 276 812 l = l := xpr_no (by decide +kernel)
theorem r_276_814 : xfetch 276 814 = some (.iconst 2, 1) := by decide +kernel
theorem n_276_814 : ∀ l, xpr 276 814 l = l := xpr_no (by decide +kernel)
theorem r_276_815 : xfetch 276 815 = some (.iadd, 1) := by decide +kernel
theorem n_276_815 : ∀ l, xpr 276 815 l = l := xpr_no (by decide +kernel)
theorem r_276_816 : xfetch 276 816 = some (.iaload, 1) := by decide +kernel
theorem n_276_816 : ∀ l, xpr 276 816 l = l := xpr_no (by decide +kernel)
theorem r_276_817 : xfetch 276 817 = some (.invokevirtual 166, 3) := by decide +kernel
theorem n_276_817 : ∀ l, xpr 276 817 l = l := xpr_no (by decide +kernel)
theorem r_276_820 : xfetch 276 820 = some (.istore 6, 2) := by decide +kernel
theorem n_276_820 : ∀ l, xpr 276 820 l = l := xpr_no (by decide +kernel)
theorem r_276_822 : xfetch 276 822 = some (.aload_n 2, 1) := by decide +kernel
theorem n_276_822 : ∀ l, xpr 276 822 l = l := xpr_no (by decide +kernel)
theorem r_276_823 : xfetch 276 823 = some (.invokevirtual 133, 3) := by decide +kernel
theorem n_276_823 : ∀ l, xpr 276 823 l = l := xpr_no (by decide +kernel)
theorem r_276_826 : xfetch 276 826 = some (.iload 5, 2) := by decide +kernel
theorem n_276_826 : ∀ l, xpr 276 826 l = l := xpr_no (by decide +kernel)
theorem r_276_828 : xfetch 276 828 = some (.if_icmp .eq 5, 3) := by decide +kernel
theorem n_276_828 : ∀ l, xpr 276 828 l = l := xpr_no (by decide +kernel)
theorem r_276_831 : xfetch 276 831 = some (.iconst 0, 1) := by decide +kernel
theorem n_276_831 : ∀ l, xpr 276 831 l = l := xpr_no (by decide +kernel)
theorem r_276_832 : xfetch 276 832 = some (.ireturn, 1) := by decide +kernel
theorem n_276_832 : ∀ l, xpr 276 832 l = l := xpr_no (by decide +kernel)
theorem r_276_833 : xfetch 276 833 = some (.iload 5, 2) := by decide +kernel
theorem n_276_833 : ∀ l, xpr 276 833 l = l := xpr_no (by decide +kernel)
theorem r_276_835 : xfetch 276 835 = some (.ifCond .ne 15, 3) := by decide +kernel
theorem n_276_835 : ∀ l, xpr 276 835 l = l := xpr_no (by decide +kernel)
theorem r_276_838 : xfetch 276 838 = some (.aload_n 3, 1) := by decide +kernel
theorem n_276_838 : ∀ l, xpr 276 838 l = l := xpr_no (by decide +kernel)
theorem r_276_839 : xfetch 276 839 = some (.iconst 0, 1) := by decide +kernel
theorem n_276_839 : ∀ l, xpr 276 839 l = l := xpr_no (by decide +kernel)
theorem r_276_840 : xfetch 276 840 = some (.laload, 1) := by decide +kernel
theorem n_276_840 : ∀ l, xpr 276 840 l = l := xpr_no (by decide +kernel)
theorem r_276_841 : xfetch 276 841 = some (.iload 6, 2) := by decide +kernel
theorem n_276_841 : ∀ l, xpr 276 841 l = l := xpr_no (by decide +kernel)
theorem r_276_843 : xfetch 276 843 = some (.i2l, 1) := by decide +kernel
theorem n_276_843 : ∀ l, xpr 276 843 l = l := xpr_no (by decide +kernel)
theorem r_276_844 : xfetch 276 844 = some (.lcmp, 1) := by decide +kernel
theorem n_276_844 : ∀ l, xpr 276 844 l = l := xpr_no (by decide +kernel)
theorem r_276_845 : xfetch 276 845 = some (.ifCond .eq 5, 3) := by decide +kernel
theorem n_276_845 : ∀ l, xpr 276 845 l = l := xpr_no (by decide +kernel)
theorem r_276_848 : xfetch 276 848 = some (.iconst 0, 1) := by decide +kernel
theorem n_276_848 : ∀ l, xpr 276 848 l = l := xpr_no (by decide +kernel)
theorem r_276_849 : xfetch 276 849 = some (.ireturn, 1) := by decide +kernel
theorem n_276_849 : ∀ l, xpr 276 849 l = l := xpr_no (by decide +kernel)
theorem r_276_850 : xfetch 276 850 = some (.goto 2058, 3) := by decide +kernel
theorem n_276_850 : ∀ l, xpr 276 850 l = l := xpr_no (by decide +kernel)
theorem r_276_853 : xfetch 276 853 = some (.aload_n 1, 1) := by decide +kernel
theorem r_276_854 : xfetch 276 854 = some (.aload_n 0, 1) := by decide +kernel
theorem n_276_854 : ∀ l, xpr 276 854 l = l := xpr_no (by decide +kernel)
theorem r_276_855 : xfetch 276 855 = some (.iload 4, 2) := by decide +kernel
theorem n_276_855 : ∀ l, xpr 276 855 l = l := xpr_no (by decide +kernel)
theorem r_276_857 : xfetch 276 857 = some (.iconst 1, 1) := by decide +kernel
theorem n_276_857 : ∀ l, xpr 276 857 l = l := xpr_no (by decide +kernel)
theorem r_276_858 : xfetch 276 858 = some (.iadd, 1) := by decide +kernel
theorem n_276_858 : ∀ l, xpr 276 858 l = l := xpr_no (by decide +kernel)
theorem r_276_859 : xfetch 276 859 = some (.iaload, 1) := by decide +kernel
theorem n_276_859 : ∀ l, xpr 276 859 l = l := xpr_no (by decide +kernel)
theorem r_276_860 : xfetch 276 860 = some (.aload_n 3, 1) := by decide +kernel
theorem n_276_860 : ∀ l, xpr 276 860 l = l := xpr_no (by decide +kernel)
theorem r_276_861 : xfetch 276 861 = some (.invokestatic 167, 3) := by decide +kernel
theorem n_276_861 : ∀ l, xpr 276 861 l = l := xpr_no (by decide +kernel)
theorem r_276_864 : xfetch 276 864 = some (.istore 5, 2) := by decide +kernel
theorem n_276_864 : ∀ l, xpr 276 864 l = l := xpr_no (by decide +kernel)
theorem r_276_866 : xfetch 276 866 = some (.aload_n 2, 1) := by decide +kernel
theorem n_276_866 : ∀ l, xpr 276 866 l = l := xpr_no (by decide +kernel)
theorem r_276_867 : xfetch 276 867 = some (.aload_n 0, 1) := by decide +kernel
theorem n_276_867 : ∀ l, xpr 276 867 l = l := xpr_no (by decide +kernel)
theorem r_276_868 : xfetch 276 868 = some (.iload 4, 2) := by decide +kernel
theorem n_276_868 : ∀ l, xpr 276 868 l = l := xpr_no (by decide +kernel)
theorem r_276_870 : xfetch 276 870 = some (.iconst 1, 1) := by decide +kernel
theorem n_276_870 : ∀ l, xpr 276 870 l = l := xpr_no (by decide +kernel)
theorem r_276_871 : xfetch 276 871 = some (.iadd, 1) := by decide +kernel
theorem n_276_871 : ∀ l, xpr 276 871 l = l := xpr_no (by decide +kernel)
theorem r_276_872 : xfetch 276 872 = some (.iaload, 1) := by decide +kernel
theorem n_276_872 : ∀ l, xpr 276 872 l = l := xpr_no (by decide +kernel)
theorem r_276_873 : xfetch 276 873 = some (.invokevirtual 169, 3) := by decide +kernel
theorem n_276_873 : ∀ l, xpr 276 873 l = l := xpr_no (by decide +kernel)
theorem r_276_876 : xfetch 276 876 = some (.istore 6, 2) := by decide +kernel
theorem n_276_876 : ∀ l, xpr 276 876 l = l := xpr_no (by decide +kernel)
theorem r_276_878 : xfetch 276 878 = some (.aload_n 2, 1) := by decide +kernel
theorem n_276_878 : ∀ l, xpr 276 878 l = l := xpr_no (by decide +kernel)
theorem r_276_879 : xfetch 276 879 = some (.invokevirtual 133, 3) := by decide +kernel
theorem n_276_879 : ∀ l, xpr 276 879 l = l := xpr_no (by decide +kernel)
theorem r_276_882 : xfetch 276 882 = some (.iload 5, 2) := by decide +kernel
theorem n_276_882 : ∀ l, xpr 276 882 l = l := xpr_no (by decide +kernel)
theorem r_276_884 : xfetch 276 884 = some (.if_icmp .eq 5, 3) := by decide +kernel
theorem n_276_884 : ∀ l, xpr 276 884 l = l := xpr_no (by decide +kernel)
theorem r_276_887 : xfetch 276 887 = some (.iconst 0, 1) := by decide +kernel
theorem n_276_887 : ∀ l, xpr 276 887 l = l := xpr_no (by decide +kernel)
theorem r_276_888 : xfetch 276 888 = some (.ireturn, 1) := by decide +kernel
theorem n_276_888 : ∀ l, xpr 276 888 l = l := xpr_no (by decide +kernel)
theorem r_276_889 : xfetch 276 889 = some (.iload 5, 2) := by decide +kernel
theorem n_276_889 : ∀ l, xpr 276 889 l = l := xpr_no (by decide +kernel)
theorem r_276_891 : xfetch 276 891 = some (.ifCond .ne 15, 3) := by decide +kernel
theorem n_276_891 : ∀ l, xpr 276 891 l = l := xpr_no (by decide +kernel)
theorem r_276_894 : xfetch 276 894 = some (.aload_n 3, 1) := by decide +kernel
theorem n_276_894 : ∀ l, xpr 276 894 l = l := xpr_no (by decide +kernel)
theorem r_276_895 : xfetch 276 895 = some (.iconst 0, 1) := by decide +kernel
theorem n_276_895 : ∀ l, xpr 276 895 l = l := xpr_no (by decide +kernel)
theorem r_276_896 : xfetch 276 896 = some (.laload, 1) := by decide +kernel
theorem n_276_896 : ∀ l, xpr 276 896 l = l := xpr_no (by decide +kernel)
theorem r_276_897 : xfetch 276 897 = some (.iload 6, 2) := by decide +kernel
theorem n_276_897 : ∀ l, xpr 276 897 l = l := xpr_no (by decide +kernel)
theorem r_276_899 : xfetch 276 899 = some (.i2l, 1) := by decide +kernel
theorem n_276_899 : ∀ l, xpr 276 899 l = l := xpr_no (by decide +kernel)
theorem r_276_900 : xfetch 276 900 = some (.lcmp, 1) := by decide +kernel
theorem n_276_900 : ∀ l, xpr 276 900 l = l := xpr_no (by decide +kernel)
theorem r_276_901 : xfetch 276 901 = some (.ifCond .eq 5, 3) := by decide +kernel
theorem n_276_901 : ∀ l, xpr 276 901 l = l := xpr_no (by decide +kernel)
theorem r_276_904 : xfetch 276 904 = some (.iconst 0, 1) := by decide +kernel
theorem n_276_904 : ∀ l, xpr 276 904 l = l := xpr_no (by decide +kernel)
theorem r_276_905 : xfetch 276 905 = some (.ireturn, 1) := by decide +kernel
theorem n_276_905 : ∀ l, xpr 276 905 l = l := xpr_no (by decide +kernel)
theorem r_276_906 : xfetch 276 906 = some (.goto 2002, 3) := by decide +kernel
theorem n_276_906 : ∀ l, xpr 276 906 l = l := xpr_no (by decide +kernel)
theorem r_276_909 : xfetch 276 909 = some (.aload_n 1, 1) := by decide +kernel
theorem r_276_910 : xfetch 276 910 = some (.invokevirtual 170, 3) := by decide +kernel
theorem n_276_910 : ∀ l, xpr 276 910 l = l := xpr_no (by decide +kernel)
theorem r_276_913 : xfetch 276 913 = some (.aload_n 2, 1) := by decide +kernel
theorem n_276_913 : ∀ l, xpr 276 913 l = l := xpr_no (by decide +kernel)
theorem r_276_914 : xfetch 276 914 = some (.invokevirtual 173, 3) := by decide +kernel
theorem n_276_914 : ∀ l, xpr 276 914 l = l := xpr_no (by decide +kernel)
theorem r_276_917 : xfetch 276 917 = some (.if_icmp .eq 1991, 3) := by decide +kernel
theorem n_276_917 : ∀ l, xpr 276 917 l = l := xpr_no (by decide +kernel)
theorem r_276_920 : xfetch 276 920 = some (.iconst 0, 1) := by decide +kernel
theorem n_276_920 : ∀ l, xpr 276 920 l = l := xpr_no (by decide +kernel)
theorem r_276_921 : xfetch 276 921 = some (.ireturn, 1) := by decide +kernel
theorem n_276_921 : ∀ l, xpr 276 921 l = l := xpr_no (by decide +kernel)
theorem r_276_922 : xfetch 276 922 = some (.aload_n 1, 1) := by decide +kernel
theorem r_276_923 : xfetch 276 923 = some (.aload_n 0, 1) := by decide +kernel
theorem n_276_923 : ∀ l, xpr 276 923 l = l := xpr_no (by decide +kernel)
theorem r_276_924 : xfetch 276 924 = some (.iload 4, 2) := by decide +kernel
theorem n_276_924 : ∀ l, xpr 276 924 l = l := xpr_no (by decide +kernel)
theorem r_276_926 : xfetch 276 926 = some (.iconst 1, 1) := by decide +kernel
theorem n_276_926 : ∀ l, xpr 276 926 l = l := xpr_no (by decide +kernel)
theorem r_276_927 : xfetch 276 927 = some (.iadd, 1) := by decide +kernel
theorem n_276_927 : ∀ l, xpr 276 927 l = l := xpr_no (by decide +kernel)
theorem r_276_928 : xfetch 276 928 = some (.iaload, 1) := by decide +kernel
theorem n_276_928 : ∀ l, xpr 276 928 l = l := xpr_no (by decide +kernel)
theorem r_276_929 : xfetch 276 929 = some (.aload_n 3, 1) := by decide +kernel
theorem n_276_929 : ∀ l, xpr 276 929 l = l := xpr_no (by decide +kernel)
theorem r_276_930 : xfetch 276 930 = some (.invokestatic 174, 3) := by decide +kernel
theorem n_276_930 : ∀ l, xpr 276 930 l = l := xpr_no (by decide +kernel)
theorem r_276_933 : xfetch 276 933 = some (.istore 5, 2) := by decide +kernel
theorem n_276_933 : ∀ l, xpr 276 933 l = l := xpr_no (by decide +kernel)
theorem r_276_935 : xfetch 276 935 = some (.aload_n 2, 1) := by decide +kernel
theorem n_276_935 : ∀ l, xpr 276 935 l = l := xpr_no (by decide +kernel)
theorem r_276_936 : xfetch 276 936 = some (.aload_n 0, 1) := by decide +kernel
theorem n_276_936 : ∀ l, xpr 276 936 l = l := xpr_no (by decide +kernel)
theorem r_276_937 : xfetch 276 937 = some (.iload 4, 2) := by decide +kernel
theorem n_276_937 : ∀ l, xpr 276 937 l = l := xpr_no (by decide +kernel)
theorem r_276_939 : xfetch 276 939 = some (.iconst 1, 1) := by decide +kernel
theorem n_276_939 : ∀ l, xpr 276 939 l = l := xpr_no (by decide +kernel)
theorem r_276_940 : xfetch 276 940 = some (.iadd, 1) := by decide +kernel
theorem n_276_940 : ∀ l, xpr 276 940 l = l := xpr_no (by decide +kernel)
theorem r_276_941 : xfetch 276 941 = some (.iaload, 1) := by decide +kernel
theorem n_276_941 : ∀ l, xpr 276 941 l = l := xpr_no (by decide +kernel)
theorem r_276_942 : xfetch 276 942 = some (.invokevirtual 176, 3) := by decide +kernel
theorem n_276_942 : ∀ l, xpr 276 942 l = l := xpr_no (by decide +kernel)
theorem r_276_945 : xfetch 276 945 = some (.istore 6, 2) := by decide +kernel
theorem n_276_945 : ∀ l, xpr 276 945 l = l := xpr_no (by decide +kernel)
theorem r_276_947 : xfetch 276 947 = some (.aload_n 2, 1) := by decide +kernel
theorem n_276_947 : ∀ l, xpr 276 947 l = l := xpr_no (by decide +kernel)
theorem r_276_948 : xfetch 276 948 = some (.invokevirtual 133, 3) := by decide +kernel
theorem n_276_948 : ∀ l, xpr 276 948 l = l := xpr_no (by decide +kernel)
theorem r_276_951 : xfetch 276 951 = some (.iload 5, 2) := by decide +kernel
theorem n_276_951 : ∀ l, xpr 276 951 l = l := xpr_no (by decide +kernel)
theorem r_276_953 : xfetch 276 953 = some (.if_icmp .eq 5, 3) := by decide +kernel
theorem n_276_953 : ∀ l, xpr 276 953 l = l := xpr_no (by decide +kernel)
theorem r_276_956 : xfetch 276 956 = some (.iconst 0, 1) := by decide +kernel
theorem n_276_956 : ∀ l, xpr 276 956 l = l := xpr_no (by decide +kernel)
theorem r_276_957 : xfetch 276 957 = some (.ireturn, 1) := by decide +kernel
theorem n_276_957 : ∀ l, xpr 276 957 l = l := xpr_no (by decide +kernel)
theorem r_276_958 : xfetch 276 958 = some (.iload 5, 2) := by decide +kernel
theorem n_276_958 : ∀ l, xpr 276 958 l = l := xpr_no (by decide +kernel)
theorem r_276_960 : xfetch 276 960 = some (.ifCond .ne 15, 3) := by decide +kernel
theorem n_276_960 : ∀ l, xpr 276 960 l = l := xpr_no (by decide +kernel)
theorem r_276_963 : xfetch 276 963 = some (.aload_n 3, 1) := by decide +kernel
theorem n_276_963 : ∀ l, xpr 276 963 l = l := xpr_no (by decide +kernel)
theorem r_276_964 : xfetch 276 964 = some (.iconst 0, 1) := by decide +kernel
theorem n_276_964 : ∀ l, xpr 276 964 l = l := xpr_no (by decide +kernel)
theorem r_276_965 : xfetch 276 965 = some (.laload, 1) := by decide +kernel
theorem n_276_965 : ∀ l, xpr 276 965 l = l := xpr_no (by decide +kernel)
theorem r_276_966 : xfetch 276 966 = some (.iload 6, 2) := by decide +kernel
theorem n_276_966 : ∀ l, xpr 276 966 l = l := xpr_no (by decide +kernel)
theorem r_276_968 : xfetch 276 968 = some (.i2l, 1) := by decide +kernel
theorem n_276_968 : ∀ l, xpr 276 968 l = l := xpr_no (by decide +kernel)
theorem r_276_969 : xfetch 276 969 = some (.lcmp, 1) := by decide +kernel
theorem n_276_969 : ∀ l, xpr 276 969 l = l := xpr_no (by decide +kernel)
theorem r_276_970 : xfetch 276 970 = some (.ifCond .eq 5, 3) := by decide +kernel
theorem n_276_970 : ∀ l, xpr 276 970 l = l := xpr_no (by decide +kernel)
theorem r_276_973 : xfetch 276 973 = some (.iconst 0, 1) := by decide +kernel
theorem n_276_973 : ∀ l, xpr 276 973 l = l := xpr_no (by decide +kernel)
theorem r_276_974 : xfetch 276 974 = some (.ireturn, 1) := by decide +kernel
theorem n_276_974 : ∀ l, xpr 276 974 l = l := xpr_no (by decide +kernel)
theorem r_276_975 : xfetch 276 975 = some (.goto 1933, 3) := by decide +kernel
theorem n_276_975 : ∀ l, xpr 276 975 l = l := xpr_no (by decide +kernel)
theorem r_276_978 : xfetch 276 978 = some (.aload_n 1, 1) := by decide +kernel
theorem r_276_979 : xfetch 276 979 = some (.aload_n 0, 1) := by decide +kernel
theorem n_276_979 : ∀ l, xpr 276 979 l = l := xpr_no (by decide +kernel)
theorem r_276_980 : xfetch 276 980 = some (.iload 4, 2) := by decide +kernel
theorem n_276_980 : ∀ l, xpr 276 980 l = l := xpr_no (by decide +kernel)
theorem r_276_982 : xfetch 276 982 = some (.iconst 1, 1) := by decide +kernel
theorem n_276_982 : ∀ l, xpr 276 982 l = l := xpr_no (by decide +kernel)
theorem r_276_983 : xfetch 276 983 = some (.iadd, 1) := by decide +kernel
theorem n_276_983 : ∀ l, xpr 276 983 l = l := xpr_no (by decide +kernel)
theorem r_276_984 : xfetch 276 984 = some (.iaload, 1) := by decide +kernel
theorem n_276_984 : ∀ l, xpr 276 984 l = l := xpr_no (by decide +kernel)
theorem r_276_985 : xfetch 276 985 = some (.aload_n 0, 1) := by decide +kernel
theorem n_276_985 : ∀ l, xpr 276 985 l = l := xpr_no (by decide +kernel)
theorem r_276_986 : xfetch 276 986 = some (.iload 4, 2) := by decide +kernel
theorem n_276_986 : ∀ l, xpr 276 986 l = l := xpr_no (by decide +kernel)
theorem r_276_988 : xfetch 276 988 = some (.iconst 2, 1) := by decide +kernel
theorem n_276_988 : ∀ l, xpr 276 988 l = l := xpr_no (by decide +kernel)
theorem r_276_989 : xfetch 276 989 = some (.iadd, 1) := by decide +kernel
theorem n_276_989 : ∀ l, xpr 276 989 l = l := xpr_no (by decide +kernel)
theorem r_276_990 : xfetch 276 990 = some (.iaload, 1) := by decide +kernel
theorem n_276_990 : ∀ l, xpr 276 990 l = l := xpr_no (by decide +kernel)
theorem r_276_991 : xfetch 276 991 = some (.aload_n 0, 1) := by decide +kernel
theorem n_276_991 : ∀ l, xpr 276 991 l = l := xpr_no (by decide +kernel)
theorem r_276_992 : xfetch 276 992 = some (.iload 4, 2) := by decide +kernel
theorem n_276_992 : ∀ l, xpr 276 992 l = l := xpr_no (by decide +kernel)
theorem r_276_994 : xfetch 276 994 = some (.iconst 3, 1) := by decide +kernel
theorem n_276_994 : ∀ l, xpr 276 994 l = l := xpr_no (by decide +kernel)
theorem r_276_995 : xfetch 276 995 = some (.iadd, 1) := by decide +kernel
theorem n_276_995 : ∀ l, xpr 276 995 l = l := xpr_no (by decide +kernel)
theorem r_276_996 : xfetch 276 996 = some (.iaload, 1) := by decide +kernel
theorem n_276_996 : ∀ l, xpr 276 996 l = l := xpr_no (by decide +kernel)
theorem r_276_997 : xfetch 276 997 = some (.aload_n 0, 1) := by decide +kernel
theorem n_276_997 : ∀ l, xpr 276 997 l = l := xpr_no (by decide +kernel)
theorem r_276_998 : xfetch 276 998 = some (.iload 4, 2) := by decide +kernel
theorem n_276_998 : ∀ l, xpr 276 998 l = l := xpr_no (by decide +kernel)
theorem r_276_1000 : xfetch 276 1000 = some (.iconst 4, 1) := by decide +kernel
theorem n_276_1000 : ∀ l, xpr 276 1000 l = l := xpr_no (by decide +kernel)
theorem r_276_1001 : xfetch 276 1001 = some (.iadd, 1) := by decide +kernel
theorem n_276_1001 : ∀ l, xpr 276 1001 l = l := xpr_no (by decide +kernel)
theorem r_276_1002 : xfetch 276 1002 = some (.iaload, 1) := by decide +kernel
theorem n_276_1002 : ∀ l, xpr 276 1002 l = l := xpr_no (by decide +kernel)
theorem r_276_1003 : xfetch 276 1003 = some (.aload_n 3, 1) := by decide +kernel
theorem n_276_1003 : ∀ l, xpr 276 1003 l = l := xpr_no (by decide +kernel)
theorem r_276_1004 : xfetch 276 1004 = some (.invokestatic 177, 3) := by decide +kernel
theorem n_276_1004 : ∀ l, xpr 276 1004 l = l := xpr_no (by decide +kernel)
theorem r_276_1007 : xfetch 276 1007 = some (.istore 5, 2) := by decide +kernel
theorem n_276_1007 : ∀ l, xpr 276 1007 l = l := xpr_no (by decide +kernel)
theorem r_276_1009 : xfetch 276 1009 = some (.aload_n 2, 1) := by decide +kernel
theorem n_276_1009 : ∀ l, xpr 276 1009 l = l := xpr_no (by decide +kernel)
theorem r_276_1010 : xfetch 276 1010 = some (.aload_n 0, 1) := by decide +kernel
theorem n_276_1010 : ∀ l, xpr 276 1010 l = l := xpr_no (by decide +kernel)
theorem r_276_1011 : xfetch 276 1011 = some (.iload 4, 2) := by decide +kernel
theorem n_276_1011 : ∀ l, xpr 276 1011 l = l := xpr_no (by decide +kernel)
theorem r_276_1013 : xfetch 276 1013 = some (.iconst 1, 1) := by decide +kernel
theorem n_276_1013 : ∀ l, xpr 276 1013 l = l := xpr_no (by decide +kernel)
theorem r_276_1014 : xfetch 276 1014 = some (.iadd, 1) := by decide +kernel
theorem n_276_1014 : ∀ l, xpr 276 1014 l = l := xpr_no (by decide +kernel)
theorem r_276_1015 : xfetch 276 1015 = some (.iaload, 1) := by decide +kernel
theorem n_276_1015 : ∀ l, xpr 276 1015 l = l := xpr_no (by decide +kernel)
theorem r_276_1016 : xfetch 276 1016 = some (.aload_n 0, 1) := by decide +kernel
theorem n_276_1016 : ∀ l, xpr 276 1016 l = l := xpr_no (by decide +kernel)
theorem r_276_1017 : xfetch 276 1017 = some (.iload 4, 2) := by decide +kernel
theorem n_276_1017 : ∀ l, xpr 276 1017 l = l := xpr_no (by decide +kernel)
theorem r_276_1019 : xfetch 276 1019 = some (.iconst 2, 1) := by decide +kernel
theorem n_276_1019 : ∀ l, xpr 276 1019 l = l := xpr_no (by decide +kernel)
theorem r_276_1020 : xfetch 276 1020 = some (.iadd, 1) := by decide +kernel
theorem n_276_1020 : ∀ l, xpr 276 1020 l = l := xpr_no (by decide +kernel)
theorem r_276_1021 : xfetch 276 1021 = some (.iaload, 1) := by decide +kernel
theorem n_276_1021 : ∀ l, xpr 276 1021 l = l := xpr_no (by decide +kernel)
theorem r_276_1022 : xfetch 276 1022 = some (.aload_n 0, 1) := by decide +kernel
theorem n_276_1022 : ∀ l, xpr 276 1022 l = l := xpr_no (by decide +kernel)
theorem r_276_1023 : xfetch 276 1023 = some (.iload 4, 2) := by decide +kernel
theorem n_276_1023 : ∀ l, xpr 276 1023 l = l := xpr_no (by decide +kernel)
theorem r_276_1025 : xfetch 276 1025 = some (.iconst 3, 1) := by decide +kernel
theorem n_276_1025 : ∀ l, xpr 276 1025 l = l := xpr_no (by decide +kernel)
theorem r_276_1026 : xfetch 276 1026 = some (.iadd, 1) := by decide +kernel
theorem n_276_1026 : ∀ l, xpr 276 1026 l = l := xpr_no (by decide +kernel)
theorem r_276_1027 : xfetch 276 1027 = some (.iaload, 1) := by decide +kernel
theorem n_276_1027 : ∀ l, xpr 276 1027 l = l := xpr_no (by decide +kernel)
theorem r_276_1028 : xfetch 276 1028 = some (.aload_n 0, 1) := by decide +kernel
theorem n_276_1028 : ∀ l, xpr 276 1028 l = l := xpr_no (by decide +kernel)
theorem r_276_1029 : xfetch 276 1029 = some (.iload 4, 2) := by decide +kernel
theorem n_276_1029 : ∀ l, xpr 276 1029 l = l := xpr_no (by decide +kernel)
theorem r_276_1031 : xfetch 276 1031 = some (.iconst 4, 1) := by decide +kernel
theorem n_276_1031 : ∀ l, xpr 276 1031 l = l := xpr_no (by decide +kernel)
theorem r_276_1032 : xfetch 276 1032 = some (.iadd, 1) := by decide +kernel
theorem n_276_1032 : ∀ l, xpr 276 1032 l = l := xpr_no (by decide +kernel)
theorem r_276_1033 : xfetch 276 1033 = some (.iaload, 1) := by decide +kernel
theorem n_276_1033 : ∀ l, xpr 276 1033 l = l := xpr_no (by decide +kernel)
theorem r_276_1034 : xfetch 276 1034 = some (.invokevirtual 179, 3) := by decide +kernel
theorem n_276_1034 : ∀ l, xpr 276 1034 l = l := xpr_no (by decide +kernel)
theorem r_276_1037 : xfetch 276 1037 = some (.istore 6, 2) := by decide +kernel
theorem n_276_1037 : ∀ l, xpr 276 1037 l = l := xpr_no (by decide +kernel)
theorem r_276_1039 : xfetch 276 1039 = some (.aload_n 2, 1) := by decide +kernel
theorem n_276_1039 : ∀ l, xpr 276 1039 l = l := xpr_no (by decide +kernel)
theorem r_276_1040 : xfetch 276 1040 = some (.invokevirtual 133, 3) := by decide +kernel
theorem n_276_1040 : ∀ l, xpr 276 1040 l = l := xpr_no (by decide +kernel)
theorem r_276_1043 : xfetch 276 1043 = some (.iload 5, 2) := by decide +kernel
theorem n_276_1043 : ∀ l, xpr 276 1043 l = l := xpr_no (by decide +kernel)
theorem r_276_1045 : xfetch 276 1045 = some (.if_icmp .eq 5, 3) := by decide +kernel
theorem n_276_1045 : ∀ l, xpr 276 1045 l = l := xpr_no (by decide +kernel)
theorem r_276_1048 : xfetch 276 1048 = some (.iconst 0, 1) := by decide +kernel
theorem n_276_1048 : ∀ l, xpr 276 1048 l = l := xpr_no (by decide +kernel)
theorem r_276_1049 : xfetch 276 1049 = some (.ireturn, 1) := by decide +kernel
theorem n_276_1049 : ∀ l, xpr 276 1049 l = l := xpr_no (by decide +kernel)
theorem r_276_1050 : xfetch 276 1050 = some (.iload 5, 2) := by decide +kernel
theorem n_276_1050 : ∀ l, xpr 276 1050 l = l := xpr_no (by decide +kernel)
theorem r_276_1052 : xfetch 276 1052 = some (.ifCond .ne 15, 3) := by decide +kernel
theorem n_276_1052 : ∀ l, xpr 276 1052 l = l := xpr_no (by decide +kernel)
theorem r_276_1055 : xfetch 276 1055 = some (.aload_n 3, 1) := by decide +kernel
theorem n_276_1055 : ∀ l, xpr 276 1055 l = l := xpr_no (by decide +kernel)
theorem r_276_1056 : xfetch 276 1056 = some (.iconst 0, 1) := by decide +kernel
theorem n_276_1056 : ∀ l, xpr 276 1056 l = l := xpr_no (by decide +kernel)
theorem r_276_1057 : xfetch 276 1057 = some (.laload, 1) := by decide +kernel
theorem n_276_1057 : ∀ l, xpr 276 1057 l = l := xpr_no (by decide +kernel)
theorem r_276_1058 : xfetch 276 1058 = some (.iload 6, 2) := by decide +kernel
theorem n_276_1058 : ∀ l, xpr 276 1058 l = l := xpr_no (by decide +kernel)
theorem r_276_1060 : xfetch 276 1060 = some (.i2l, 1) := by decide +kernel
theorem n_276_1060 : ∀ l, xpr 276 1060 l = l := xpr_no (by decide +kernel)
theorem r_276_1061 : xfetch 276 1061 = some (.lcmp, 1) := by decide +kernel
theorem n_276_1061 : ∀ l, xpr 276 1061 l = l := xpr_no (by decide +kernel)
theorem r_276_1062 : xfetch 276 1062 = some (.ifCond .eq 5, 3) := by decide +kernel
theorem n_276_1062 : ∀ l, xpr 276 1062 l = l := xpr_no (by decide +kernel)
theorem r_276_1065 : xfetch 276 1065 = some (.iconst 0, 1) := by decide +kernel
theorem n_276_1065 : ∀ l, xpr 276 1065 l = l := xpr_no (by decide +kernel)
theorem r_276_1066 : xfetch 276 1066 = some (.ireturn, 1) := by decide +kernel
theorem n_276_1066 : ∀ l, xpr 276 1066 l = l := xpr_no (by decide +kernel)
theorem r_276_1067 : xfetch 276 1067 = some (.goto 1841, 3) := by decide +kernel
theorem n_276_1067 : ∀ l, xpr 276 1067 l = l := xpr_no (by decide +kernel)
theorem r_276_1070 : xfetch 276 1070 = some (.aload_n 1, 1) := by decide +kernel
theorem r_276_1071 : xfetch 276 1071 = some (.aload_n 0, 1) := by decide +kernel
theorem n_276_1071 : ∀ l, xpr 276 1071 l = l := xpr_no (by decide +kernel)
theorem r_276_1072 : xfetch 276 1072 = some (.iload 4, 2) := by decide +kernel
theorem n_276_1072 : ∀ l, xpr 276 1072 l = l := xpr_no (by decide +kernel)
theorem r_276_1074 : xfetch 276 1074 = some (.iconst 1, 1) := by decide +kernel
theorem n_276_1074 : ∀ l, xpr 276 1074 l = l := xpr_no (by decide +kernel)
theorem r_276_1075 : xfetch 276 1075 = some (.iadd, 1) := by decide +kernel
theorem n_276_1075 : ∀ l, xpr 276 1075 l = l := xpr_no (by decide +kernel)
theorem r_276_1076 : xfetch 276 1076 = some (.iaload, 1) := by decide +kernel
theorem n_276_1076 : ∀ l, xpr 276 1076 l = l := xpr_no (by decide +kernel)
theorem r_276_1077 : xfetch 276 1077 = some (.aload_n 3, 1) := by decide +kernel
theorem n_276_1077 : ∀ l, xpr 276 1077 l = l := xpr_no (by decide +kernel)
theorem r_276_1078 : xfetch 276 1078 = some (.invokestatic 180, 3) := by decide +kernel
theorem n_276_1078 : ∀ l, xpr 276 1078 l = l := xpr_no (by decide +kernel)
theorem r_276_1081 : xfetch 276 1081 = some (.istore 5, 2) := by decide +kernel
theorem n_276_1081 : ∀ l, xpr 276 1081 l = l := xpr_no (by decide +kernel)
theorem r_276_1083 : xfetch 276 1083 = some (.aload_n 2, 1) := by decide +kernel
theorem n_276_1083 : ∀ l, xpr 276 1083 l = l := xpr_no (by decide +kernel)
theorem r_276_1084 : xfetch 276 1084 = some (.aload_n 0, 1) := by decide +kernel
theorem n_276_1084 : ∀ l, xpr 276 1084 l = l := xpr_no (by decide +kernel)
theorem r_276_1085 : xfetch 276 1085 = some (.iload 4, 2) := by decide +kernel
theorem n_276_1085 : ∀ l, xpr 276 1085 l = l := xpr_no (by decide +kernel)
theorem r_276_1087 : xfetch 276 1087 = some (.iconst 1, 1) := by decide +kernel
theorem n_276_1087 : ∀ l, xpr 276 1087 l = l := xpr_no (by decide +kernel)
theorem r_276_1088 : xfetch 276 1088 = some (.iadd, 1) := by decide +kernel
theorem n_276_1088 : ∀ l, xpr 276 1088 l = l := xpr_no (by decide +kernel)
theorem r_276_1089 : xfetch 276 1089 = some (.iaload, 1) := by decide +kernel
theorem n_276_1089 : ∀ l, xpr 276 1089 l = l := xpr_no (by decide +kernel)
theorem r_276_1090 : xfetch 276 1090 = some (.invokevirtual 182, 3) := by decide +kernel
theorem n_276_1090 : ∀ l, xpr 276 1090 l = l := xpr_no (by decide +kernel)
theorem r_276_1093 : xfetch 276 1093 = some (.istore 6, 2) := by decide +kernel
theorem n_276_1093 : ∀ l, xpr 276 1093 l = l := xpr_no (by decide +kernel)
theorem r_276_1095 : xfetch 276 1095 = some (.aload_n 2, 1) := by decide +kernel
theorem n_276_1095 : ∀ l, xpr 276 1095 l = l := xpr_no (by decide +kernel)
theorem r_276_1096 : xfetch 276 1096 = some (.invokevirtual 133, 3) := by decide +kernel
theorem n_276_1096 : ∀ l, xpr 276 1096 l = l := xpr_no (by decide +kernel)
theorem r_276_1099 : xfetch 276 1099 = some (.iload 5, 2) := by decide +kernel
theorem n_276_1099 : ∀ l, xpr 276 1099 l = l := xpr_no (by decide +kernel)
theorem r_276_1101 : xfetch 276 1101 = some (.if_icmp .eq 5, 3) := by decide +kernel
theorem n_276_1101 : ∀ l, xpr 276 1101 l = l := xpr_no (by decide +kernel)
theorem r_276_1104 : xfetch 276 1104 = some (.iconst 0, 1) := by decide +kernel
theorem n_276_1104 : ∀ l, xpr 276 1104 l = l := xpr_no (by decide +kernel)
theorem r_276_1105 : xfetch 276 1105 = some (.ireturn, 1) := by decide +kernel
theorem n_276_1105 : ∀ l, xpr 276 1105 l = l := xpr_no (by decide +kernel)
theorem r_276_1106 : xfetch 276 1106 = some (.iload 5, 2) := by decide +kernel
theorem n_276_1106 : ∀ l, xpr 276 1106 l = l := xpr_no (by decide +kernel)
theorem r_276_1108 : xfetch 276 1108 = some (.ifCond .ne 15, 3) := by decide +kernel
theorem n_276_1108 : ∀ l, xpr 276 1108 l = l := xpr_no (by decide +kernel)
theorem r_276_1111 : xfetch 276 1111 = some (.aload_n 3, 1) := by decide +kernel
theorem n_276_1111 : ∀ l, xpr 276 1111 l = l := xpr_no (by decide +kernel)
theorem r_276_1112 : xfetch 276 1112 = some (.iconst 0, 1) := by decide +kernel
theorem n_276_1112 : ∀ l, xpr 276 1112 l = l := xpr_no (by decide +kernel)
theorem r_276_1113 : xfetch 276 1113 = some (.laload, 1) := by decide +kernel
theorem n_276_1113 : ∀ l, xpr 276 1113 l = l := xpr_no (by decide +kernel)
theorem r_276_1114 : xfetch 276 1114 = some (.iload 6, 2) := by decide +kernel
theorem n_276_1114 : ∀ l, xpr 276 1114 l = l := xpr_no (by decide +kernel)
theorem r_276_1116 : xfetch 276 1116 = some (.i2l, 1) := by decide +kernel
theorem n_276_1116 : ∀ l, xpr 276 1116 l = l := xpr_no (by decide +kernel)
theorem r_276_1117 : xfetch 276 1117 = some (.lcmp, 1) := by decide +kernel
theorem n_276_1117 : ∀ l, xpr 276 1117 l = l := xpr_no (by decide +kernel)
theorem r_276_1118 : xfetch 276 1118 = some (.ifCond .eq 5, 3) := by decide +kernel
theorem n_276_1118 : ∀ l, xpr 276 1118 l = l := xpr_no (by decide +kernel)
theorem r_276_1121 : xfetch 276 1121 = some (.iconst 0, 1) := by decide +kernel
theorem n_276_1121 : ∀ l, xpr 276 1121 l = l := xpr_no (by decide +kernel)
theorem r_276_1122 : xfetch 276 1122 = some (.ireturn, 1) := by decide +kernel
theorem n_276_1122 : ∀ l, xpr 276 1122 l = l := xpr_no (by decide +kernel)
theorem r_276_1123 : xfetch 276 1123 = some (.goto 1785, 3) := by decide +kernel
theorem n_276_1123 : ∀ l, xpr 276 1123 l = l := xpr_no (by decide +kernel)
theorem r_276_1126 : xfetch 276 1126 = some (.aload_n 1, 1) := by decide +kernel
theorem r_276_1127 : xfetch 276 1127 = some (.invokevirtual 183, 3) := by decide +kernel
theorem n_276_1127 : ∀ l, xpr 276 1127 l = l := xpr_no (by decide +kernel)
theorem r_276_1130 : xfetch 276 1130 = some (.aload_n 2, 1) := by decide +kernel
theorem n_276_1130 : ∀ l, xpr 276 1130 l = l := xpr_no (by decide +kernel)
theorem r_276_1131 : xfetch 276 1131 = some (.invokevirtual 186, 3) := by decide +kernel
theorem n_276_1131 : ∀ l, xpr 276 1131 l = l := xpr_no (by decide +kernel)
theorem r_276_1134 : xfetch 276 1134 = some (.if_icmp .eq 1774, 3) := by decide +kernel
theorem n_276_1134 : ∀ l, xpr 276 1134 l = l := xpr_no (by decide +kernel)
theorem r_276_1137 : xfetch 276 1137 = some (.iconst 0, 1) := by decide +kernel
theorem n_276_1137 : ∀ l, xpr 276 1137 l = l := xpr_no (by decide +kernel)
theorem r_276_1138 : xfetch 276 1138 = some (.ireturn, 1) := by decide +kernel
theorem n_276_1138 : ∀ l, xpr 276 1138 l = l := xpr_no (by decide +kernel)
theorem r_276_1139 : xfetch 276 1139 = some (.aload_n 1, 1) := by decide +kernel
theorem r_276_1140 : xfetch 276 1140 = some (.aload_n 0, 1) := by decide +kernel
theorem n_276_1140 : ∀ l, xpr 276 1140 l = l := xpr_no (by decide +kernel)
theorem r_276_1141 : xfetch 276 1141 = some (.iload 4, 2) := by decide +kernel
theorem n_276_1141 : ∀ l, xpr 276 1141 l = l := xpr_no (by decide +kernel)
theorem r_276_1143 : xfetch 276 1143 = some (.iconst 1, 1) := by decide +kernel
theorem n_276_1143 : ∀ l, xpr 276 1143 l = l := xpr_no (by decide +kernel)
theorem r_276_1144 : xfetch 276 1144 = some (.iadd, 1) := by decide +kernel
theorem n_276_1144 : ∀ l, xpr 276 1144 l = l := xpr_no (by decide +kernel)
theorem r_276_1145 : xfetch 276 1145 = some (.iaload, 1) := by decide +kernel
theorem n_276_1145 : ∀ l, xpr 276 1145 l = l := xpr_no (by decide +kernel)
theorem r_276_1146 : xfetch 276 1146 = some (.aload_n 0, 1) := by decide +kernel
theorem n_276_1146 : ∀ l, xpr 276 1146 l = l := xpr_no (by decide +kernel)
theorem r_276_1147 : xfetch 276 1147 = some (.iload 4, 2) := by decide +kernel
theorem n_276_1147 : ∀ l, xpr 276 1147 l = l := xpr_no (by decide +kernel)
theorem r_276_1149 : xfetch 276 1149 = some (.iconst 2, 1) := by decide +kernel
theorem n_276_1149 : ∀ l, xpr 276 1149 l = l := xpr_no (by decide +kernel)
theorem r_276_1150 : xfetch 276 1150 = some (.iadd, 1) := by decide +kernel
theorem n_276_1150 : ∀ l, xpr 276 1150 l = l := xpr_no (by decide +kernel)
theorem r_276_1151 : xfetch 276 1151 = some (.iaload, 1) := by decide +kernel
theorem n_276_1151 : ∀ l, xpr 276 1151 l = l := xpr_no (by decide +kernel)
theorem r_276_1152 : xfetch 276 1152 = some (.aload_n 3, 1) := by decide +kernel
theorem n_276_1152 : ∀ l, xpr 276 1152 l = l := xpr_no (by decide +kernel)
theorem r_276_1153 : xfetch 276 1153 = some (.invokestatic 187, 3) := by decide +kernel
theorem n_276_1153 : ∀ l, xpr 276 1153 l = l := xpr_no (by decide +kernel)
theorem r_276_1156 : xfetch 276 1156 = some (.istore 5, 2) := by decide +kernel
theorem n_276_1156 : ∀ l, xpr 276 1156 l = l := xpr_no (by decide +kernel)
theorem r_276_1158 : xfetch 276 1158 = some (.aload_n 2, 1) := by decide +kernel
theorem n_276_1158 : ∀ l, xpr 276 1158 l = l := xpr_no (by decide +kernel)
theorem r_276_1159 : xfetch 276 1159 = some (.aload_n 0, 1) := by decide +kernel
theorem n_276_1159 : ∀ l, xpr 276 1159 l = l := xpr_no (by decide +kernel)
theorem r_276_1160 : xfetch 276 1160 = some (.iload 4, 2) := by decide +kernel
theorem n_276_1160 : ∀ l, xpr 276 1160 l = l := xpr_no (by decide +kernel)
theorem r_276_1162 : xfetch 276 1162 = some (.iconst 1, 1) := by decide +kernel
theorem n_276_1162 : ∀ l, xpr 276 1162 l = l := xpr_no (by decide +kernel)
theorem r_276_1163 : xfetch 276 1163 = some (.iadd, 1) := by decide +kernel
theorem n_276_1163 : ∀ l, xpr 276 1163 l = l := xpr_no (by decide +kernel)
theorem r_276_1164 : xfetch 276 1164 = some (.iaload, 1) := by decide +kernel
theorem n_276_1164 : ∀ l, xpr 276 1164 l = l := xpr_no (by decide +kernel)
theorem r_276_1165 : xfetch 276 1165 = some (.aload_n 0, 1) := by decide +kernel
theorem n_276_1165 : ∀ l, xpr 276 1165 l = l := xpr_no (by decide +kernel)
theorem r_276_1166 : xfetch 276 1166 = some (.iload 4, 2) := by decide +kernel
theorem n_276_1166 : ∀ l, xpr 276 1166 l = l := xpr_no (by decide +kernel)
theorem r_276_1168 : xfetch 276 1168 = some (.iconst 2, 1) := by decide +kernel
theorem n_276_1168 : ∀ l, xpr 276 1168 l = l := xpr_no (by decide +kernel)
theorem r_276_1169 : xfetch 276 1169 = some (.iadd, 1) := by decide +kernel
theorem n_276_1169 : ∀ l, xpr 276 1169 l = l := xpr_no (by decide +kernel)
theorem r_276_1170 : xfetch 276 1170 = some (.iaload, 1) := by decide +kernel
theorem n_276_1170 : ∀ l, xpr 276 1170 l = l := xpr_no (by decide +kernel)
theorem r_276_1171 : xfetch 276 1171 = some (.invokevirtual 189, 3) := by decide +kernel
theorem n_276_1171 : ∀ l, xpr 276 1171 l = l := xpr_no (by decide +kernel)
theorem r_276_1174 : xfetch 276 1174 = some (.istore 6, 2) := by decide +kernel
theorem n_276_1174 : ∀ l, xpr 276 1174 l = l := xpr_no (by decide +kernel)
theorem r_276_1176 : xfetch 276 1176 = some (.aload_n 2, 1) := by decide +kernel
theorem n_276_1176 : ∀ l, xpr 276 1176 l = l := xpr_no (by decide +kernel)
theorem r_276_1177 : xfetch 276 1177 = some (.invokevirtual 133, 3) := by decide +kernel
theorem n_276_1177 : ∀ l, xpr 276 1177 l = l := xpr_no (by decide +kernel)
theorem r_276_1180 : xfetch 276 1180 = some (.iload 5, 2) := by decide +kernel
theorem n_276_1180 : ∀ l, xpr 276 1180 l = l := xpr_no (by decide +kernel)
theorem r_276_1182 : xfetch 276 1182 = some (.if_icmp .eq 5, 3) := by decide +kernel
theorem n_276_1182 : ∀ l, xpr 276 1182 l = l := xpr_no (by decide +kernel)
theorem r_276_1185 : xfetch 276 1185 = some (.iconst 0, 1) := by decide +kernel
theorem n_276_1185 : ∀ l, xpr 276 1185 l = l := xpr_no (by decide +kernel)
theorem r_276_1186 : xfetch 276 1186 = some (.ireturn, 1) := by decide +kernel
theorem n_276_1186 : ∀ l, xpr 276 1186 l = l := xpr_no (by decide +kernel)
theorem r_276_1187 : xfetch 276 1187 = some (.iload 5, 2) := by decide +kernel
theorem n_276_1187 : ∀ l, xpr 276 1187 l = l := xpr_no (by decide +kernel)
theorem r_276_1189 : xfetch 276 1189 = some (.ifCond .ne 15, 3) := by decide +kernel
theorem n_276_1189 : ∀ l, xpr 276 1189 l = l := xpr_no (by decide +kernel)
theorem r_276_1192 : xfetch 276 1192 = some (.aload_n 3, 1) := by decide +kernel
theorem n_276_1192 : ∀ l, xpr 276 1192 l = l := xpr_no (by decide +kernel)
theorem r_276_1193 : xfetch 276 1193 = some (.iconst 0, 1) := by decide +kernel
theorem n_276_1193 : ∀ l, xpr 276 1193 l = l := xpr_no (by decide +kernel)
theorem r_276_1194 : xfetch 276 1194 = some (.laload, 1) := by decide +kernel
theorem n_276_1194 : ∀ l, xpr 276 1194 l = l := xpr_no (by decide +kernel)
theorem r_276_1195 : xfetch 276 1195 = some (.iload 6, 2) := by decide +kernel
theorem n_276_1195 : ∀ l, xpr 276 1195 l = l := xpr_no (by decide +kernel)
theorem r_276_1197 : xfetch 276 1197 = some (.i2l, 1) := by decide +kernel
theorem n_276_1197 : ∀ l, xpr 276 1197 l = l := xpr_no (by decide +kernel)
theorem r_276_1198 : xfetch 276 1198 = some (.lcmp, 1) := by decide +kernel
theorem n_276_1198 : ∀ l, xpr 276 1198 l = l := xpr_no (by decide +kernel)
theorem r_276_1199 : xfetch 276 1199 = some (.ifCond .eq 5, 3) := by decide +kernel
theorem n_276_1199 : ∀ l, xpr 276 1199 l = l := xpr_no (by decide +kernel)
theorem r_276_1202 : xfetch 276 1202 = some (.iconst 0, 1) := by decide +kernel
theorem n_276_1202 : ∀ l, xpr 276 1202 l = l := xpr_no (by decide +kernel)
theorem r_276_1203 : xfetch 276 1203 = some (.ireturn, 1) := by decide +kernel
theorem n_276_1203 : ∀ l, xpr 276 1203 l = l := xpr_no (by decide +kernel)
theorem r_276_1204 : xfetch 276 1204 = some (.goto 1704, 3) := by decide +kernel
theorem n_276_1204 : ∀ l, xpr 276 1204 l = l := xpr_no (by decide +kernel)
theorem r_276_1207 : xfetch 276 1207 = some (.aload_n 1, 1) := by decide +kernel
theorem r_276_1208 : xfetch 276 1208 = some (.aload_n 0, 1) := by decide +kernel
theorem n_276_1208 : ∀ l, xpr 276 1208 l = l := xpr_no (by decide +kernel)
theorem r_276_1209 : xfetch 276 1209 = some (.iload 4, 2) := by decide +kernel
theorem n_276_1209 : ∀ l, xpr 276 1209 l = l := xpr_no (by decide +kernel)
theorem r_276_1211 : xfetch 276 1211 = some (.iconst 1, 1) := by decide +kernel
theorem n_276_1211 : ∀ l, xpr 276 1211 l = l := xpr_no (by decide +kernel)
theorem r_276_1212 : xfetch 276 1212 = some (.iadd, 1) := by decide +kernel
theorem n_276_1212 : ∀ l, xpr 276 1212 l = l := xpr_no (by decide +kernel)
theorem r_276_1213 : xfetch 276 1213 = some (.iaload, 1) := by decide +kernel
theorem n_276_1213 : ∀ l, xpr 276 1213 l = l := xpr_no (by decide +kernel)
theorem r_276_1214 : xfetch 276 1214 = some (.aload_n 0, 1) := by decide +kernel
theorem n_276_1214 : ∀ l, xpr 276 1214 l = l := xpr_no (by decide +kernel)
theorem r_276_1215 : xfetch 276 1215 = some (.iload 4, 2) := by decide +kernel
theorem n_276_1215 : ∀ l, xpr 276 1215 l = l := xpr_no (by decide +kernel)
theorem r_276_1217 : xfetch 276 1217 = some (.iconst 2, 1) := by decide +kernel
theorem n_276_1217 : ∀ l, xpr 276 1217 l = l := xpr_no (by decide +kernel)
theorem r_276_1218 : xfetch 276 1218 = some (.iadd, 1) := by decide +kernel
theorem n_276_1218 : ∀ l, xpr 276 1218 l = l := xpr_no (by decide +kernel)
theorem r_276_1219 : xfetch 276 1219 = some (.iaload, 1) := by decide +kernel
theorem n_276_1219 : ∀ l, xpr 276 1219 l = l := xpr_no (by decide +kernel)
theorem r_276_1220 : xfetch 276 1220 = some (.aload_n 0, 1) := by decide +kernel
theorem n_276_1220 : ∀ l, xpr 276 1220 l = l := xpr_no (by decide +kernel)
theorem r_276_1221 : xfetch 276 1221 = some (.iload 4, 2) := by decide +kernel
theorem n_276_1221 : ∀ l, xpr 276 1221 l = l := xpr_no (by decide +kernel)
theorem r_276_1223 : xfetch 276 1223 = some (.iconst 3, 1) := by decide +kernel
theorem n_276_1223 : ∀ l, xpr 276 1223 l = l := xpr_no (by decide +kernel)
theorem r_276_1224 : xfetch 276 1224 = some (.iadd, 1) := by decide +kernel
theorem n_276_1224 : ∀ l, xpr 276 1224 l = l := xpr_no (by decide +kernel)
theorem r_276_1225 : xfetch 276 1225 = some (.iaload, 1) := by decide +kernel
theorem n_276_1225 : ∀ l, xpr 276 1225 l = l := xpr_no (by decide +kernel)
theorem r_276_1226 : xfetch 276 1226 = some (.aload_n 3, 1) := by decide +kernel
theorem n_276_1226 : ∀ l, xpr 276 1226 l = l := xpr_no (by decide +kernel)
theorem r_276_1227 : xfetch 276 1227 = some (.invokestatic 190, 3) := by decide +kernel
theorem n_276_1227 : ∀ l, xpr 276 1227 l = l := xpr_no (by decide +kernel)
theorem r_276_1230 : xfetch 276 1230 = some (.istore 5, 2) := by decide +kernel
theorem n_276_1230 : ∀ l, xpr 276 1230 l = l := xpr_no (by decide +kernel)
theorem r_276_1232 : xfetch 276 1232 = some (.aload_n 2, 1) := by decide +kernel
theorem n_276_1232 : ∀ l, xpr 276 1232 l = l := xpr_no (by decide +kernel)
theorem r_276_1233 : xfetch 276 1233 = some (.aload_n 0, 1) := by decide +kernel
theorem n_276_1233 : ∀ l, xpr 276 1233 l = l := xpr_no (by decide +kernel)
theorem r_276_1234 : xfetch 276 1234 = some (.iload 4, 2) := by decide +kernel
theorem n_276_1234 : ∀ l, xpr 276 1234 l = l := xpr_no (by decide +kernel)
theorem r_276_1236 : xfetch 276 1236 = some (.iconst 1, 1) := by decide +kernel
theorem n_276_1236 : ∀ l, xpr 276 1236 l = l := xpr_no (by decide +kernel)
theorem r_276_1237 : xfetch 276 1237 = some (.iadd, 1) := by decide +kernel
theorem n_276_1237 : ∀ l, xpr 276 1237 l = l := xpr_no (by decide +kernel)
theorem r_276_1238 : xfetch 276 1238 = some (.iaload, 1) := by decide +kernel
theorem n_276_1238 : ∀ l, xpr 276 1238 l = l := xpr_no (by decide +kernel)
theorem r_276_1239 : xfetch 276 1239 = some (.aload_n 0, 1) := by decide +kernel
theorem n_276_1239 : ∀ l, xpr 276 1239 l = l := xpr_no (by decide +kernel)
theorem r_276_1240 : xfetch 276 1240 = some (.iload 4, 2) := by decide +kernel
theorem n_276_1240 : ∀ l, xpr 276 1240 l = l := xpr_no (by decide +kernel)
theorem r_276_1242 : xfetch 276 1242 = some (.iconst 2, 1) := by decide +kernel
theorem n_276_1242 : ∀ l, xpr 276 1242 l = l := xpr_no (by decide +kernel)
theorem r_276_1243 : xfetch 276 1243 = some (.iadd, 1) := by decide +kernel
theorem n_276_1243 : ∀ l, xpr 276 1243 l = l := xpr_no (by decide +kernel)
theorem r_276_1244 : xfetch 276 1244 = some (.iaload, 1) := by decide +kernel
theorem n_276_1244 : ∀ l, xpr 276 1244 l = l := xpr_no (by decide +kernel)
theorem r_276_1245 : xfetch 276 1245 = some (.aload_n 0, 1) := by decide +kernel
theorem n_276_1245 : ∀ l, xpr 276 1245 l = l := xpr_no (by decide +kernel)
theorem r_276_1246 : xfetch 276 1246 = some (.iload 4, 2) := by decide +kernel
theorem n_276_1246 : ∀ l, xpr 276 1246 l = l := xpr_no (by decide +kernel)
theorem r_276_1248 : xfetch 276 1248 = some (.iconst 3, 1) := by decide +kernel
theorem n_276_1248 : ∀ l, xpr 276 1248 l = l := xpr_no (by decide +kernel)
theorem r_276_1249 : xfetch 276 1249 = some (.iadd, 1) := by decide +kernel
theorem n_276_1249 : ∀ l, xpr 276 1249 l = l := xpr_no (by decide +kernel)
theorem r_276_1250 : xfetch 276 1250 = some (.iaload, 1) := by decide +kernel
theorem n_276_1250 : ∀ l, xpr 276 1250 l = l := xpr_no (by decide +kernel)
theorem r_276_1251 : xfetch 276 1251 = some (.invokevirtual 192, 3) := by decide +kernel
theorem n_276_1251 : ∀ l, xpr 276 1251 l = l := xpr_no (by decide +kernel)
theorem r_276_1254 : xfetch 276 1254 = some (.istore 6, 2) := by decide +kernel
theorem n_276_1254 : ∀ l, xpr 276 1254 l = l := xpr_no (by decide +kernel)
theorem r_276_1256 : xfetch 276 1256 = some (.aload_n 2, 1) := by decide +kernel
theorem n_276_1256 : ∀ l, xpr 276 1256 l = l := xpr_no (by decide +kernel)
theorem r_276_1257 : xfetch 276 1257 = some (.invokevirtual 133, 3) := by decide +kernel
theorem n_276_1257 : ∀ l, xpr 276 1257 l = l := xpr_no (by decide +kernel)
theorem r_276_1260 : xfetch 276 1260 = some (.iload 5, 2) := by decide +kernel
theorem n_276_1260 : ∀ l, xpr 276 1260 l = l := xpr_no (by decide +kernel)
theorem r_276_1262 : xfetch 276 1262 = some (.if_icmp .eq 5, 3) := by decide +kernel
theorem n_276_1262 : ∀ l, xpr 276 1262 l = l := xpr_no (by decide +kernel)
theorem r_276_1265 : xfetch 276 1265 = some (.iconst 0, 1) := by decide +kernel
theorem n_276_1265 : ∀ l, xpr 276 1265 l = l := xpr_no (by decide +kernel)
theorem r_276_1266 : xfetch 276 1266 = some (.ireturn, 1) := by decide +kernel
theorem n_276_1266 : ∀ l, xpr 276 1266 l = l := xpr_no (by decide +kernel)
theorem r_276_1267 : xfetch 276 1267 = some (.iload 5, 2) := by decide +kernel
theorem n_276_1267 : ∀ l, xpr 276 1267 l = l := xpr_no (by decide +kernel)
theorem r_276_1269 : xfetch 276 1269 = some (.ifCond .ne 15, 3) := by decide +kernel
theorem n_276_1269 : ∀ l, xpr 276 1269 l = l := xpr_no (by decide +kernel)
theorem r_276_1272 : xfetch 276 1272 = some (.aload_n 3, 1) := by decide +kernel
theorem n_276_1272 : ∀ l, xpr 276 1272 l = l := xpr_no (by decide +kernel)
theorem r_276_1273 : xfetch 276 1273 = some (.iconst 0, 1) := by decide +kernel
theorem n_276_1273 : ∀ l, xpr 276 1273 l = l := xpr_no (by decide +kernel)
theorem r_276_1274 : xfetch 276 1274 = some (.laload, 1) := by decide +kernel
theorem n_276_1274 : ∀ l, xpr 276 1274 l = l := xpr_no (by decide +kernel)
theorem r_276_1275 : xfetch 276 1275 = some (.iload 6, 2) := by decide +kernel
theorem n_276_1275 : ∀ l, xpr 276 1275 l = l := xpr_no (by decide +kernel)
theorem r_276_1277 : xfetch 276 1277 = some (.i2l, 1) := by decide +kernel
theorem n_276_1277 : ∀ l, xpr 276 1277 l = l := xpr_no (by decide +kernel)
theorem r_276_1278 : xfetch 276 1278 = some (.lcmp, 1) := by decide +kernel
theorem n_276_1278 : ∀ l, xpr 276 1278 l = l := xpr_no (by decide +kernel)
theorem r_276_1279 : xfetch 276 1279 = some (.ifCond .eq 5, 3) := by decide +kernel
theorem n_276_1279 : ∀ l, xpr 276 1279 l = l := xpr_no (by decide +kernel)
theorem r_276_1282 : xfetch 276 1282 = some (.iconst 0, 1) := by decide +kernel
theorem n_276_1282 : ∀ l, xpr 276 1282 l = l := xpr_no (by decide +kernel)
theorem r_276_1283 : xfetch 276 1283 = some (.ireturn, 1) := by decide +kernel
theorem n_276_1283 : ∀ l, xpr 276 1283 l = l := xpr_no (by decide +kernel)
theorem r_276_1284 : xfetch 276 1284 = some (.goto 1624, 3) := by decide +kernel
theorem n_276_1284 : ∀ l, xpr 276 1284 l = l := xpr_no (by decide +kernel)
theorem r_276_1287 : xfetch 276 1287 = some (.aload_n 1, 1) := by decide +kernel
theorem r_276_1288 : xfetch 276 1288 = some (.aload_n 0, 1) := by decide +kernel
theorem n_276_1288 : ∀ l, xpr 276 1288 l = l := xpr_no (by decide +kernel)
theorem r_276_1289 : xfetch 276 1289 = some (.iload 4, 2) := by decide +kernel
theorem n_276_1289 : ∀ l, xpr 276 1289 l = l := xpr_no (by decide +kernel)
theorem r_276_1291 : xfetch 276 1291 = some (.iconst 1, 1) := by decide +kernel
theorem n_276_1291 : ∀ l, xpr 276 1291 l = l := xpr_no (by decide +kernel)
theorem r_276_1292 : xfetch 276 1292 = some (.iadd, 1) := by decide +kernel
theorem n_276_1292 : ∀ l, xpr 276 1292 l = l := xpr_no (by decide +kernel)
theorem r_276_1293 : xfetch 276 1293 = some (.iaload, 1) := by decide +kernel
theorem n_276_1293 : ∀ l, xpr 276 1293 l = l := xpr_no (by decide +kernel)
theorem r_276_1294 : xfetch 276 1294 = some (.aload_n 0, 1) := by decide +kernel
theorem n_276_1294 : ∀ l, xpr 276 1294 l = l := xpr_no (by decide +kernel)
theorem r_276_1295 : xfetch 276 1295 = some (.iload 4, 2) := by decide +kernel
theorem n_276_1295 : ∀ l, xpr 276 1295 l = l := xpr_no (by decide +kernel)
theorem r_276_1297 : xfetch 276 1297 = some (.iconst 2, 1) := by decide +kernel
theorem n_276_1297 : ∀ l, xpr 276 1297 l = l := xpr_no (by decide +kernel)
theorem r_276_1298 : xfetch 276 1298 = some (.iadd, 1) := by decide +kernel
theorem n_276_1298 : ∀ l, xpr 276 1298 l = l := xpr_no (by decide +kernel)
theorem r_276_1299 : xfetch 276 1299 = some (.iaload, 1) := by decide +kernel
theorem n_276_1299 : ∀ l, xpr 276 1299 l = l := xpr_no (by decide +kernel)
theorem r_276_1300 : xfetch 276 1300 = some (.aload_n 0, 1) := by decide +kernel
theorem n_276_1300 : ∀ l, xpr 276 1300 l = l := xpr_no (by decide +kernel)
theorem r_276_1301 : xfetch 276 1301 = some (.iload 4, 2) := by decide +kernel
theorem n_276_1301 : ∀ l, xpr 276 1301 l = l := xpr_no (by decide +kernel)
theorem r_276_1303 : xfetch 276 1303 = some (.iconst 3, 1) := by decide +kernel
theorem n_276_1303 : ∀ l, xpr 276 1303 l = l := xpr_no (by decide +kernel)
theorem r_276_1304 : xfetch 276 1304 = some (.iadd, 1) := by decide +kernel
theorem n_276_1304 : ∀ l, xpr 276 1304 l = l := xpr_no (by decide +kernel)
theorem r_276_1305 : xfetch 276 1305 = some (.iaload, 1) := by decide +kernel
theorem n_276_1305 : ∀ l, xpr 276 1305 l = l := xpr_no (by decide +kernel)
theorem r_276_1306 : xfetch 276 1306 = some (.aload_n 3, 1) := by decide +kernel
theorem n_276_1306 : ∀ l, xpr 276 1306 l = l := xpr_no (by decide +kernel)
theorem r_276_1307 : xfetch 276 1307 = some (.invokestatic 193, 3) := by decide +kernel
theorem n_276_1307 : ∀ l, xpr 276 1307 l = l := xpr_no (by decide +kernel)
theorem r_276_1310 : xfetch 276 1310 = some (.istore 5, 2) := by decide +kernel
theorem n_276_1310 : ∀ l, xpr 276 1310 l = l := xpr_no (by decide +kernel)
theorem r_276_1312 : xfetch 276 1312 = some (.aload_n 2, 1) := by decide +kernel
theorem n_276_1312 : ∀ l, xpr 276 1312 l = l := xpr_no (by decide +kernel)
theorem r_276_1313 : xfetch 276 1313 = some (.aload_n 0, 1) := by decide +kernel
theorem n_276_1313 : ∀ l, xpr 276 1313 l = l := xpr_no (by decide +kernel)
theorem r_276_1314 : xfetch 276 1314 = some (.iload 4, 2) := by decide +kernel
theorem n_276_1314 : ∀ l, xpr 276 1314 l = l := xpr_no (by decide +kernel)
theorem r_276_1316 : xfetch 276 1316 = some (.iconst 1, 1) := by decide +kernel
theorem n_276_1316 : ∀ l, xpr 276 1316 l = l := xpr_no (by decide +kernel)
theorem r_276_1317 : xfetch 276 1317 = some (.iadd, 1) := by decide +kernel
theorem n_276_1317 : ∀ l, xpr 276 1317 l = l := xpr_no (by decide +kernel)
theorem r_276_1318 : xfetch 276 1318 = some (.iaload, 1) := by decide +kernel
theorem n_276_1318 : ∀ l, xpr 276 1318 l = l := xpr_no (by decide +kernel)
theorem r_276_1319 : xfetch 276 1319 = some (.aload_n 0, 1) := by decide +kernel
theorem n_276_1319 : ∀ l, xpr 276 1319 l = l := xpr_no (by decide +kernel)
theorem r_276_1320 : xfetch 276 1320 = some (.iload 4, 2) := by decide +kernel
theorem n_276_1320 : ∀ l, xpr 276 1320 l = l := xpr_no (by decide +kernel)
theorem r_276_1322 : xfetch 276 1322 = some (.iconst 2, 1) := by decide +kernel
theorem n_276_1322 : ∀ l, xpr 276 1322 l = l := xpr_no (by decide +kernel)
theorem r_276_1323 : xfetch 276 1323 = some (.iadd, 1) := by decide +kernel
theorem n_276_1323 : ∀ l, xpr 276 1323 l = l := xpr_no (by decide +kernel)
theorem r_276_1324 : xfetch 276 1324 = some (.iaload, 1) := by decide +kernel
theorem n_276_1324 : ∀ l, xpr 276 1324 l = l := xpr_no (by decide +kernel)
theorem r_276_1325 : xfetch 276 1325 = some (.aload_n 0, 1) := by decide +kernel
theorem n_276_1325 : ∀ l, xpr 276 1325 l = l := xpr_no (by decide +kernel)
theorem r_276_1326 : xfetch 276 1326 = some (.iload 4, 2) := by decide +kernel
theorem n_276_1326 : ∀ l, xpr 276 1326 l = l := xpr_no (by decide +kernel)
theorem r_276_1328 : xfetch 276 1328 = some (.iconst 3, 1) := by decide +kernel
theorem n_276_1328 : ∀ l, xpr 276 1328 l = l := xpr_no (by decide +kernel)
theorem r_276_1329 : xfetch 276 1329 = some (.iadd, 1) := by decide +kernel
theorem n_276_1329 : ∀ l, xpr 276 1329 l = l := xpr_no (by decide +kernel)
theorem r_276_1330 : xfetch 276 1330 = some (.iaload, 1) := by decide +kernel
theorem n_276_1330 : ∀ l, xpr 276 1330 l = l := xpr_no (by decide +kernel)
theorem r_276_1331 : xfetch 276 1331 = some (.invokevirtual 195, 3) := by decide +kernel
theorem n_276_1331 : ∀ l, xpr 276 1331 l = l := xpr_no (by decide +kernel)
theorem r_276_1334 : xfetch 276 1334 = some (.lstore 6, 2) := by decide +kernel
theorem n_276_1334 : ∀ l, xpr 276 1334 l = l := xpr_no (by decide +kernel)
theorem r_276_1336 : xfetch 276 1336 = some (.aload_n 2, 1) := by decide +kernel
theorem n_276_1336 : ∀ l, xpr 276 1336 l = l := xpr_no (by decide +kernel)
theorem r_276_1337 : xfetch 276 1337 = some (.invokevirtual 133, 3) := by decide +kernel
theorem n_276_1337 : ∀ l, xpr 276 1337 l = l := xpr_no (by decide +kernel)
theorem r_276_1340 : xfetch 276 1340 = some (.iload 5, 2) := by decide +kernel
theorem n_276_1340 : ∀ l, xpr 276 1340 l = l := xpr_no (by decide +kernel)
theorem r_276_1342 : xfetch 276 1342 = some (.if_icmp .eq 5, 3) := by decide +kernel
theorem n_276_1342 : ∀ l, xpr 276 1342 l = l := xpr_no (by decide +kernel)
theorem r_276_1345 : xfetch 276 1345 = some (.iconst 0, 1) := by decide +kernel
theorem n_276_1345 : ∀ l, xpr 276 1345 l = l := xpr_no (by decide +kernel)
theorem r_276_1346 : xfetch 276 1346 = some (.ireturn, 1) := by decide +kernel
theorem n_276_1346 : ∀ l, xpr 276 1346 l = l := xpr_no (by decide +kernel)
theorem r_276_1347 : xfetch 276 1347 = some (.iload 5, 2) := by decide +kernel
theorem n_276_1347 : ∀ l, xpr 276 1347 l = l := xpr_no (by decide +kernel)
theorem r_276_1349 : xfetch 276 1349 = some (.ifCond .ne 14, 3) := by decide +kernel
theorem n_276_1349 : ∀ l, xpr 276 1349 l = l := xpr_no (by decide +kernel)
theorem r_276_1352 : xfetch 276 1352 = some (.aload_n 3, 1) := by decide +kernel
theorem n_276_1352 : ∀ l, xpr 276 1352 l = l := xpr_no (by decide +kernel)
theorem r_276_1353 : xfetch 276 1353 = some (.iconst 0, 1) := by decide +kernel
theorem n_276_1353 : ∀ l, xpr 276 1353 l = l := xpr_no (by decide +kernel)
theorem r_276_1354 : xfetch 276 1354 = some (.laload, 1) := by decide +kernel
theorem n_276_1354 : ∀ l, xpr 276 1354 l = l := xpr_no (by decide +kernel)
theorem r_276_1355 : xfetch 276 1355 = some (.lload 6, 2) := by decide +kernel
theorem n_276_1355 : ∀ l, xpr 276 1355 l = l := xpr_no (by decide +kernel)
theorem r_276_1357 : xfetch 276 1357 = some (.lcmp, 1) := by decide +kernel
theorem n_276_1357 : ∀ l, xpr 276 1357 l = l := xpr_no (by decide +kernel)
theorem r_276_1358 : xfetch 276 1358 = some (.ifCond .eq 5, 3) := by decide +kernel
theorem n_276_1358 : ∀ l, xpr 276 1358 l = l := xpr_no (by decide +kernel)
theorem r_276_1361 : xfetch 276 1361 = some (.iconst 0, 1) := by decide +kernel
theorem n_276_1361 : ∀ l, xpr 276 1361 l = l := xpr_no (by decide +kernel)
theorem r_276_1362 : xfetch 276 1362 = some (.ireturn, 1) := by decide +kernel
theorem n_276_1362 : ∀ l, xpr 276 1362 l = l := xpr_no (by decide +kernel)
theorem r_276_1363 : xfetch 276 1363 = some (.goto 1545, 3) := by decide +kernel
theorem n_276_1363 : ∀ l, xpr 276 1363 l = l := xpr_no (by decide +kernel)
theorem r_276_1366 : xfetch 276 1366 = some (.aload_n 1, 1) := by decide +kernel
theorem r_276_1367 : xfetch 276 1367 = some (.aload_n 0, 1) := by decide +kernel
theorem n_276_1367 : ∀ l, xpr 276 1367 l = l := xpr_no (by decide +kernel)
theorem r_276_1368 : xfetch 276 1368 = some (.iload 4, 2) := by decide +kernel
theorem n_276_1368 : ∀ l, xpr 276 1368 l = l := xpr_no (by decide +kernel)
theorem r_276_1370 : xfetch 276 1370 = some (.iconst 1, 1) := by decide +kernel
theorem n_276_1370 : ∀ l, xpr 276 1370 l = l := xpr_no (by decide +kernel)
theorem r_276_1371 : xfetch 276 1371 = some (.iadd, 1) := by decide +kernel
theorem n_276_1371 : ∀ l, xpr 276 1371 l = l := xpr_no (by decide +kernel)
theorem r_276_1372 : xfetch 276 1372 = some (.iaload, 1) := by decide +kernel
theorem n_276_1372 : ∀ l, xpr 276 1372 l = l := xpr_no (by decide +kernel)
theorem r_276_1373 : xfetch 276 1373 = some (.aload_n 0, 1) := by decide +kernel
theorem n_276_1373 : ∀ l, xpr 276 1373 l = l := xpr_no (by decide +kernel)
theorem r_276_1374 : xfetch 276 1374 = some (.iload 4, 2) := by decide +kernel
theorem n_276_1374 : ∀ l, xpr 276 1374 l = l := xpr_no (by decide +kernel)
theorem r_276_1376 : xfetch 276 1376 = some (.iconst 2, 1) := by decide +kernel
theorem n_276_1376 : ∀ l, xpr 276 1376 l = l := xpr_no (by decide +kernel)
theorem r_276_1377 : xfetch 276 1377 = some (.iadd, 1) := by decide +kernel
theorem n_276_1377 : ∀ l, xpr 276 1377 l = l := xpr_no (by decide +kernel)
theorem r_276_1378 : xfetch 276 1378 = some (.iaload, 1) := by decide +kernel
theorem n_276_1378 : ∀ l, xpr 276 1378 l = l := xpr_no (by decide +kernel)
theorem r_276_1379 : xfetch 276 1379 = some (.aload_n 0, 1) := by decide +kernel
theorem n_276_1379 : ∀ l, xpr 276 1379 l = l := xpr_no (by decide +kernel)
theorem r_276_1380 : xfetch 276 1380 = some (.iload 4, 2) := by decide +kernel
theorem n_276_1380 : ∀ l, xpr 276 1380 l = l := xpr_no (by decide +kernel)
theorem r_276_1382 : xfetch 276 1382 = some (.iconst 3, 1) := by decide +kernel
theorem n_276_1382 : ∀ l, xpr 276 1382 l = l := xpr_no (by decide +kernel)
theorem r_276_1383 : xfetch 276 1383 = some (.iadd, 1) := by decide +kernel
theorem n_276_1383 : ∀ l, xpr 276 1383 l = l := xpr_no (by decide +kernel)
theorem r_276_1384 : xfetch 276 1384 = some (.iaload, 1) := by decide +kernel
theorem n_276_1384 : ∀ l, xpr 276 1384 l = l := xpr_no (by decide +kernel)
theorem r_276_1385 : xfetch 276 1385 = some (.aload_n 0, 1) := by decide +kernel
theorem n_276_1385 : ∀ l, xpr 276 1385 l = l := xpr_no (by decide +kernel)
theorem r_276_1386 : xfetch 276 1386 = some (.iload 4, 2) := by decide +kernel
theorem n_276_1386 : ∀ l, xpr 276 1386 l = l := xpr_no (by decide +kernel)
theorem r_276_1388 : xfetch 276 1388 = some (.iconst 4, 1) := by decide +kernel
theorem n_276_1388 : ∀ l, xpr 276 1388 l = l := xpr_no (by decide +kernel)
theorem r_276_1389 : xfetch 276 1389 = some (.iadd, 1) := by decide +kernel
theorem n_276_1389 : ∀ l, xpr 276 1389 l = l := xpr_no (by decide +kernel)
theorem r_276_1390 : xfetch 276 1390 = some (.iaload, 1) := by decide +kernel
theorem n_276_1390 : ∀ l, xpr 276 1390 l = l := xpr_no (by decide +kernel)
theorem r_276_1391 : xfetch 276 1391 = some (.i2l, 1) := by decide +kernel
theorem n_276_1391 : ∀ l, xpr 276 1391 l = l := xpr_no (by decide +kernel)
theorem r_276_1392 : xfetch 276 1392 = some (.bipush 32, 2) := by decide +kernel
theorem n_276_1392 : ∀ l, xpr 276 1392 l = l := xpr_no (by decide +kernel)
theorem r_276_1394 : xfetch 276 1394 = some (.lshl, 1) := by decide +kernel
theorem n_276_1394 : ∀ l, xpr 276 1394 l = l := xpr_no (by decide +kernel)
theorem r_276_1395 : xfetch 276 1395 = some (.aload_n 0, 1) := by decide +kernel
theorem n_276_1395 : ∀ l, xpr 276 1395 l = l := xpr_no (by decide +kernel)
theorem r_276_1396 : xfetch 276 1396 = some (.iload 4, 2) := by decide +kernel
theorem n_276_1396 : ∀ l, xpr 276 1396 l = l := xpr_no (by decide +kernel)
theorem r_276_1398 : xfetch 276 1398 = some (.iconst 5, 1) := by decide +kernel
theorem n_276_1398 : ∀ l, xpr 276 1398 l = l := xpr_no (by decide +kernel)
theorem r_276_1399 : xfetch 276 1399 = some (.iadd, 1) := by decide +kernel
theorem n_276_1399 : ∀ l, xpr 276 1399 l = l := xpr_no (by decide +kernel)
theorem r_276_1400 : xfetch 276 1400 = some (.iaload, 1) := by decide +kernel
theorem n_276_1400 : ∀ l, xpr 276 1400 l = l := xpr_no (by decide +kernel)
theorem r_276_1401 : xfetch 276 1401 = some (.i2l, 1) := by decide +kernel
theorem n_276_1401 : ∀ l, xpr 276 1401 l = l := xpr_no (by decide +kernel)
theorem r_276_1402 : xfetch 276 1402 = some (.ldc2_w 196, 3) := by decide +kernel
theorem n_276_1402 : ∀ l, xpr 276 1402 l = l := xpr_no (by decide +kernel)
theorem r_276_1405 : xfetch 276 1405 = some (.land, 1) := by decide +kernel
theorem n_276_1405 : ∀ l, xpr 276 1405 l = l := xpr_no (by decide +kernel)
theorem r_276_1406 : xfetch 276 1406 = some (.lor, 1) := by decide +kernel
theorem n_276_1406 : ∀ l, xpr 276 1406 l = l := xpr_no (by decide +kernel)
theorem r_276_1407 : xfetch 276 1407 = some (.aload_n 3, 1) := by decide +kernel
theorem n_276_1407 : ∀ l, xpr 276 1407 l = l := xpr_no (by decide +kernel)
theorem r_276_1408 : xfetch 276 1408 = some (.invokestatic 198, 3) := by decide +kernel
theorem n_276_1408 : ∀ l, xpr 276 1408 l = l := xpr_no (by decide +kernel)
theorem r_276_1411 : xfetch 276 1411 = some (.istore 5, 2) := by decide +kernel
theorem n_276_1411 : ∀ l, xpr 276 1411 l = l := xpr_no (by decide +kernel)
theorem r_276_1413 : xfetch 276 1413 = some (.aload_n 2, 1) := by decide +kernel
theorem n_276_1413 : ∀ l, xpr 276 1413 l = l := xpr_no (by decide +kernel)
theorem r_276_1414 : xfetch 276 1414 = some (.aload_n 0, 1) := by decide +kernel
theorem n_276_1414 : ∀ l, xpr 276 1414 l = l := xpr_no (by decide +kernel)
theorem r_276_1415 : xfetch 276 1415 = some (.iload 4, 2) := by decide +kernel
theorem n_276_1415 : ∀ l, xpr 276 1415 l = l := xpr_no (by decide +kernel)
theorem r_276_1417 : xfetch 276 1417 = some (.iconst 1, 1) := by decide +kernel
theorem n_276_1417 : ∀ l, xpr 276 1417 l = l := xpr_no (by decide +kernel)
theorem r_276_1418 : xfetch 276 1418 = some (.iadd, 1) := by decide +kernel
theorem n_276_1418 : ∀ l, xpr 276 1418 l = l := xpr_no (by decide +kernel)
theorem r_276_1419 : xfetch 276 1419 = some (.iaload, 1) := by decide +kernel
theorem n_276_1419 : ∀ l, xpr 276 1419 l = l := xpr_no (by decide +kernel)
theorem r_276_1420 : xfetch 276 1420 = some (.aload_n 0, 1) := by decide +kernel
theorem n_276_1420 : ∀ l, xpr 276 1420 l = l := xpr_no (by decide +kernel)
theorem r_276_1421 : xfetch 276 1421 = some (.iload 4, 2) := by decide +kernel
theorem n_276_1421 : ∀ l, xpr 276 1421 l = l := xpr_no (by decide +kernel)
theorem r_276_1423 : xfetch 276 1423 = some (.iconst 2, 1) := by decide +kernel
theorem n_276_1423 : ∀ l, xpr 276 1423 l = l := xpr_no (by decide +kernel)
theorem r_276_1424 : xfetch 276 1424 = some (.iadd, 1) := by decide +kernel
theorem n_276_1424 : ∀ l, xpr 276 1424 l = l := xpr_no (by decide +kernel)
theorem r_276_1425 : xfetch 276 1425 = some (.iaload, 1) := by decide +kernel
theorem n_276_1425 : ∀ l, xpr 276 1425 l = l := xpr_no (by decide +kernel)
theorem r_276_1426 : xfetch 276 1426 = some (.aload_n 0, 1) := by decide +kernel
theorem n_276_1426 : ∀ l, xpr 276 1426 l = l := xpr_no (by decide +kernel)
theorem r_276_1427 : xfetch 276 1427 = some (.iload 4, 2) := by decide +kernel
theorem n_276_1427 : ∀ l, xpr 276 1427 l = l := xpr_no (by decide +kernel)
theorem r_276_1429 : xfetch 276 1429 = some (.iconst 3, 1) := by decide +kernel
theorem n_276_1429 : ∀ l, xpr 276 1429 l = l := xpr_no (by decide +kernel)
theorem r_276_1430 : xfetch 276 1430 = some (.iadd, 1) := by decide +kernel
theorem n_276_1430 : ∀ l, xpr 276 1430 l = l := xpr_no (by decide +kernel)
theorem r_276_1431 : xfetch 276 1431 = some (.iaload, 1) := by decide +kernel
theorem n_276_1431 : ∀ l, xpr 276 1431 l = l := xpr_no (by decide +kernel)
theorem r_276_1432 : xfetch 276 1432 = some (.aload_n 0, 1) := by decide +kernel
theorem n_276_1432 : ∀ l, xpr 276 1432 l = l := xpr_no (by decide +kernel)
theorem r_276_1433 : xfetch 276 1433 = some (.iload 4, 2) := by decide +kernel
theorem n_276_1433 : ∀ l, xpr 276 1433 l = l := xpr_no (by decide +kernel)
theorem r_276_1435 : xfetch 276 1435 = some (.iconst 4, 1) := by decide +kernel
theorem n_276_1435 : ∀ l, xpr 276 1435 l = l := xpr_no (by decide +kernel)
theorem r_276_1436 : xfetch 276 1436 = some (.iadd, 1) := by decide +kernel
theorem n_276_1436 : ∀ l, xpr 276 1436 l = l := xpr_no (by decide +kernel)
theorem r_276_1437 : xfetch 276 1437 = some (.iaload, 1) := by decide +kernel
theorem n_276_1437 : ∀ l, xpr 276 1437 l = l := xpr_no (by decide +kernel)
theorem r_276_1438 : xfetch 276 1438 = some (.i2l, 1) := by decide +kernel
theorem n_276_1438 : ∀ l, xpr 276 1438 l = l := xpr_no (by decide +kernel)
theorem r_276_1439 : xfetch 276 1439 = some (.bipush 32, 2) := by decide +kernel
theorem n_276_1439 : ∀ l, xpr 276 1439 l = l := xpr_no (by decide +kernel)
theorem r_276_1441 : xfetch 276 1441 = some (.lshl, 1) := by decide +kernel
theorem n_276_1441 : ∀ l, xpr 276 1441 l = l := xpr_no (by decide +kernel)
theorem r_276_1442 : xfetch 276 1442 = some (.aload_n 0, 1) := by decide +kernel
theorem n_276_1442 : ∀ l, xpr 276 1442 l = l := xpr_no (by decide +kernel)
theorem r_276_1443 : xfetch 276 1443 = some (.iload 4, 2) := by decide +kernel
theorem n_276_1443 : ∀ l, xpr 276 1443 l = l := xpr_no (by decide +kernel)
theorem r_276_1445 : xfetch 276 1445 = some (.iconst 5, 1) := by decide +kernel
theorem n_276_1445 : ∀ l, xpr 276 1445 l = l := xpr_no (by decide +kernel)
theorem r_276_1446 : xfetch 276 1446 = some (.iadd, 1) := by decide +kernel
theorem n_276_1446 : ∀ l, xpr 276 1446 l = l := xpr_no (by decide +kernel)
theorem r_276_1447 : xfetch 276 1447 = some (.iaload, 1) := by decide +kernel
theorem n_276_1447 : ∀ l, xpr 276 1447 l = l := xpr_no (by decide +kernel)
theorem r_276_1448 : xfetch 276 1448 = some (.i2l, 1) := by decide +kernel
theorem n_276_1448 : ∀ l, xpr 276 1448 l = l := xpr_no (by decide +kernel)
theorem r_276_1449 : xfetch 276 1449 = some (.ldc2_w 196, 3) := by decide +kernel
theorem n_276_1449 : ∀ l, xpr 276 1449 l = l := xpr_no (by decide +kernel)
theorem r_276_1452 : xfetch 276 1452 = some (.land, 1) := by decide +kernel
theorem n_276_1452 : ∀ l, xpr 276 1452 l = l := xpr_no (by decide +kernel)
theorem r_276_1453 : xfetch 276 1453 = some (.lor, 1) := by decide +kernel
theorem n_276_1453 : ∀ l, xpr 276 1453 l = l := xpr_no (by decide +kernel)
theorem r_276_1454 : xfetch 276 1454 = some (.invokevirtual 201, 3) := by decide +kernel
theorem n_276_1454 : ∀ l, xpr 276 1454 l = l := xpr_no (by decide +kernel)
theorem r_276_1457 : xfetch 276 1457 = some (.lstore 6, 2) := by decide +kernel
theorem n_276_1457 : ∀ l, xpr 276 1457 l = l := xpr_no (by decide +kernel)
theorem r_276_1459 : xfetch 276 1459 = some (.aload_n 2, 1) := by decide +kernel
theorem n_276_1459 : ∀ l, xpr 276 1459 l = l := xpr_no (by decide +kernel)
theorem r_276_1460 : xfetch 276 1460 = some (.invokevirtual 133, 3) := by decide +kernel
theorem n_276_1460 : ∀ l, xpr 276 1460 l = l := xpr_no (by decide +kernel)
theorem r_276_1463 : xfetch 276 1463 = some (.iload 5, 2) := by decide +kernel
theorem n_276_1463 : ∀ l, xpr 276 1463 l = l := xpr_no (by decide +kernel)
theorem r_276_1465 : xfetch 276 1465 = some (.if_icmp .eq 5, 3) := by decide +kernel
theorem n_276_1465 : ∀ l, xpr 276 1465 l = l := xpr_no (by decide +kernel)
theorem r_276_1468 : xfetch 276 1468 = some (.iconst 0, 1) := by decide +kernel
theorem n_276_1468 : ∀ l, xpr 276 1468 l = l := xpr_no (by decide +kernel)
theorem r_276_1469 : xfetch 276 1469 = some (.ireturn, 1) := by decide +kernel
theorem n_276_1469 : ∀ l, xpr 276 1469 l = l := xpr_no (by decide +kernel)
theorem r_276_1470 : xfetch 276 1470 = some (.iload 5, 2) := by decide +kernel
theorem n_276_1470 : ∀ l, xpr 276 1470 l = l := xpr_no (by decide +kernel)
theorem r_276_1472 : xfetch 276 1472 = some (.ifCond .ne 14, 3) := by decide +kernel
theorem n_276_1472 : ∀ l, xpr 276 1472 l = l := xpr_no (by decide +kernel)
theorem r_276_1475 : xfetch 276 1475 = some (.aload_n 3, 1) := by decide +kernel
theorem n_276_1475 : ∀ l, xpr 276 1475 l = l := xpr_no (by decide +kernel)
theorem r_276_1476 : xfetch 276 1476 = some (.iconst 0, 1) := by decide +kernel
theorem n_276_1476 : ∀ l, xpr 276 1476 l = l := xpr_no (by decide +kernel)
theorem r_276_1477 : xfetch 276 1477 = some (.laload, 1) := by decide +kernel
theorem n_276_1477 : ∀ l, xpr 276 1477 l = l := xpr_no (by decide +kernel)
theorem r_276_1478 : xfetch 276 1478 = some (.lload 6, 2) := by decide +kernel
theorem n_276_1478 : ∀ l, xpr 276 1478 l = l := xpr_no (by decide +kernel)
theorem r_276_1480 : xfetch 276 1480 = some (.lcmp, 1) := by decide +kernel
theorem n_276_1480 : ∀ l, xpr 276 1480 l = l := xpr_no (by decide +kernel)
theorem r_276_1481 : xfetch 276 1481 = some (.ifCond .eq 5, 3) := by decide +kernel
theorem n_276_1481 : ∀ l, xpr 276 1481 l = l := xpr_no (by decide +kernel)
theorem r_276_1484 : xfetch 276 1484 = some (.iconst 0, 1) := by decide +kernel
theorem n_276_1484 : ∀ l, xpr 276 1484 l = l := xpr_no (by decide +kernel)
theorem r_276_1485 : xfetch 276 1485 = some (.ireturn, 1) := by decide +kernel
theorem n_276_1485 : ∀ l, xpr 276 1485 l = l := xpr_no (by decide +kernel)
theorem r_276_1486 : xfetch 276 1486 = some (.goto 1422, 3) := by decide +kernel
theorem n_276_1486 : ∀ l, xpr 276 1486 l = l := xpr_no (by decide +kernel)
theorem r_276_1489 : xfetch 276 1489 = some (.aload_n 1, 1) := by decide +kernel
theorem r_276_1490 : xfetch 276 1490 = some (.aload_n 0, 1) := by decide +kernel
theorem n_276_1490 : ∀ l, xpr 276 1490 l = l := xpr_no (by decide +kernel)
theorem r_276_1491 : xfetch 276 1491 = some (.iload 4, 2) := by decide +kernel
theorem n_276_1491 : ∀ l, xpr 276 1491 l = l := xpr_no (by decide +kernel)
theorem r_276_1493 : xfetch 276 1493 = some (.iconst 1, 1) := by decide +kernel
theorem n_276_1493 : ∀ l, xpr 276 1493 l = l := xpr_no (by decide +kernel)
theorem r_276_1494 : xfetch 276 1494 = some (.iadd, 1) := by decide +kernel
theorem n_276_1494 : ∀ l, xpr 276 1494 l = l := xpr_no (by decide +kernel)
theorem r_276_1495 : xfetch 276 1495 = some (.iaload, 1) := by decide +kernel
theorem n_276_1495 : ∀ l, xpr 276 1495 l = l := xpr_no (by decide +kernel)
theorem r_276_1496 : xfetch 276 1496 = some (.aload_n 3, 1) := by decide +kernel
theorem n_276_1496 : ∀ l, xpr 276 1496 l = l := xpr_no (by decide +kernel)
theorem r_276_1497 : xfetch 276 1497 = some (.invokestatic 202, 3) := by decide +kernel
theorem n_276_1497 : ∀ l, xpr 276 1497 l = l := xpr_no (by decide +kernel)
theorem r_276_1500 : xfetch 276 1500 = some (.istore 5, 2) := by decide +kernel
theorem n_276_1500 : ∀ l, xpr 276 1500 l = l := xpr_no (by decide +kernel)
theorem r_276_1502 : xfetch 276 1502 = some (.aload_n 2, 1) := by decide +kernel
theorem n_276_1502 : ∀ l, xpr 276 1502 l = l := xpr_no (by decide +kernel)
theorem r_276_1503 : xfetch 276 1503 = some (.aload_n 0, 1) := by decide +kernel
theorem n_276_1503 : ∀ l, xpr 276 1503 l = l := xpr_no (by decide +kernel)
theorem r_276_1504 : xfetch 276 1504 = some (.iload 4, 2) := by decide +kernel
theorem n_276_1504 : ∀ l, xpr 276 1504 l = l := xpr_no (by decide +kernel)
theorem r_276_1506 : xfetch 276 1506 = some (.iconst 1, 1) := by decide +kernel
theorem n_276_1506 : ∀ l, xpr 276 1506 l = l := xpr_no (by decide +kernel)
theorem r_276_1507 : xfetch 276 1507 = some (.iadd, 1) := by decide +kernel
theorem n_276_1507 : ∀ l, xpr 276 1507 l = l := xpr_no (by decide +kernel)
theorem r_276_1508 : xfetch 276 1508 = some (.iaload, 1) := by decide +kernel
theorem n_276_1508 : ∀ l, xpr 276 1508 l = l := xpr_no (by decide +kernel)
theorem r_276_1509 : xfetch 276 1509 = some (.invokevirtual 204, 3) := by decide +kernel
theorem n_276_1509 : ∀ l, xpr 276 1509 l = l := xpr_no (by decide +kernel)
theorem r_276_1512 : xfetch 276 1512 = some (.istore 6, 2) := by decide +kernel
theorem n_276_1512 : ∀ l, xpr 276 1512 l = l := xpr_no (by decide +kernel)
theorem r_276_1514 : xfetch 276 1514 = some (.aload_n 2, 1) := by decide +kernel
theorem n_276_1514 : ∀ l, xpr 276 1514 l = l := xpr_no (by decide +kernel)
theorem r_276_1515 : xfetch 276 1515 = some (.invokevirtual 133, 3) := by decide +kernel
theorem n_276_1515 : ∀ l, xpr 276 1515 l = l := xpr_no (by decide +kernel)
theorem r_276_1518 : xfetch 276 1518 = some (.iload 5, 2) := by decide +kernel
theorem n_276_1518 : ∀ l, xpr 276 1518 l = l := xpr_no (by decide +kernel)
theorem r_276_1520 : xfetch 276 1520 = some (.if_icmp .eq 5, 3) := by decide +kernel
theorem n_276_1520 : ∀ l, xpr 276 1520 l = l := xpr_no (by decide +kernel)
theorem r_276_1523 : xfetch 276 1523 = some (.iconst 0, 1) := by decide +kernel
theorem n_276_1523 : ∀ l, xpr 276 1523 l = l := xpr_no (by decide +kernel)
theorem r_276_1524 : xfetch 276 1524 = some (.ireturn, 1) := by decide +kernel
theorem n_276_1524 : ∀ l, xpr 276 1524 l = l := xpr_no (by decide +kernel)
theorem r_276_1525 : xfetch 276 1525 = some (.iload 5, 2) := by decide +kernel
theorem n_276_1525 : ∀ l, xpr 276 1525 l = l := xpr_no (by decide +kernel)
theorem r_276_1527 : xfetch 276 1527 = some (.ifCond .ne 15, 3) := by decide +kernel
theorem n_276_1527 : ∀ l, xpr 276 1527 l = l := xpr_no (by decide +kernel)
theorem r_276_1530 : xfetch 276 1530 = some (.aload_n 3, 1) := by decide +kernel
theorem n_276_1530 : ∀ l, xpr 276 1530 l = l := xpr_no (by decide +kernel)
theorem r_276_1531 : xfetch 276 1531 = some (.iconst 0, 1) := by decide +kernel
theorem n_276_1531 : ∀ l, xpr 276 1531 l = l := xpr_no (by decide +kernel)
theorem r_276_1532 : xfetch 276 1532 = some (.laload, 1) := by decide +kernel
theorem n_276_1532 : ∀ l, xpr 276 1532 l = l := xpr_no (by decide +kernel)
theorem r_276_1533 : xfetch 276 1533 = some (.iload 6, 2) := by decide +kernel
theorem n_276_1533 : ∀ l, xpr 276 1533 l = l := xpr_no (by decide +kernel)
theorem r_276_1535 : xfetch 276 1535 = some (.i2l, 1) := by decide +kernel
theorem n_276_1535 : ∀ l, xpr 276 1535 l = l := xpr_no (by decide +kernel)
theorem r_276_1536 : xfetch 276 1536 = some (.lcmp, 1) := by decide +kernel
theorem n_276_1536 : ∀ l, xpr 276 1536 l = l := xpr_no (by decide +kernel)
theorem r_276_1537 : xfetch 276 1537 = some (.ifCond .eq 5, 3) := by decide +kernel
theorem n_276_1537 : ∀ l, xpr 276 1537 l = l := xpr_no (by decide +kernel)
theorem r_276_1540 : xfetch 276 1540 = some (.iconst 0, 1) := by decide +kernel
theorem n_276_1540 : ∀ l, xpr 276 1540 l = l := xpr_no (by decide +kernel)
theorem r_276_1541 : xfetch 276 1541 = some (.ireturn, 1) := by decide +kernel
theorem n_276_1541 : ∀ l, xpr 276 1541 l = l := xpr_no (by decide +kernel)
theorem r_276_1542 : xfetch 276 1542 = some (.goto 1366, 3) := by decide +kernel
theorem n_276_1542 : ∀ l, xpr 276 1542 l = l := xpr_no (by decide +kernel)
theorem r_276_1545 : xfetch 276 1545 = some (.aload_n 1, 1) := by decide +kernel
theorem r_276_1546 : xfetch 276 1546 = some (.aload_n 0, 1) := by decide +kernel
theorem n_276_1546 : ∀ l, xpr 276 1546 l = l := xpr_no (by decide +kernel)
theorem r_276_1547 : xfetch 276 1547 = some (.iload 4, 2) := by decide +kernel
theorem n_276_1547 : ∀ l, xpr 276 1547 l = l := xpr_no (by decide +kernel)
theorem r_276_1549 : xfetch 276 1549 = some (.iconst 1, 1) := by decide +kernel
theorem n_276_1549 : ∀ l, xpr 276 1549 l = l := xpr_no (by decide +kernel)
theorem r_276_1550 : xfetch 276 1550 = some (.iadd, 1) := by decide +kernel
theorem n_276_1550 : ∀ l, xpr 276 1550 l = l := xpr_no (by decide +kernel)
theorem r_276_1551 : xfetch 276 1551 = some (.iaload, 1) := by decide +kernel
theorem n_276_1551 : ∀ l, xpr 276 1551 l = l := xpr_no (by decide +kernel)
theorem r_276_1552 : xfetch 276 1552 = some (.aload_n 0, 1) := by decide +kernel
theorem n_276_1552 : ∀ l, xpr 276 1552 l = l := xpr_no (by decide +kernel)
theorem r_276_1553 : xfetch 276 1553 = some (.iload 4, 2) := by decide +kernel
theorem n_276_1553 : ∀ l, xpr 276 1553 l = l := xpr_no (by decide +kernel)
theorem r_276_1555 : xfetch 276 1555 = some (.iconst 2, 1) := by decide +kernel
theorem n_276_1555 : ∀ l, xpr 276 1555 l = l := xpr_no (by decide +kernel)
theorem r_276_1556 : xfetch 276 1556 = some (.iadd, 1) := by decide +kernel
theorem n_276_1556 : ∀ l, xpr 276 1556 l = l := xpr_no (by decide +kernel)
theorem r_276_1557 : xfetch 276 1557 = some (.iaload, 1) := by decide +kernel
theorem n_276_1557 : ∀ l, xpr 276 1557 l = l := xpr_no (by decide +kernel)
theorem r_276_1558 : xfetch 276 1558 = some (.aload_n 3, 1) := by decide +kernel
theorem n_276_1558 : ∀ l, xpr 276 1558 l = l := xpr_no (by decide +kernel)
theorem r_276_1559 : xfetch 276 1559 = some (.invokestatic 205, 3) := by decide +kernel
theorem n_276_1559 : ∀ l, xpr 276 1559 l = l := xpr_no (by decide +kernel)
theorem r_276_1562 : xfetch 276 1562 = some (.istore 5, 2) := by decide +kernel
theorem n_276_1562 : ∀ l, xpr 276 1562 l = l := xpr_no (by decide +kernel)
theorem r_276_1564 : xfetch 276 1564 = some (.aload_n 2, 1) := by decide +kernel
theorem n_276_1564 : ∀ l, xpr 276 1564 l = l := xpr_no (by decide +kernel)
theorem r_276_1565 : xfetch 276 1565 = some (.aload_n 0, 1) := by decide +kernel
theorem n_276_1565 : ∀ l, xpr 276 1565 l = l := xpr_no (by decide +kernel)
theorem r_276_1566 : xfetch 276 1566 = some (.iload 4, 2) := by decide +kernel
theorem n_276_1566 : ∀ l, xpr 276 1566 l = l := xpr_no (by decide +kernel)
theorem r_276_1568 : xfetch 276 1568 = some (.iconst 1, 1) := by decide +kernel
theorem n_276_1568 : ∀ l, xpr 276 1568 l = l := xpr_no (by decide +kernel)
theorem r_276_1569 : xfetch 276 1569 = some (.iadd, 1) := by decide +kernel
theorem n_276_1569 : ∀ l, xpr 276 1569 l = l := xpr_no (by decide +kernel)
theorem r_276_1570 : xfetch 276 1570 = some (.iaload, 1) := by decide +kernel
theorem n_276_1570 : ∀ l, xpr 276 1570 l = l := xpr_no (by decide +kernel)
theorem r_276_1571 : xfetch 276 1571 = some (.aload_n 0, 1) := by decide +kernel
theorem n_276_1571 : ∀ l, xpr 276 1571 l = l := xpr_no (by decide +kernel)
theorem r_276_1572 : xfetch 276 1572 = some (.iload 4, 2) := by decide +kernel
theorem n_276_1572 : ∀ l, xpr 276 1572 l = l := xpr_no (by decide +kernel)
theorem r_276_1574 : xfetch 276 1574 = some (.iconst 2, 1) := by decide +kernel
theorem n_276_1574 : ∀ l, xpr 276 1574 l = l := xpr_no (by decide +kernel)
theorem r_276_1575 : xfetch 276 1575 = some (.iadd, 1) := by decide +kernel
theorem n_276_1575 : ∀ l, xpr 276 1575 l = l := xpr_no (by decide +kernel)
theorem r_276_1576 : xfetch 276 1576 = some (.iaload, 1) := by decide +kernel
theorem n_276_1576 : ∀ l, xpr 276 1576 l = l := xpr_no (by decide +kernel)
theorem r_276_1577 : xfetch 276 1577 = some (.invokevirtual 207, 3) := by decide +kernel
theorem n_276_1577 : ∀ l, xpr 276 1577 l = l := xpr_no (by decide +kernel)
theorem r_276_1580 : xfetch 276 1580 = some (.istore 6, 2) := by decide +kernel
theorem n_276_1580 : ∀ l, xpr 276 1580 l = l := xpr_no (by decide +kernel)
theorem r_276_1582 : xfetch 276 1582 = some (.aload_n 2, 1) := by decide +kernel
theorem n_276_1582 : ∀ l, xpr 276 1582 l = l := xpr_no (by decide +kernel)
theorem r_276_1583 : xfetch 276 1583 = some (.invokevirtual 133, 3) := by decide +kernel
theorem n_276_1583 : ∀ l, xpr 276 1583 l = l := xpr_no (by decide +kernel)
theorem r_276_1586 : xfetch 276 1586 = some (.iload 5, 2) := by decide +kernel
theorem n_276_1586 : ∀ l, xpr 276 1586 l = l := xpr_no (by decide +kernel)
theorem r_276_1588 : xfetch 276 1588 = some (.if_icmp .eq 5, 3) := by decide +kernel
theorem n_276_1588 : ∀ l, xpr 276 1588 l = l := xpr_no (by decide +kernel)
theorem r_276_1591 : xfetch 276 1591 = some (.iconst 0, 1) := by decide +kernel
theorem n_276_1591 : ∀ l, xpr 276 1591 l = l := xpr_no (by decide +kernel)
theorem r_276_1592 : xfetch 276 1592 = some (.ireturn, 1) := by decide +kernel
theorem n_276_1592 : ∀ l, xpr 276 1592 l = l := xpr_no (by decide +kernel)
theorem r_276_1593 : xfetch 276 1593 = some (.iload 5, 2) := by decide +kernel
theorem n_276_1593 : ∀ l, xpr 276 1593 l = l := xpr_no (by decide +kernel)
theorem r_276_1595 : xfetch 276 1595 = some (.ifCond .ne 15, 3) := by decide +kernel
theorem n_276_1595 : ∀ l, xpr 276 1595 l = l := xpr_no (by decide +kernel)
theorem r_276_1598 : xfetch 276 1598 = some (.aload_n 3, 1) := by decide +kernel
theorem n_276_1598 : ∀ l, xpr 276 1598 l = l := xpr_no (by decide +kernel)
theorem r_276_1599 : xfetch 276 1599 = some (.iconst 0, 1) := by decide +kernel
theorem n_276_1599 : ∀ l, xpr 276 1599 l = l := xpr_no (by decide +kernel)
theorem r_276_1600 : xfetch 276 1600 = some (.laload, 1) := by decide +kernel
theorem n_276_1600 : ∀ l, xpr 276 1600 l = l := xpr_no (by decide +kernel)
theorem r_276_1601 : xfetch 276 1601 = some (.iload 6, 2) := by decide +kernel
theorem n_276_1601 : ∀ l, xpr 276 1601 l = l := xpr_no (by decide +kernel)
theorem r_276_1603 : xfetch 276 1603 = some (.i2l, 1) := by decide +kernel
theorem n_276_1603 : ∀ l, xpr 276 1603 l = l := xpr_no (by decide +kernel)
theorem r_276_1604 : xfetch 276 1604 = some (.lcmp, 1) := by decide +kernel
theorem n_276_1604 : ∀ l, xpr 276 1604 l = l := xpr_no (by decide +kernel)
theorem r_276_1605 : xfetch 276 1605 = some (.ifCond .eq 5, 3) := by decide +kernel
theorem n_276_1605 : ∀ l, xpr 276 1605 l = l := xpr_no (by decide +kernel)
theorem r_276_1608 : xfetch 276 1608 = some (.iconst 0, 1) := by decide +kernel
theorem n_276_1608 : ∀ l, xpr 276 1608 l = l := xpr_no (by decide +kernel)
theorem r_276_1609 : xfetch 276 1609 = some (.ireturn, 1) := by decide +kernel
theorem n_276_1609 : ∀ l, xpr 276 1609 l = l := xpr_no (by decide +kernel)
theorem r_276_1610 : xfetch 276 1610 = some (.goto 1298, 3) := by decide +kernel
theorem n_276_1610 : ∀ l, xpr 276 1610 l = l := xpr_no (by decide +kernel)
theorem r_276_1613 : xfetch 276 1613 = some (.aload_n 1, 1) := by decide +kernel
theorem r_276_1614 : xfetch 276 1614 = some (.aload_n 0, 1) := by decide +kernel
theorem n_276_1614 : ∀ l, xpr 276 1614 l = l := xpr_no (by decide +kernel)
theorem r_276_1615 : xfetch 276 1615 = some (.iload 4, 2) := by decide +kernel
theorem n_276_1615 : ∀ l, xpr 276 1615 l = l := xpr_no (by decide +kernel)
theorem r_276_1617 : xfetch 276 1617 = some (.iconst 1, 1) := by decide +kernel
theorem n_276_1617 : ∀ l, xpr 276 1617 l = l := xpr_no (by decide +kernel)
theorem r_276_1618 : xfetch 276 1618 = some (.iadd, 1) := by decide +kernel
theorem n_276_1618 : ∀ l, xpr 276 1618 l = l := xpr_no (by decide +kernel)
theorem r_276_1619 : xfetch 276 1619 = some (.iaload, 1) := by decide +kernel
theorem n_276_1619 : ∀ l, xpr 276 1619 l = l := xpr_no (by decide +kernel)
theorem r_276_1620 : xfetch 276 1620 = some (.ifCond .eq 7, 3) := by decide +kernel
theorem n_276_1620 : ∀ l, xpr 276 1620 l = l := xpr_no (by decide +kernel)
theorem r_276_1623 : xfetch 276 1623 = some (.iconst 1, 1) := by decide +kernel
theorem n_276_1623 : ∀ l, xpr 276 1623 l = l := xpr_no (by decide +kernel)
theorem r_276_1624 : xfetch 276 1624 = some (.goto 4, 3) := by decide +kernel
theorem n_276_1624 : ∀ l, xpr 276 1624 l = l := xpr_no (by decide +kernel)
theorem r_276_1627 : xfetch 276 1627 = some (.iconst 0, 1) := by decide +kernel
theorem n_276_1627 : ∀ l, xpr 276 1627 l = l := xpr_no (by decide +kernel)
theorem r_276_1628 : xfetch 276 1628 = some (.invokevirtual 208, 3) := by decide +kernel
theorem n_276_1628 : ∀ l, xpr 276 1628 l = l := xpr_no (by decide +kernel)
theorem r_276_1631 : xfetch 276 1631 = some (.aload_n 2, 1) := by decide +kernel
theorem n_276_1631 : ∀ l, xpr 276 1631 l = l := xpr_no (by decide +kernel)
theorem r_276_1632 : xfetch 276 1632 = some (.aload_n 0, 1) := by decide +kernel
theorem n_276_1632 : ∀ l, xpr 276 1632 l = l := xpr_no (by decide +kernel)
theorem r_276_1633 : xfetch 276 1633 = some (.iload 4, 2) := by decide +kernel
theorem n_276_1633 : ∀ l, xpr 276 1633 l = l := xpr_no (by decide +kernel)
theorem r_276_1635 : xfetch 276 1635 = some (.iconst 1, 1) := by decide +kernel
theorem n_276_1635 : ∀ l, xpr 276 1635 l = l := xpr_no (by decide +kernel)
theorem r_276_1636 : xfetch 276 1636 = some (.iadd, 1) := by decide +kernel
theorem n_276_1636 : ∀ l, xpr 276 1636 l = l := xpr_no (by decide +kernel)
theorem r_276_1637 : xfetch 276 1637 = some (.iaload, 1) := by decide +kernel
theorem n_276_1637 : ∀ l, xpr 276 1637 l = l := xpr_no (by decide +kernel)
theorem r_276_1638 : xfetch 276 1638 = some (.ifCond .eq 7, 3) := by decide +kernel
theorem n_276_1638 : ∀ l, xpr 276 1638 l = l := xpr_no (by decide +kernel)
theorem r_276_1641 : xfetch 276 1641 = some (.iconst 1, 1) := by decide +kernel
theorem n_276_1641 : ∀ l, xpr 276 1641 l = l := xpr_no (by decide +kernel)
theorem r_276_1642 : xfetch 276 1642 = some (.goto 4, 3) := by decide +kernel
theorem n_276_1642 : ∀ l, xpr 276 1642 l = l := xpr_no (by decide +kernel)
theorem r_276_1645 : xfetch 276 1645 = some (.iconst 0, 1) := by decide +kernel
theorem n_276_1645 : ∀ l, xpr 276 1645 l = l := xpr_no (by decide +kernel)
theorem r_276_1646 : xfetch 276 1646 = some (.invokevirtual 212, 3) := by decide +kernel
theorem n_276_1646 : ∀ l, xpr 276 1646 l = l := xpr_no (by decide +kernel)
theorem r_276_1649 : xfetch 276 1649 = some (.if_icmp .eq 1259, 3) := by decide +kernel
theorem n_276_1649 : ∀ l, xpr 276 1649 l = l := xpr_no (by decide +kernel)
theorem r_276_1652 : xfetch 276 1652 = some (.iconst 0, 1) := by decide +kernel
theorem n_276_1652 : ∀ l, xpr 276 1652 l = l := xpr_no (by decide +kernel)
theorem r_276_1653 : xfetch 276 1653 = some (.ireturn, 1) := by decide +kernel
theorem n_276_1653 : ∀ l, xpr 276 1653 l = l := xpr_no (by decide +kernel)
theorem r_276_1654 : xfetch 276 1654 = some (.aload_n 1, 1) := by decide +kernel
theorem r_276_1655 : xfetch 276 1655 = some (.aload_n 0, 1) := by decide +kernel
theorem n_276_1655 : ∀ l, xpr 276 1655 l = l := xpr_no (by decide +kernel)
theorem r_276_1656 : xfetch 276 1656 = some (.iload 4, 2) := by decide +kernel
theorem n_276_1656 : ∀ l, xpr 276 1656 l = l := xpr_no (by decide +kernel)
theorem r_276_1658 : xfetch 276 1658 = some (.iconst 1, 1) := by decide +kernel
theorem n_276_1658 : ∀ l, xpr 276 1658 l = l := xpr_no (by decide +kernel)
theorem r_276_1659 : xfetch 276 1659 = some (.iadd, 1) := by decide +kernel
theorem n_276_1659 : ∀ l, xpr 276 1659 l = l := xpr_no (by decide +kernel)
theorem r_276_1660 : xfetch 276 1660 = some (.iaload, 1) := by decide +kernel
theorem n_276_1660 : ∀ l, xpr 276 1660 l = l := xpr_no (by decide +kernel)
theorem r_276_1661 : xfetch 276 1661 = some (.aload_n 0, 1) := by decide +kernel
theorem n_276_1661 : ∀ l, xpr 276 1661 l = l := xpr_no (by decide +kernel)
theorem r_276_1662 : xfetch 276 1662 = some (.iload 4, 2) := by decide +kernel
theorem n_276_1662 : ∀ l, xpr 276 1662 l = l := xpr_no (by decide +kernel)
theorem r_276_1664 : xfetch 276 1664 = some (.iconst 2, 1) := by decide +kernel
theorem n_276_1664 : ∀ l, xpr 276 1664 l = l := xpr_no (by decide +kernel)
theorem r_276_1665 : xfetch 276 1665 = some (.iadd, 1) := by decide +kernel
theorem n_276_1665 : ∀ l, xpr 276 1665 l = l := xpr_no (by decide +kernel)
theorem r_276_1666 : xfetch 276 1666 = some (.iaload, 1) := by decide +kernel
theorem n_276_1666 : ∀ l, xpr 276 1666 l = l := xpr_no (by decide +kernel)
theorem r_276_1667 : xfetch 276 1667 = some (.aload_n 0, 1) := by decide +kernel
theorem n_276_1667 : ∀ l, xpr 276 1667 l = l := xpr_no (by decide +kernel)
theorem r_276_1668 : xfetch 276 1668 = some (.iload 4, 2) := by decide +kernel
theorem n_276_1668 : ∀ l, xpr 276 1668 l = l := xpr_no (by decide +kernel)
theorem r_276_1670 : xfetch 276 1670 = some (.iconst 3, 1) := by decide +kernel
theorem n_276_1670 : ∀ l, xpr 276 1670 l = l := xpr_no (by decide +kernel)
theorem r_276_1671 : xfetch 276 1671 = some (.iadd, 1) := by decide +kernel
theorem n_276_1671 : ∀ l, xpr 276 1671 l = l := xpr_no (by decide +kernel)
theorem r_276_1672 : xfetch 276 1672 = some (.iaload, 1) := by decide +kernel
theorem n_276_1672 : ∀ l, xpr 276 1672 l = l := xpr_no (by decide +kernel)
theorem r_276_1673 : xfetch 276 1673 = some (.aload_n 3, 1) := by decide +kernel
theorem n_276_1673 : ∀ l, xpr 276 1673 l = l := xpr_no (by decide +kernel)
theorem r_276_1674 : xfetch 276 1674 = some (.invokestatic 213, 3) := by decide +kernel
theorem n_276_1674 : ∀ l, xpr 276 1674 l = l := xpr_no (by decide +kernel)
theorem r_276_1677 : xfetch 276 1677 = some (.istore 5, 2) := by decide +kernel
theorem n_276_1677 : ∀ l, xpr 276 1677 l = l := xpr_no (by decide +kernel)
theorem r_276_1679 : xfetch 276 1679 = some (.aload_n 2, 1) := by decide +kernel
theorem n_276_1679 : ∀ l, xpr 276 1679 l = l := xpr_no (by decide +kernel)
theorem r_276_1680 : xfetch 276 1680 = some (.aload_n 0, 1) := by decide +kernel
theorem n_276_1680 : ∀ l, xpr 276 1680 l = l := xpr_no (by decide +kernel)
theorem r_276_1681 : xfetch 276 1681 = some (.iload 4, 2) := by decide +kernel
theorem n_276_1681 : ∀ l, xpr 276 1681 l = l := xpr_no (by decide +kernel)
theorem r_276_1683 : xfetch 276 1683 = some (.iconst 1, 1) := by decide +kernel
theorem n_276_1683 : ∀ l, xpr 276 1683 l = l := xpr_no (by decide +kernel)
theorem r_276_1684 : xfetch 276 1684 = some (.iadd, 1) := by decide +kernel
theorem n_276_1684 : ∀ l, xpr 276 1684 l = l := xpr_no (by decide +kernel)
theorem r_276_1685 : xfetch 276 1685 = some (.iaload, 1) := by decide +kernel
theorem n_276_1685 : ∀ l, xpr 276 1685 l = l := xpr_no (by decide +kernel)
theorem r_276_1686 : xfetch 276 1686 = some (.aload_n 0, 1) := by decide +kernel
theorem n_276_1686 : ∀ l, xpr 276 1686 l = l := xpr_no (by decide +kernel)
theorem r_276_1687 : xfetch 276 1687 = some (.iload 4, 2) := by decide +kernel
theorem n_276_1687 : ∀ l, xpr 276 1687 l = l := xpr_no (by decide +kernel)
theorem r_276_1689 : xfetch 276 1689 = some (.iconst 2, 1) := by decide +kernel
theorem n_276_1689 : ∀ l, xpr 276 1689 l = l := xpr_no (by decide +kernel)
theorem r_276_1690 : xfetch 276 1690 = some (.iadd, 1) := by decide +kernel
theorem n_276_1690 : ∀ l, xpr 276 1690 l = l := xpr_no (by decide +kernel)
theorem r_276_1691 : xfetch 276 1691 = some (.iaload, 1) := by decide +kernel
theorem n_276_1691 : ∀ l, xpr 276 1691 l = l := xpr_no (by decide +kernel)
theorem r_276_1692 : xfetch 276 1692 = some (.aload_n 0, 1) := by decide +kernel
theorem n_276_1692 : ∀ l, xpr 276 1692 l = l := xpr_no (by decide +kernel)
theorem r_276_1693 : xfetch 276 1693 = some (.iload 4, 2) := by decide +kernel
theorem n_276_1693 : ∀ l, xpr 276 1693 l = l := xpr_no (by decide +kernel)
theorem r_276_1695 : xfetch 276 1695 = some (.iconst 3, 1) := by decide +kernel
theorem n_276_1695 : ∀ l, xpr 276 1695 l = l := xpr_no (by decide +kernel)
theorem r_276_1696 : xfetch 276 1696 = some (.iadd, 1) := by decide +kernel
theorem n_276_1696 : ∀ l, xpr 276 1696 l = l := xpr_no (by decide +kernel)
theorem r_276_1697 : xfetch 276 1697 = some (.iaload, 1) := by decide +kernel
theorem n_276_1697 : ∀ l, xpr 276 1697 l = l := xpr_no (by decide +kernel)
theorem r_276_1698 : xfetch 276 1698 = some (.invokevirtual 215, 3) := by decide +kernel
theorem n_276_1698 : ∀ l, xpr 276 1698 l = l := xpr_no (by decide +kernel)
theorem r_276_1701 : xfetch 276 1701 = some (.istore 6, 2) := by decide +kernel
theorem n_276_1701 : ∀ l, xpr 276 1701 l = l := xpr_no (by decide +kernel)
theorem r_276_1703 : xfetch 276 1703 = some (.aload_n 2, 1) := by decide +kernel
theorem n_276_1703 : ∀ l, xpr 276 1703 l = l := xpr_no (by decide +kernel)
theorem r_276_1704 : xfetch 276 1704 = some (.invokevirtual 133, 3) := by decide +kernel
theorem n_276_1704 : ∀ l, xpr 276 1704 l = l := xpr_no (by decide +kernel)
theorem r_276_1707 : xfetch 276 1707 = some (.iload 5, 2) := by decide +kernel
theorem n_276_1707 : ∀ l, xpr 276 1707 l = l := xpr_no (by decide +kernel)
theorem r_276_1709 : xfetch 276 1709 = some (.if_icmp .eq 5, 3) := by decide +kernel
theorem n_276_1709 : ∀ l, xpr 276 1709 l = l := xpr_no (by decide +kernel)
theorem r_276_1712 : xfetch 276 1712 = some (.iconst 0, 1) := by decide +kernel
theorem n_276_1712 : ∀ l, xpr 276 1712 l = l := xpr_no (by decide +kernel)
theorem r_276_1713 : xfetch 276 1713 = some (.ireturn, 1) := by decide +kernel
theorem n_276_1713 : ∀ l, xpr 276 1713 l = l := xpr_no (by decide +kernel)
theorem r_276_1714 : xfetch 276 1714 = some (.iload 5, 2) := by decide +kernel
theorem n_276_1714 : ∀ l, xpr 276 1714 l = l := xpr_no (by decide +kernel)
theorem r_276_1716 : xfetch 276 1716 = some (.ifCond .ne 15, 3) := by decide +kernel
theorem n_276_1716 : ∀ l, xpr 276 1716 l = l := xpr_no (by decide +kernel)
theorem r_276_1719 : xfetch 276 1719 = some (.aload_n 3, 1) := by decide +kernel
theorem n_276_1719 : ∀ l, xpr 276 1719 l = l := xpr_no (by decide +kernel)
theorem r_276_1720 : xfetch 276 1720 = some (.iconst 0, 1) := by decide +kernel
theorem n_276_1720 : ∀ l, xpr 276 1720 l = l := xpr_no (by decide +kernel)
theorem r_276_1721 : xfetch 276 1721 = some (.laload, 1) := by decide +kernel
theorem n_276_1721 : ∀ l, xpr 276 1721 l = l := xpr_no (by decide +kernel)
theorem r_276_1722 : xfetch 276 1722 = some (.iload 6, 2) := by decide +kernel
theorem n_276_1722 : ∀ l, xpr 276 1722 l = l := xpr_no (by decide +kernel)
theorem r_276_1724 : xfetch 276 1724 = some (.i2l, 1) := by decide +kernel
theorem n_276_1724 : ∀ l, xpr 276 1724 l = l := xpr_no (by decide +kernel)
theorem r_276_1725 : xfetch 276 1725 = some (.lcmp, 1) := by decide +kernel
theorem n_276_1725 : ∀ l, xpr 276 1725 l = l := xpr_no (by decide +kernel)
theorem r_276_1726 : xfetch 276 1726 = some (.ifCond .eq 5, 3) := by decide +kernel
theorem n_276_1726 : ∀ l, xpr 276 1726 l = l := xpr_no (by decide +kernel)
theorem r_276_1729 : xfetch 276 1729 = some (.iconst 0, 1) := by decide +kernel
theorem n_276_1729 : ∀ l, xpr 276 1729 l = l := xpr_no (by decide +kernel)
theorem r_276_1730 : xfetch 276 1730 = some (.ireturn, 1) := by decide +kernel
theorem n_276_1730 : ∀ l, xpr 276 1730 l = l := xpr_no (by decide +kernel)
theorem r_276_1731 : xfetch 276 1731 = some (.goto 1177, 3) := by decide +kernel
theorem n_276_1731 : ∀ l, xpr 276 1731 l = l := xpr_no (by decide +kernel)
theorem r_276_1734 : xfetch 276 1734 = some (.aload_n 1, 1) := by decide +kernel
theorem r_276_1735 : xfetch 276 1735 = some (.aload_n 0, 1) := by decide +kernel
theorem n_276_1735 : ∀ l, xpr 276 1735 l = l := xpr_no (by decide +kernel)
theorem r_276_1736 : xfetch 276 1736 = some (.iload 4, 2) := by decide +kernel
theorem n_276_1736 : ∀ l, xpr 276 1736 l = l := xpr_no (by decide +kernel)
theorem r_276_1738 : xfetch 276 1738 = some (.iconst 1, 1) := by decide +kernel
theorem n_276_1738 : ∀ l, xpr 276 1738 l = l := xpr_no (by decide +kernel)
theorem r_276_1739 : xfetch 276 1739 = some (.iadd, 1) := by decide +kernel
theorem n_276_1739 : ∀ l, xpr 276 1739 l = l := xpr_no (by decide +kernel)
theorem r_276_1740 : xfetch 276 1740 = some (.iaload, 1) := by decide +kernel
theorem n_276_1740 : ∀ l, xpr 276 1740 l = l := xpr_no (by decide +kernel)
theorem r_276_1741 : xfetch 276 1741 = some (.aload_n 0, 1) := by decide +kernel
theorem n_276_1741 : ∀ l, xpr 276 1741 l = l := xpr_no (by decide +kernel)
theorem r_276_1742 : xfetch 276 1742 = some (.iload 4, 2) := by decide +kernel
theorem n_276_1742 : ∀ l, xpr 276 1742 l = l := xpr_no (by decide +kernel)
theorem r_276_1744 : xfetch 276 1744 = some (.iconst 2, 1) := by decide +kernel
theorem n_276_1744 : ∀ l, xpr 276 1744 l = l := xpr_no (by decide +kernel)
theorem r_276_1745 : xfetch 276 1745 = some (.iadd, 1) := by decide +kernel
theorem n_276_1745 : ∀ l, xpr 276 1745 l = l := xpr_no (by decide +kernel)
theorem r_276_1746 : xfetch 276 1746 = some (.iaload, 1) := by decide +kernel
theorem n_276_1746 : ∀ l, xpr 276 1746 l = l := xpr_no (by decide +kernel)
theorem r_276_1747 : xfetch 276 1747 = some (.aload_n 0, 1) := by decide +kernel
theorem n_276_1747 : ∀ l, xpr 276 1747 l = l := xpr_no (by decide +kernel)
theorem r_276_1748 : xfetch 276 1748 = some (.iload 4, 2) := by decide +kernel
theorem n_276_1748 : ∀ l, xpr 276 1748 l = l := xpr_no (by decide +kernel)
theorem r_276_1750 : xfetch 276 1750 = some (.iconst 3, 1) := by decide +kernel
theorem n_276_1750 : ∀ l, xpr 276 1750 l = l := xpr_no (by decide +kernel)
theorem r_276_1751 : xfetch 276 1751 = some (.iadd, 1) := by decide +kernel
theorem n_276_1751 : ∀ l, xpr 276 1751 l = l := xpr_no (by decide +kernel)
theorem r_276_1752 : xfetch 276 1752 = some (.iaload, 1) := by decide +kernel
theorem n_276_1752 : ∀ l, xpr 276 1752 l = l := xpr_no (by decide +kernel)
theorem r_276_1753 : xfetch 276 1753 = some (.aload_n 3, 1) := by decide +kernel
theorem n_276_1753 : ∀ l, xpr 276 1753 l = l := xpr_no (by decide +kernel)
theorem r_276_1754 : xfetch 276 1754 = some (.invokestatic 216, 3) := by decide +kernel
theorem n_276_1754 : ∀ l, xpr 276 1754 l = l := xpr_no (by decide +kernel)
theorem r_276_1757 : xfetch 276 1757 = some (.istore 5, 2) := by decide +kernel
theorem n_276_1757 : ∀ l, xpr 276 1757 l = l := xpr_no (by decide +kernel)
theorem r_276_1759 : xfetch 276 1759 = some (.aload_n 2, 1) := by decide +kernel
theorem n_276_1759 : ∀ l, xpr 276 1759 l = l := xpr_no (by decide +kernel)
theorem r_276_1760 : xfetch 276 1760 = some (.aload_n 0, 1) := by decide +kernel
theorem n_276_1760 : ∀ l, xpr 276 1760 l = l := xpr_no (by decide +kernel)
theorem r_276_1761 : xfetch 276 1761 = some (.iload 4, 2) := by decide +kernel
theorem n_276_1761 : ∀ l, xpr 276 1761 l = l := xpr_no (by decide +kernel)
theorem r_276_1763 : xfetch 276 1763 = some (.iconst 1, 1) := by decide +kernel
theorem n_276_1763 : ∀ l, xpr 276 1763 l = l := xpr_no (by decide +kernel)
theorem r_276_1764 : xfetch 276 1764 = some (.iadd, 1) := by decide +kernel
theorem n_276_1764 : ∀ l, xpr 276 1764 l = l := xpr_no (by decide +kernel)
theorem r_276_1765 : xfetch 276 1765 = some (.iaload, 1) := by decide +kernel
theorem n_276_1765 : ∀ l, xpr 276 1765 l = l := xpr_no (by decide +kernel)
theorem r_276_1766 : xfetch 276 1766 = some (.aload_n 0, 1) := by decide +kernel
theorem n_276_1766 : ∀ l, xpr 276 1766 l = l := xpr_no (by decide +kernel)
theorem r_276_1767 : xfetch 276 1767 = some (.iload 4, 2) := by decide +kernel
theorem n_276_1767 : ∀ l, xpr 276 1767 l = l := xpr_no (by decide +kernel)
theorem r_276_1769 : xfetch 276 1769 = some (.iconst 2, 1) := by decide +kernel
theorem n_276_1769 : ∀ l, xpr 276 1769 l = l := xpr_no (by decide +kernel)
theorem r_276_1770 : xfetch 276 1770 = some (.iadd, 1) := by decide +kernel
theorem n_276_1770 : ∀ l, xpr 276 1770 l = l := xpr_no (by decide +kernel)
theorem r_276_1771 : xfetch 276 1771 = some (.iaload, 1) := by decide +kernel
theorem n_276_1771 : ∀ l, xpr 276 1771 l = l := xpr_no (by decide +kernel)
theorem r_276_1772 : xfetch 276 1772 = some (.aload_n 0, 1) := by decide +kernel
theorem n_276_1772 : ∀ l, xpr 276 1772 l = l := xpr_no (by decide +kernel)
theorem r_276_1773 : xfetch 276 1773 = some (.iload 4, 2) := by decide +kernel
theorem n_276_1773 : ∀ l, xpr 276 1773 l = l := xpr_no (by decide +kernel)
theorem r_276_1775 : xfetch 276 1775 = some (.iconst 3, 1) := by decide +kernel
theorem n_276_1775 : ∀ l, xpr 276 1775 l = l := xpr_no (by decide +kernel)
theorem r_276_1776 : xfetch 276 1776 = some (.iadd, 1) := by decide +kernel
theorem n_276_1776 : ∀ l, xpr 276 1776 l = l := xpr_no (by decide +kernel)
theorem r_276_1777 : xfetch 276 1777 = some (.iaload, 1) := by decide +kernel
theorem n_276_1777 : ∀ l, xpr 276 1777 l = l := xpr_no (by decide +kernel)
theorem r_276_1778 : xfetch 276 1778 = some (.invokevirtual 218, 3) := by decide +kernel
theorem n_276_1778 : ∀ l, xpr 276 1778 l = l := xpr_no (by decide +kernel)
theorem r_276_1781 : xfetch 276 1781 = some (.istore 6, 2) := by decide +kernel
theorem n_276_1781 : ∀ l, xpr 276 1781 l = l := xpr_no (by decide +kernel)
theorem r_276_1783 : xfetch 276 1783 = some (.aload_n 2, 1) := by decide +kernel
theorem n_276_1783 : ∀ l, xpr 276 1783 l = l := xpr_no (by decide +kernel)
theorem r_276_1784 : xfetch 276 1784 = some (.invokevirtual 133, 3) := by decide +kernel
theorem n_276_1784 : ∀ l, xpr 276 1784 l = l := xpr_no (by decide +kernel)
theorem r_276_1787 : xfetch 276 1787 = some (.iload 5, 2) := by decide +kernel
theorem n_276_1787 : ∀ l, xpr 276 1787 l = l := xpr_no (by decide +kernel)
theorem r_276_1789 : xfetch 276 1789 = some (.if_icmp .eq 5, 3) := by decide +kernel
theorem n_276_1789 : ∀ l, xpr 276 1789 l = l := xpr_no (by decide +kernel)
theorem r_276_1792 : xfetch 276 1792 = some (.iconst 0, 1) := by decide +kernel
theorem n_276_1792 : ∀ l, xpr 276 1792 l = l := xpr_no (by decide +kernel)
theorem r_276_1793 : xfetch 276 1793 = some (.ireturn, 1) := by decide +kernel
theorem n_276_1793 : ∀ l, xpr 276 1793 l = l := xpr_no (by decide +kernel)
theorem r_276_1794 : xfetch 276 1794 = some (.iload 5, 2) := by decide +kernel
theorem n_276_1794 : ∀ l, xpr 276 1794 l = l := xpr_no (by decide +kernel)
theorem r_276_1796 : xfetch 276 1796 = some (.ifCond .ne 15, 3) := by decide +kernel
theorem n_276_1796 : ∀ l, xpr 276 1796 l = l := xpr_no (by decide +kernel)
theorem r_276_1799 : xfetch 276 1799 = some (.aload_n 3, 1) := by decide +kernel
theorem n_276_1799 : ∀ l, xpr 276 1799 l = l := xpr_no (by decide +kernel)
theorem r_276_1800 : xfetch 276 1800 = some (.iconst 0, 1) := by decide +kernel
theorem n_276_1800 : ∀ l, xpr 276 1800 l = l := xpr_no (by decide +kernel)
theorem r_276_1801 : xfetch 276 1801 = some (.laload, 1) := by decide +kernel
theorem n_276_1801 : ∀ l, xpr 276 1801 l = l := xpr_no (by decide +kernel)
theorem r_276_1802 : xfetch 276 1802 = some (.iload 6, 2) := by decide +kernel
theorem n_276_1802 : ∀ l, xpr 276 1802 l = l := xpr_no (by decide +kernel)
theorem r_276_1804 : xfetch 276 1804 = some (.i2l, 1) := by decide +kernel
theorem n_276_1804 : ∀ l, xpr 276 1804 l = l := xpr_no (by decide +kernel)
theorem r_276_1805 : xfetch 276 1805 = some (.lcmp, 1) := by decide +kernel
theorem n_276_1805 : ∀ l, xpr 276 1805 l = l := xpr_no (by decide +kernel)
theorem r_276_1806 : xfetch 276 1806 = some (.ifCond .eq 5, 3) := by decide +kernel
theorem n_276_1806 : ∀ l, xpr 276 1806 l = l := xpr_no (by decide +kernel)
theorem r_276_1809 : xfetch 276 1809 = some (.iconst 0, 1) := by decide +kernel
theorem n_276_1809 : ∀ l, xpr 276 1809 l = l := xpr_no (by decide +kernel)
theorem r_276_1810 : xfetch 276 1810 = some (.ireturn, 1) := by decide +kernel
theorem n_276_1810 : ∀ l, xpr 276 1810 l = l := xpr_no (by decide +kernel)
theorem r_276_1811 : xfetch 276 1811 = some (.goto 1097, 3) := by decide +kernel
theorem n_276_1811 : ∀ l, xpr 276 1811 l = l := xpr_no (by decide +kernel)
theorem r_276_1814 : xfetch 276 1814 = some (.aload_n 1, 1) := by decide +kernel
theorem r_276_1815 : xfetch 276 1815 = some (.invokevirtual 219, 3) := by decide +kernel
theorem n_276_1815 : ∀ l, xpr 276 1815 l = l := xpr_no (by decide +kernel)
theorem r_276_1818 : xfetch 276 1818 = some (.aload_n 2, 1) := by decide +kernel
theorem n_276_1818 : ∀ l, xpr 276 1818 l = l := xpr_no (by decide +kernel)
theorem r_276_1819 : xfetch 276 1819 = some (.invokevirtual 222, 3) := by decide +kernel
theorem n_276_1819 : ∀ l, xpr 276 1819 l = l := xpr_no (by decide +kernel)
theorem r_276_1822 : xfetch 276 1822 = some (.if_icmp .eq 1086, 3) := by decide +kernel
theorem n_276_1822 : ∀ l, xpr 276 1822 l = l := xpr_no (by decide +kernel)
theorem r_276_1825 : xfetch 276 1825 = some (.iconst 0, 1) := by decide +kernel
theorem n_276_1825 : ∀ l, xpr 276 1825 l = l := xpr_no (by decide +kernel)
theorem r_276_1826 : xfetch 276 1826 = some (.ireturn, 1) := by decide +kernel
theorem n_276_1826 : ∀ l, xpr 276 1826 l = l := xpr_no (by decide +kernel)
theorem r_276_1827 : xfetch 276 1827 = some (.aload_n 1, 1) := by decide +kernel
theorem r_276_1828 : xfetch 276 1828 = some (.aload_n 0, 1) := by decide +kernel
theorem n_276_1828 : ∀ l, xpr 276 1828 l = l := xpr_no (by decide +kernel)
theorem r_276_1829 : xfetch 276 1829 = some (.iload 4, 2) := by decide +kernel
theorem n_276_1829 : ∀ l, xpr 276 1829 l = l := xpr_no (by decide +kernel)
theorem r_276_1831 : xfetch 276 1831 = some (.iconst 1, 1) := by decide +kernel
theorem n_276_1831 : ∀ l, xpr 276 1831 l = l := xpr_no (by decide +kernel)
theorem r_276_1832 : xfetch 276 1832 = some (.iadd, 1) := by decide +kernel
theorem n_276_1832 : ∀ l, xpr 276 1832 l = l := xpr_no (by decide +kernel)
theorem r_276_1833 : xfetch 276 1833 = some (.iaload, 1) := by decide +kernel
theorem n_276_1833 : ∀ l, xpr 276 1833 l = l := xpr_no (by decide +kernel)
theorem r_276_1834 : xfetch 276 1834 = some (.aload_n 0, 1) := by decide +kernel
theorem n_276_1834 : ∀ l, xpr 276 1834 l = l := xpr_no (by decide +kernel)
theorem r_276_1835 : xfetch 276 1835 = some (.iload 4, 2) := by decide +kernel
theorem n_276_1835 : ∀ l, xpr 276 1835 l = l := xpr_no (by decide +kernel)
theorem r_276_1837 : xfetch 276 1837 = some (.iconst 2, 1) := by decide +kernel
theorem n_276_1837 : ∀ l, xpr 276 1837 l = l := xpr_no (by decide +kernel)
theorem r_276_1838 : xfetch 276 1838 = some (.iadd, 1) := by decide +kernel
theorem n_276_1838 : ∀ l, xpr 276 1838 l = l := xpr_no (by decide +kernel)
theorem r_276_1839 : xfetch 276 1839 = some (.iaload, 1) := by decide +kernel
theorem n_276_1839 : ∀ l, xpr 276 1839 l = l := xpr_no (by decide +kernel)
theorem r_276_1840 : xfetch 276 1840 = some (.aload_n 0, 1) := by decide +kernel
theorem n_276_1840 : ∀ l, xpr 276 1840 l = l := xpr_no (by decide +kernel)
theorem r_276_1841 : xfetch 276 1841 = some (.iload 4, 2) := by decide +kernel
theorem n_276_1841 : ∀ l, xpr 276 1841 l = l := xpr_no (by decide +kernel)
theorem r_276_1843 : xfetch 276 1843 = some (.iconst 3, 1) := by decide +kernel
theorem n_276_1843 : ∀ l, xpr 276 1843 l = l := xpr_no (by decide +kernel)
theorem r_276_1844 : xfetch 276 1844 = some (.iadd, 1) := by decide +kernel
theorem n_276_1844 : ∀ l, xpr 276 1844 l = l := xpr_no (by decide +kernel)
theorem r_276_1845 : xfetch 276 1845 = some (.iaload, 1) := by decide +kernel
theorem n_276_1845 : ∀ l, xpr 276 1845 l = l := xpr_no (by decide +kernel)
theorem r_276_1846 : xfetch 276 1846 = some (.ifCond .eq 7, 3) := by decide +kernel
theorem n_276_1846 : ∀ l, xpr 276 1846 l = l := xpr_no (by decide +kernel)
theorem r_276_1849 : xfetch 276 1849 = some (.iconst 1, 1) := by decide +kernel
theorem n_276_1849 : ∀ l, xpr 276 1849 l = l := xpr_no (by decide +kernel)
theorem r_276_1850 : xfetch 276 1850 = some (.goto 4, 3) := by decide +kernel
theorem n_276_1850 : ∀ l, xpr 276 1850 l = l := xpr_no (by decide +kernel)
theorem r_276_1853 : xfetch 276 1853 = some (.iconst 0, 1) := by decide +kernel
theorem n_276_1853 : ∀ l, xpr 276 1853 l = l := xpr_no (by decide +kernel)
theorem r_276_1854 : xfetch 276 1854 = some (.aload_n 3, 1) := by decide +kernel
theorem n_276_1854 : ∀ l, xpr 276 1854 l = l := xpr_no (by decide +kernel)
theorem r_276_1855 : xfetch 276 1855 = some (.invokestatic 223, 3) := by decide +kernel
theorem n_276_1855 : ∀ l, xpr 276 1855 l = l := xpr_no (by decide +kernel)
theorem r_276_1858 : xfetch 276 1858 = some (.istore 5, 2) := by decide +kernel
theorem n_276_1858 : ∀ l, xpr 276 1858 l = l := xpr_no (by decide +kernel)
theorem r_276_1860 : xfetch 276 1860 = some (.aload_n 2, 1) := by decide +kernel
theorem n_276_1860 : ∀ l, xpr 276 1860 l = l := xpr_no (by decide +kernel)
theorem r_276_1861 : xfetch 276 1861 = some (.aload_n 0, 1) := by decide +kernel
theorem n_276_1861 : ∀ l, xpr 276 1861 l = l := xpr_no (by decide +kernel)
theorem r_276_1862 : xfetch 276 1862 = some (.iload 4, 2) := by decide +kernel
theorem n_276_1862 : ∀ l, xpr 276 1862 l = l := xpr_no (by decide +kernel)
theorem r_276_1864 : xfetch 276 1864 = some (.iconst 1, 1) := by decide +kernel
theorem n_276_1864 : ∀ l, xpr 276 1864 l = l := xpr_no (by decide +kernel)
theorem r_276_1865 : xfetch 276 1865 = some (.iadd, 1) := by decide +kernel
theorem n_276_1865 : ∀ l, xpr 276 1865 l = l := xpr_no (by decide +kernel)
theorem r_276_1866 : xfetch 276 1866 = some (.iaload, 1) := by decide +kernel
theorem n_276_1866 : ∀ l, xpr 276 1866 l = l := xpr_no (by decide +kernel)
theorem r_276_1867 : xfetch 276 1867 = some (.aload_n 0, 1) := by decide +kernel
theorem n_276_1867 : ∀ l, xpr 276 1867 l = l := xpr_no (by decide +kernel)
theorem r_276_1868 : xfetch 276 1868 = some (.iload 4, 2) := by decide +kernel
theorem n_276_1868 : ∀ l, xpr 276 1868 l = l := xpr_no (by decide +kernel)
theorem r_276_1870 : xfetch 276 1870 = some (.iconst 2, 1) := by decide +kernel
theorem n_276_1870 : ∀ l, xpr 276 1870 l = l := xpr_no (by decide +kernel)
theorem r_276_1871 : xfetch 276 1871 = some (.iadd, 1) := by decide +kernel
theorem n_276_1871 : ∀ l, xpr 276 1871 l = l := xpr_no (by decide +kernel)
theorem r_276_1872 : xfetch 276 1872 = some (.iaload, 1) := by decide +kernel
theorem n_276_1872 : ∀ l, xpr 276 1872 l = l := xpr_no (by decide +kernel)
theorem r_276_1873 : xfetch 276 1873 = some (.aload_n 0, 1) := by decide +kernel
theorem n_276_1873 : ∀ l, xpr 276 1873 l = l := xpr_no (by decide +kernel)
theorem r_276_1874 : xfetch 276 1874 = some (.iload 4, 2) := by decide +kernel
theorem n_276_1874 : ∀ l, xpr 276 1874 l = l := xpr_no (by decide +kernel)
theorem r_276_1876 : xfetch 276 1876 = some (.iconst 3, 1) := by decide +kernel
theorem n_276_1876 : ∀ l, xpr 276 1876 l = l := xpr_no (by decide +kernel)
theorem r_276_1877 : xfetch 276 1877 = some (.iadd, 1) := by decide +kernel
theorem n_276_1877 : ∀ l, xpr 276 1877 l = l := xpr_no (by decide +kernel)
theorem r_276_1878 : xfetch 276 1878 = some (.iaload, 1) := by decide +kernel
theorem n_276_1878 : ∀ l, xpr 276 1878 l = l := xpr_no (by decide +kernel)
theorem r_276_1879 : xfetch 276 1879 = some (.ifCond .eq 7, 3) := by decide +kernel
theorem n_276_1879 : ∀ l, xpr 276 1879 l = l := xpr_no (by decide +kernel)
theorem r_276_1882 : xfetch 276 1882 = some (.iconst 1, 1) := by decide +kernel
theorem n_276_1882 : ∀ l, xpr 276 1882 l = l := xpr_no (by decide +kernel)
theorem r_276_1883 : xfetch 276 1883 = some (.goto 4, 3) := by decide +kernel
theorem n_276_1883 : ∀ l, xpr 276 1883 l = l := xpr_no (by decide +kernel)
theorem r_276_1886 : xfetch 276 1886 = some (.iconst 0, 1) := by decide +kernel
theorem n_276_1886 : ∀ l, xpr 276 1886 l = l := xpr_no (by decide +kernel)
theorem r_276_1887 : xfetch 276 1887 = some (.invokevirtual 226, 3) := by decide +kernel
theorem n_276_1887 : ∀ l, xpr 276 1887 l = l := xpr_no (by decide +kernel)
theorem r_276_1890 : xfetch 276 1890 = some (.istore 6, 2) := by decide +kernel
theorem n_276_1890 : ∀ l, xpr 276 1890 l = l := xpr_no (by decide +kernel)
theorem r_276_1892 : xfetch 276 1892 = some (.aload_n 2, 1) := by decide +kernel
theorem n_276_1892 : ∀ l, xpr 276 1892 l = l := xpr_no (by decide +kernel)
theorem r_276_1893 : xfetch 276 1893 = some (.invokevirtual 133, 3) := by decide +kernel
theorem n_276_1893 : ∀ l, xpr 276 1893 l = l := xpr_no (by decide +kernel)
theorem r_276_1896 : xfetch 276 1896 = some (.iload 5, 2) := by decide +kernel
theorem n_276_1896 : ∀ l, xpr 276 1896 l = l := xpr_no (by decide +kernel)
theorem r_276_1898 : xfetch 276 1898 = some (.if_icmp .eq 5, 3) := by decide +kernel
theorem n_276_1898 : ∀ l, xpr 276 1898 l = l := xpr_no (by decide +kernel)
theorem r_276_1901 : xfetch 276 1901 = some (.iconst 0, 1) := by decide +kernel
theorem n_276_1901 : ∀ l, xpr 276 1901 l = l := xpr_no (by decide +kernel)
theorem r_276_1902 : xfetch 276 1902 = some (.ireturn, 1) := by decide +kernel
theorem n_276_1902 : ∀ l, xpr 276 1902 l = l := xpr_no (by decide +kernel)
theorem r_276_1903 : xfetch 276 1903 = some (.iload 5, 2) := by decide +kernel
theorem n_276_1903 : ∀ l, xpr 276 1903 l = l := xpr_no (by decide +kernel)
theorem r_276_1905 : xfetch 276 1905 = some (.ifCond .ne 15, 3) := by decide +kernel
theorem n_276_1905 : ∀ l, xpr 276 1905 l = l := xpr_no (by decide +kernel)
theorem r_276_1908 : xfetch 276 1908 = some (.aload_n 3, 1) := by decide +kernel
theorem n_276_1908 : ∀ l, xpr 276 1908 l = l := xpr_no (by decide +kernel)
theorem r_276_1909 : xfetch 276 1909 = some (.iconst 0, 1) := by decide +kernel
theorem n_276_1909 : ∀ l, xpr 276 1909 l = l := xpr_no (by decide +kernel)
theorem r_276_1910 : xfetch 276 1910 = some (.laload, 1) := by decide +kernel
theorem n_276_1910 : ∀ l, xpr 276 1910 l = l := xpr_no (by decide +kernel)
theorem r_276_1911 : xfetch 276 1911 = some (.iload 6, 2) := by decide +kernel
theorem n_276_1911 : ∀ l, xpr 276 1911 l = l := xpr_no (by decide +kernel)
theorem r_276_1913 : xfetch 276 1913 = some (.i2l, 1) := by decide +kernel
theorem n_276_1913 : ∀ l, xpr 276 1913 l = l := xpr_no (by decide +kernel)
theorem r_276_1914 : xfetch 276 1914 = some (.lcmp, 1) := by decide +kernel
theorem n_276_1914 : ∀ l, xpr 276 1914 l = l := xpr_no (by decide +kernel)
theorem r_276_1915 : xfetch 276 1915 = some (.ifCond .eq 5, 3) := by decide +kernel
theorem n_276_1915 : ∀ l, xpr 276 1915 l = l := xpr_no (by decide +kernel)
theorem r_276_1918 : xfetch 276 1918 = some (.iconst 0, 1) := by decide +kernel
theorem n_276_1918 : ∀ l, xpr 276 1918 l = l := xpr_no (by decide +kernel)
theorem r_276_1919 : xfetch 276 1919 = some (.ireturn, 1) := by decide +kernel
theorem n_276_1919 : ∀ l, xpr 276 1919 l = l := xpr_no (by decide +kernel)
theorem r_276_1920 : xfetch 276 1920 = some (.goto 988, 3) := by decide +kernel
theorem n_276_1920 : ∀ l, xpr 276 1920 l = l := xpr_no (by decide +kernel)
theorem r_276_1923 : xfetch 276 1923 = some (.aload_n 1, 1) := by decide +kernel
theorem r_276_1924 : xfetch 276 1924 = some (.aload_n 0, 1) := by decide +kernel
theorem n_276_1924 : ∀ l, xpr 276 1924 l = l := xpr_no (by decide +kernel)
theorem r_276_1925 : xfetch 276 1925 = some (.iload 4, 2) := by decide +kernel
theorem n_276_1925 : ∀ l, xpr 276 1925 l = l := xpr_no (by decide +kernel)
theorem r_276_1927 : xfetch 276 1927 = some (.iconst 1, 1) := by decide +kernel
theorem n_276_1927 : ∀ l, xpr 276 1927 l = l := xpr_no (by decide +kernel)
theorem r_276_1928 : xfetch 276 1928 = some (.iadd, 1) := by decide +kernel
theorem n_276_1928 : ∀ l, xpr 276 1928 l = l := xpr_no (by decide +kernel)
theorem r_276_1929 : xfetch 276 1929 = some (.iaload, 1) := by decide +kernel
theorem n_276_1929 : ∀ l, xpr 276 1929 l = l := xpr_no (by decide +kernel)
theorem r_276_1930 : xfetch 276 1930 = some (.aload_n 0, 1) := by decide +kernel
theorem n_276_1930 : ∀ l, xpr 276 1930 l = l := xpr_no (by decide +kernel)
theorem r_276_1931 : xfetch 276 1931 = some (.iload 4, 2) := by decide +kernel
theorem n_276_1931 : ∀ l, xpr 276 1931 l = l := xpr_no (by decide +kernel)
theorem r_276_1933 : xfetch 276 1933 = some (.iconst 2, 1) := by decide +kernel
theorem n_276_1933 : ∀ l, xpr 276 1933 l = l := xpr_no (by decide +kernel)
theorem r_276_1934 : xfetch 276 1934 = some (.iadd, 1) := by decide +kernel
theorem n_276_1934 : ∀ l, xpr 276 1934 l = l := xpr_no (by decide +kernel)
theorem r_276_1935 : xfetch 276 1935 = some (.iaload, 1) := by decide +kernel
theorem n_276_1935 : ∀ l, xpr 276 1935 l = l := xpr_no (by decide +kernel)
theorem r_276_1936 : xfetch 276 1936 = some (.aload_n 0, 1) := by decide +kernel
theorem n_276_1936 : ∀ l, xpr 276 1936 l = l := xpr_no (by decide +kernel)
theorem r_276_1937 : xfetch 276 1937 = some (.iload 4, 2) := by decide +kernel
theorem n_276_1937 : ∀ l, xpr 276 1937 l = l := xpr_no (by decide +kernel)
theorem r_276_1939 : xfetch 276 1939 = some (.iconst 3, 1) := by decide +kernel
theorem n_276_1939 : ∀ l, xpr 276 1939 l = l := xpr_no (by decide +kernel)
theorem r_276_1940 : xfetch 276 1940 = some (.iadd, 1) := by decide +kernel
theorem n_276_1940 : ∀ l, xpr 276 1940 l = l := xpr_no (by decide +kernel)
theorem r_276_1941 : xfetch 276 1941 = some (.iaload, 1) := by decide +kernel
theorem n_276_1941 : ∀ l, xpr 276 1941 l = l := xpr_no (by decide +kernel)
theorem r_276_1942 : xfetch 276 1942 = some (.i2l, 1) := by decide +kernel
theorem n_276_1942 : ∀ l, xpr 276 1942 l = l := xpr_no (by decide +kernel)
theorem r_276_1943 : xfetch 276 1943 = some (.bipush 32, 2) := by decide +kernel
theorem n_276_1943 : ∀ l, xpr 276 1943 l = l := xpr_no (by decide +kernel)
theorem r_276_1945 : xfetch 276 1945 = some (.lshl, 1) := by decide +kernel
theorem n_276_1945 : ∀ l, xpr 276 1945 l = l := xpr_no (by decide +kernel)
theorem r_276_1946 : xfetch 276 1946 = some (.aload_n 0, 1) := by decide +kernel
theorem n_276_1946 : ∀ l, xpr 276 1946 l = l := xpr_no (by decide +kernel)
theorem r_276_1947 : xfetch 276 1947 = some (.iload 4, 2) := by decide +kernel
theorem n_276_1947 : ∀ l, xpr 276 1947 l = l := xpr_no (by decide +kernel)
theorem r_276_1949 : xfetch 276 1949 = some (.iconst 4, 1) := by decide +kernel
theorem n_276_1949 : ∀ l, xpr 276 1949 l = l := xpr_no (by decide +kernel)
theorem r_276_1950 : xfetch 276 1950 = some (.iadd, 1) := by decide +kernel
theorem n_276_1950 : ∀ l, xpr 276 1950 l = l := xpr_no (by decide +kernel)
theorem r_276_1951 : xfetch 276 1951 = some (.iaload, 1) := by decide +kernel
theorem n_276_1951 : ∀ l, xpr 276 1951 l = l := xpr_no (by decide +kernel)
theorem r_276_1952 : xfetch 276 1952 = some (.i2l, 1) := by decide +kernel
theorem n_276_1952 : ∀ l, xpr 276 1952 l = l := xpr_no (by decide +kernel)
theorem r_276_1953 : xfetch 276 1953 = some (.ldc2_w 196, 3) := by decide +kernel
theorem n_276_1953 : ∀ l, xpr 276 1953 l = l := xpr_no (by decide +kernel)
theorem r_276_1956 : xfetch 276 1956 = some (.land, 1) := by decide +kernel
theorem n_276_1956 : ∀ l, xpr 276 1956 l = l := xpr_no (by decide +kernel)
theorem r_276_1957 : xfetch 276 1957 = some (.lor, 1) := by decide +kernel
theorem n_276_1957 : ∀ l, xpr 276 1957 l = l := xpr_no (by decide +kernel)
theorem r_276_1958 : xfetch 276 1958 = some (.aload_n 0, 1) := by decide +kernel
theorem n_276_1958 : ∀ l, xpr 276 1958 l = l := xpr_no (by decide +kernel)
theorem r_276_1959 : xfetch 276 1959 = some (.iload 4, 2) := by decide +kernel
theorem n_276_1959 : ∀ l, xpr 276 1959 l = l := xpr_no (by decide +kernel)
theorem r_276_1961 : xfetch 276 1961 = some (.iconst 5, 1) := by decide +kernel
theorem n_276_1961 : ∀ l, xpr 276 1961 l = l := xpr_no (by decide +kernel)
theorem r_276_1962 : xfetch 276 1962 = some (.iadd, 1) := by decide +kernel
theorem n_276_1962 : ∀ l, xpr 276 1962 l = l := xpr_no (by decide +kernel)
theorem r_276_1963 : xfetch 276 1963 = some (.iaload, 1) := by decide +kernel
theorem n_276_1963 : ∀ l, xpr 276 1963 l = l := xpr_no (by decide +kernel)
theorem r_276_1964 : xfetch 276 1964 = some (.i2l, 1) := by decide +kernel
theorem n_276_1964 : ∀ l, xpr 276 1964 l = l := xpr_no (by decide +kernel)
theorem r_276_1965 : xfetch 276 1965 = some (.bipush 32, 2) := by decide +kernel
theorem n_276_1965 : ∀ l, xpr 276 1965 l = l := xpr_no (by decide +kernel)
theorem r_276_1967 : xfetch 276 1967 = some (.lshl, 1) := by decide +kernel
theorem n_276_1967 : ∀ l, xpr 276 1967 l = l := xpr_no (by decide +kernel)
theorem r_276_1968 : xfetch 276 1968 = some (.aload_n 0, 1) := by decide +kernel
theorem n_276_1968 : ∀ l, xpr 276 1968 l = l := xpr_no (by decide +kernel)
theorem r_276_1969 : xfetch 276 1969 = some (.iload 4, 2) := by decide +kernel
theorem n_276_1969 : ∀ l, xpr 276 1969 l = l := xpr_no (by decide +kernel)
theorem r_276_1971 : xfetch 276 1971 = some (.bipush 6, 2) := by decide +kernel
theorem n_276_1971 : ∀ l, xpr 276 1971 l = l := xpr_no (by decide +kernel)
theorem r_276_1973 : xfetch 276 1973 = some (.iadd, 1) := by decide +kernel
theorem n_276_1973 : ∀ l, xpr 276 1973 l = l := xpr_no (by decide +kernel)
theorem r_276_1974 : xfetch 276 1974 = some (.iaload, 1) := by decide +kernel
theorem n_276_1974 : ∀ l, xpr 276 1974 l = l := xpr_no (by decide +kernel)
theorem r_276_1975 : xfetch 276 1975 = some (.i2l, 1) := by decide +kernel
theorem n_276_1975 : ∀ l, xpr 276 1975 l = l := xpr_no (by decide +kernel)
theorem r_276_1976 : xfetch 276 1976 = some (.ldc2_w 196, 3) := by decide +kernel
theorem n_276_1976 : ∀ l, xpr 276 1976 l = l := xpr_no (by decide +kernel)
theorem r_276_1979 : xfetch 276 1979 = some (.land, 1) := by decide +kernel
theorem n_276_1979 : ∀ l, xpr 276 1979 l = l := xpr_no (by decide +kernel)
theorem r_276_1980 : xfetch 276 1980 = some (.lor, 1) := by decide +kernel
theorem n_276_1980 : ∀ l, xpr 276 1980 l = l := xpr_no (by decide +kernel)
theorem r_276_1981 : xfetch 276 1981 = some (.aload_n 3, 1) := by decide +kernel
theorem n_276_1981 : ∀ l, xpr 276 1981 l = l := xpr_no (by decide +kernel)
theorem r_276_1982 : xfetch 276 1982 = some (.invokestatic 227, 3) := by decide +kernel
theorem n_276_1982 : ∀ l, xpr 276 1982 l = l := xpr_no (by decide +kernel)
theorem r_276_1985 : xfetch 276 1985 = some (.istore 5, 2) := by decide +kernel
theorem n_276_1985 : ∀ l, xpr 276 1985 l = l := xpr_no (by decide +kernel)
theorem r_276_1987 : xfetch 276 1987 = some (.aload_n 2, 1) := by decide +kernel
theorem n_276_1987 : ∀ l, xpr 276 1987 l = l := xpr_no (by decide +kernel)
theorem r_276_1988 : xfetch 276 1988 = some (.aload_n 0, 1) := by decide +kernel
theorem n_276_1988 : ∀ l, xpr 276 1988 l = l := xpr_no (by decide +kernel)
theorem r_276_1989 : xfetch 276 1989 = some (.iload 4, 2) := by decide +kernel
theorem n_276_1989 : ∀ l, xpr 276 1989 l = l := xpr_no (by decide +kernel)
theorem r_276_1991 : xfetch 276 1991 = some (.iconst 1, 1) := by decide +kernel
theorem n_276_1991 : ∀ l, xpr 276 1991 l = l := xpr_no (by decide +kernel)
theorem r_276_1992 : xfetch 276 1992 = some (.iadd, 1) := by decide +kernel
theorem n_276_1992 : ∀ l, xpr 276 1992 l = l := xpr_no (by decide +kernel)
theorem r_276_1993 : xfetch 276 1993 = some (.iaload, 1) := by decide +kernel
theorem n_276_1993 : ∀ l, xpr 276 1993 l = l := xpr_no (by decide +kernel)
theorem r_276_1994 : xfetch 276 1994 = some (.aload_n 0, 1) := by decide +kernel
theorem n_276_1994 : ∀ l, xpr 276 1994 l = l := xpr_no (by decide +kernel)
theorem r_276_1995 : xfetch 276 1995 = some (.iload 4, 2) := by decide +kernel
theorem n_276_1995 : ∀ l, xpr 276 1995 l = l := xpr_no (by decide +kernel)
theorem r_276_1997 : xfetch 276 1997 = some (.iconst 2, 1) := by decide +kernel
theorem n_276_1997 : ∀ l, xpr 276 1997 l = l := xpr_no (by decide +kernel)
theorem r_276_1998 : xfetch 276 1998 = some (.iadd, 1) := by decide +kernel
theorem n_276_1998 : ∀ l, xpr 276 1998 l = l := xpr_no (by decide +kernel)
theorem r_276_1999 : xfetch 276 1999 = some (.iaload, 1) := by decide +kernel
theorem n_276_1999 : ∀ l, xpr 276 1999 l = l := xpr_no (by decide +kernel)
theorem r_276_2000 : xfetch 276 2000 = some (.aload_n 0, 1) := by decide +kernel
theorem n_276_2000 : ∀ l, xpr 276 2000 l = l := xpr_no (by decide +kernel)
theorem r_276_2001 : xfetch 276 2001 = some (.iload 4, 2) := by decide +kernel
theorem n_276_2001 : ∀ l, xpr 276 2001 l = l := xpr_no (by decide +kernel)
theorem r_276_2003 : xfetch 276 2003 = some (.iconst 3, 1) := by decide +kernel
theorem n_276_2003 : ∀ l, xpr 276 2003 l = l := xpr_no (by decide +kernel)
theorem r_276_2004 : xfetch 276 2004 = some (.iadd, 1) := by decide +kernel
theorem n_276_2004 : ∀ l, xpr 276 2004 l = l := xpr_no (by decide +kernel)
theorem r_276_2005 : xfetch 276 2005 = some (.iaload, 1) := by decide +kernel
theorem n_276_2005 : ∀ l, xpr 276 2005 l = l := xpr_no (by decide +kernel)
theorem r_276_2006 : xfetch 276 2006 = some (.i2l, 1) := by decide +kernel
theorem n_276_2006 : ∀ l, xpr 276 2006 l = l := xpr_no (by decide +kernel)
theorem r_276_2007 : xfetch 276 2007 = some (.bipush 32, 2) := by decide +kernel
theorem n_276_2007 : ∀ l, xpr 276 2007 l = l := xpr_no (by decide +kernel)
theorem r_276_2009 : xfetch 276 2009 = some (.lshl, 1) := by decide +kernel
theorem n_276_2009 : ∀ l, xpr 276 2009 l = l := xpr_no (by decide +kernel)
theorem r_276_2010 : xfetch 276 2010 = some (.aload_n 0, 1) := by decide +kernel
theorem n_276_2010 : ∀ l, xpr 276 2010 l = l := xpr_no (by decide +kernel)
theorem r_276_2011 : xfetch 276 2011 = some (.iload 4, 2) := by decide +kernel
theorem n_276_2011 : ∀ l, xpr 276 2011 l = l := xpr_no (by decide +kernel)
theorem r_276_2013 : xfetch 276 2013 = some (.iconst 4, 1) := by decide +kernel
theorem n_276_2013 : ∀ l, xpr 276 2013 l = l := xpr_no (by decide +kernel)
theorem r_276_2014 : xfetch 276 2014 = some (.iadd, 1) := by decide +kernel
theorem n_276_2014 : ∀ l, xpr 276 2014 l = l := xpr_no (by decide +kernel)
theorem r_276_2015 : xfetch 276 2015 = some (.iaload, 1) := by decide +kernel
theorem n_276_2015 : ∀ l, xpr 276 2015 l = l := xpr_no (by decide +kernel)
theorem r_276_2016 : xfetch 276 2016 = some (.i2l, 1) := by decide +kernel
theorem n_276_2016 : ∀ l, xpr 276 2016 l = l := xpr_no (by decide +kernel)
theorem r_276_2017 : xfetch 276 2017 = some (.ldc2_w 196, 3) := by decide +kernel
theorem n_276_2017 : ∀ l, xpr 276 2017 l = l := xpr_no (by decide +kernel)
theorem r_276_2020 : xfetch 276 2020 = some (.land, 1) := by decide +kernel
theorem n_276_2020 : ∀ l, xpr 276 2020 l = l := xpr_no (by decide +kernel)
theorem r_276_2021 : xfetch 276 2021 = some (.lor, 1) := by decide +kernel
theorem n_276_2021 : ∀ l, xpr 276 2021 l = l := xpr_no (by decide +kernel)
theorem r_276_2022 : xfetch 276 2022 = some (.aload_n 0, 1) := by decide +kernel
theorem n_276_2022 : ∀ l, xpr 276 2022 l = l := xpr_no (by decide +kernel)
theorem r_276_2023 : xfetch 276 2023 = some (.iload 4, 2) := by decide +kernel
theorem n_276_2023 : ∀ l, xpr 276 2023 l = l := xpr_no (by decide +kernel)
theorem r_276_2025 : xfetch 276 2025 = some (.iconst 5, 1) := by decide +kernel
theorem n_276_2025 : ∀ l, xpr 276 2025 l = l := xpr_no (by decide +kernel)
theorem r_276_2026 : xfetch 276 2026 = some (.iadd, 1) := by decide +kernel
theorem n_276_2026 : ∀ l, xpr 276 2026 l = l := xpr_no (by decide +kernel)
theorem r_276_2027 : xfetch 276 2027 = some (.iaload, 1) := by decide +kernel
theorem n_276_2027 : ∀ l, xpr 276 2027 l = l := xpr_no (by decide +kernel)
theorem r_276_2028 : xfetch 276 2028 = some (.i2l, 1) := by decide +kernel
theorem n_276_2028 : ∀ l, xpr 276 2028 l = l := xpr_no (by decide +kernel)
theorem r_276_2029 : xfetch 276 2029 = some (.bipush 32, 2) := by decide +kernel
theorem n_276_2029 : ∀ l, xpr 276 2029 l = l := xpr_no (by decide +kernel)
theorem r_276_2031 : xfetch 276 2031 = some (.lshl, 1) := by decide +kernel
theorem n_276_2031 : ∀ l, xpr 276 2031 l = l := xpr_no (by decide +kernel)
theorem r_276_2032 : xfetch 276 2032 = some (.aload_n 0, 1) := by decide +kernel
theorem n_276_2032 : ∀ l, xpr 276 2032 l = l := xpr_no (by decide +kernel)
theorem r_276_2033 : xfetch 276 2033 = some (.iload 4, 2) := by decide +kernel
theorem n_276_2033 : ∀ l, xpr 276 2033 l = l := xpr_no (by decide +kernel)
theorem r_276_2035 : xfetch 276 2035 = some (.bipush 6, 2) := by decide +kernel
theorem n_276_2035 : ∀ l, xpr 276 2035 l = l := xpr_no (by decide +kernel)
theorem r_276_2037 : xfetch 276 2037 = some (.iadd, 1) := by decide +kernel
theorem n_276_2037 : ∀ l, xpr 276 2037 l = l := xpr_no (by decide +kernel)
theorem r_276_2038 : xfetch 276 2038 = some (.iaload, 1) := by decide +kernel
theorem n_276_2038 : ∀ l, xpr 276 2038 l = l := xpr_no (by decide +kernel)
theorem r_276_2039 : xfetch 276 2039 = some (.i2l, 1) := by decide +kernel
theorem n_276_2039 : ∀ l, xpr 276 2039 l = l := xpr_no (by decide +kernel)
theorem r_276_2040 : xfetch 276 2040 = some (.ldc2_w 196, 3) := by decide +kernel
theorem n_276_2040 : ∀ l, xpr 276 2040 l = l := xpr_no (by decide +kernel)
theorem r_276_2043 : xfetch 276 2043 = some (.land, 1) := by decide +kernel
theorem n_276_2043 : ∀ l, xpr 276 2043 l = l := xpr_no (by decide +kernel)
theorem r_276_2044 : xfetch 276 2044 = some (.lor, 1) := by decide +kernel
theorem n_276_2044 : ∀ l, xpr 276 2044 l = l := xpr_no (by decide +kernel)
theorem r_276_2045 : xfetch 276 2045 = some (.invokevirtual 230, 3) := by decide +kernel
theorem n_276_2045 : ∀ l, xpr 276 2045 l = l := xpr_no (by decide +kernel)
theorem r_276_2048 : xfetch 276 2048 = some (.istore 6, 2) := by decide +kernel
theorem n_276_2048 : ∀ l, xpr 276 2048 l = l := xpr_no (by decide +kernel)
theorem r_276_2050 : xfetch 276 2050 = some (.aload_n 2, 1) := by decide +kernel
theorem n_276_2050 : ∀ l, xpr 276 2050 l = l := xpr_no (by decide +kernel)
theorem r_276_2051 : xfetch 276 2051 = some (.invokevirtual 133, 3) := by decide +kernel
theorem n_276_2051 : ∀ l, xpr 276 2051 l = l := xpr_no (by decide +kernel)
theorem r_276_2054 : xfetch 276 2054 = some (.iload 5, 2) := by decide +kernel
theorem n_276_2054 : ∀ l, xpr 276 2054 l = l := xpr_no (by decide +kernel)
theorem r_276_2056 : xfetch 276 2056 = some (.if_icmp .eq 5, 3) := by decide +kernel
theorem n_276_2056 : ∀ l, xpr 276 2056 l = l := xpr_no (by decide +kernel)
theorem r_276_2059 : xfetch 276 2059 = some (.iconst 0, 1) := by decide +kernel
theorem n_276_2059 : ∀ l, xpr 276 2059 l = l := xpr_no (by decide +kernel)
theorem r_276_2060 : xfetch 276 2060 = some (.ireturn, 1) := by decide +kernel
theorem n_276_2060 : ∀ l, xpr 276 2060 l = l := xpr_no (by decide +kernel)
theorem r_276_2061 : xfetch 276 2061 = some (.iload 5, 2) := by decide +kernel
theorem n_276_2061 : ∀ l, xpr 276 2061 l = l := xpr_no (by decide +kernel)
theorem r_276_2063 : xfetch 276 2063 = some (.ifCond .ne 15, 3) := by decide +kernel
theorem n_276_2063 : ∀ l, xpr 276 2063 l = l := xpr_no (by decide +kernel)
theorem r_276_2066 : xfetch 276 2066 = some (.aload_n 3, 1) := by decide +kernel
theorem n_276_2066 : ∀ l, xpr 276 2066 l = l := xpr_no (by decide +kernel)
theorem r_276_2067 : xfetch 276 2067 = some (.iconst 0, 1) := by decide +kernel
theorem n_276_2067 : ∀ l, xpr 276 2067 l = l := xpr_no (by decide +kernel)
theorem r_276_2068 : xfetch 276 2068 = some (.laload, 1) := by decide +kernel
theorem n_276_2068 : ∀ l, xpr 276 2068 l = l := xpr_no (by decide +kernel)
theorem r_276_2069 : xfetch 276 2069 = some (.iload 6, 2) := by decide +kernel
theorem n_276_2069 : ∀ l, xpr 276 2069 l = l := xpr_no (by decide +kernel)
theorem r_276_2071 : xfetch 276 2071 = some (.i2l, 1) := by decide +kernel
theorem n_276_2071 : ∀ l, xpr 276 2071 l = l := xpr_no (by decide +kernel)
theorem r_276_2072 : xfetch 276 2072 = some (.lcmp, 1) := by decide +kernel
theorem n_276_2072 : ∀ l, xpr 276 2072 l = l := xpr_no (by decide +kernel)
theorem r_276_2073 : xfetch 276 2073 = some (.ifCond .eq 5, 3) := by decide +kernel
theorem n_276_2073 : ∀ l, xpr 276 2073 l = l := xpr_no (by decide +kernel)
theorem r_276_2076 : xfetch 276 2076 = some (.iconst 0, 1) := by decide +kernel
theorem n_276_2076 : ∀ l, xpr 276 2076 l = l := xpr_no (by decide +kernel)
theorem r_276_2077 : xfetch 276 2077 = some (.ireturn, 1) := by decide +kernel
theorem n_276_2077 : ∀ l, xpr 276 2077 l = l := xpr_no (by decide +kernel)
theorem r_276_2078 : xfetch 276 2078 = some (.goto 830, 3) := by decide +kernel
theorem n_276_2078 : ∀ l, xpr 276 2078 l = l := xpr_no (by decide +kernel)
theorem r_276_2081 : xfetch 276 2081 = some (.aload_n 1, 1) := by decide +kernel
theorem r_276_2082 : xfetch 276 2082 = some (.aload_n 0, 1) := by decide +kernel
theorem n_276_2082 : ∀ l, xpr 276 2082 l = l := xpr_no (by decide +kernel)
theorem r_276_2083 : xfetch 276 2083 = some (.iload 4, 2) := by decide +kernel
theorem n_276_2083 : ∀ l, xpr 276 2083 l = l := xpr_no (by decide +kernel)
theorem r_276_2085 : xfetch 276 2085 = some (.iconst 1, 1) := by decide +kernel
theorem n_276_2085 : ∀ l, xpr 276 2085 l = l := xpr_no (by decide +kernel)
theorem r_276_2086 : xfetch 276 2086 = some (.iadd, 1) := by decide +kernel
theorem n_276_2086 : ∀ l, xpr 276 2086 l = l := xpr_no (by decide +kernel)
theorem r_276_2087 : xfetch 276 2087 = some (.iaload, 1) := by decide +kernel
theorem n_276_2087 : ∀ l, xpr 276 2087 l = l := xpr_no (by decide +kernel)
theorem r_276_2088 : xfetch 276 2088 = some (.aload_n 0, 1) := by decide +kernel
theorem n_276_2088 : ∀ l, xpr 276 2088 l = l := xpr_no (by decide +kernel)
theorem r_276_2089 : xfetch 276 2089 = some (.iload 4, 2) := by decide +kernel
theorem n_276_2089 : ∀ l, xpr 276 2089 l = l := xpr_no (by decide +kernel)
theorem r_276_2091 : xfetch 276 2091 = some (.iconst 2, 1) := by decide +kernel
theorem n_276_2091 : ∀ l, xpr 276 2091 l = l := xpr_no (by decide +kernel)
theorem r_276_2092 : xfetch 276 2092 = some (.iadd, 1) := by decide +kernel
theorem n_276_2092 : ∀ l, xpr 276 2092 l = l := xpr_no (by decide +kernel)
theorem r_276_2093 : xfetch 276 2093 = some (.iaload, 1) := by decide +kernel
theorem n_276_2093 : ∀ l, xpr 276 2093 l = l := xpr_no (by decide +kernel)
theorem r_276_2094 : xfetch 276 2094 = some (.aload_n 0, 1) := by decide +kernel
theorem n_276_2094 : ∀ l, xpr 276 2094 l = l := xpr_no (by decide +kernel)
theorem r_276_2095 : xfetch 276 2095 = some (.iload 4, 2) := by decide +kernel
theorem n_276_2095 : ∀ l, xpr 276 2095 l = l := xpr_no (by decide +kernel)
theorem r_276_2097 : xfetch 276 2097 = some (.iconst 3, 1) := by decide +kernel
theorem n_276_2097 : ∀ l, xpr 276 2097 l = l := xpr_no (by decide +kernel)
theorem r_276_2098 : xfetch 276 2098 = some (.iadd, 1) := by decide +kernel
theorem n_276_2098 : ∀ l, xpr 276 2098 l = l := xpr_no (by decide +kernel)
theorem r_276_2099 : xfetch 276 2099 = some (.iaload, 1) := by decide +kernel
theorem n_276_2099 : ∀ l, xpr 276 2099 l = l := xpr_no (by decide +kernel)
theorem r_276_2100 : xfetch 276 2100 = some (.aload_n 3, 1) := by decide +kernel
theorem n_276_2100 : ∀ l, xpr 276 2100 l = l := xpr_no (by decide +kernel)
theorem r_276_2101 : xfetch 276 2101 = some (.invokestatic 231, 3) := by decide +kernel
theorem n_276_2101 : ∀ l, xpr 276 2101 l = l := xpr_no (by decide +kernel)
theorem r_276_2104 : xfetch 276 2104 = some (.istore 5, 2) := by decide +kernel
theorem n_276_2104 : ∀ l, xpr 276 2104 l = l := xpr_no (by decide +kernel)
theorem r_276_2106 : xfetch 276 2106 = some (.aload_n 2, 1) := by decide +kernel
theorem n_276_2106 : ∀ l, xpr 276 2106 l = l := xpr_no (by decide +kernel)
theorem r_276_2107 : xfetch 276 2107 = some (.aload_n 0, 1) := by decide +kernel
theorem n_276_2107 : ∀ l, xpr 276 2107 l = l := xpr_no (by decide +kernel)
theorem r_276_2108 : xfetch 276 2108 = some (.iload 4, 2) := by decide +kernel
theorem n_276_2108 : ∀ l, xpr 276 2108 l = l := xpr_no (by decide +kernel)
theorem r_276_2110 : xfetch 276 2110 = some (.iconst 1, 1) := by decide +kernel
theorem n_276_2110 : ∀ l, xpr 276 2110 l = l := xpr_no (by decide +kernel)
theorem r_276_2111 : xfetch 276 2111 = some (.iadd, 1) := by decide +kernel
theorem n_276_2111 : ∀ l, xpr 276 2111 l = l := xpr_no (by decide +kernel)
theorem r_276_2112 : xfetch 276 2112 = some (.iaload, 1) := by decide +kernel
theorem n_276_2112 : ∀ l, xpr 276 2112 l = l := xpr_no (by decide +kernel)
theorem r_276_2113 : xfetch 276 2113 = some (.aload_n 0, 1) := by decide +kernel
theorem n_276_2113 : ∀ l, xpr 276 2113 l = l := xpr_no (by decide +kernel)
theorem r_276_2114 : xfetch 276 2114 = some (.iload 4, 2) := by decide +kernel
theorem n_276_2114 : ∀ l, xpr 276 2114 l = l := xpr_no (by decide +kernel)
theorem r_276_2116 : xfetch 276 2116 = some (.iconst 2, 1) := by decide +kernel
theorem n_276_2116 : ∀ l, xpr 276 2116 l = l := xpr_no (by decide +kernel)
theorem r_276_2117 : xfetch 276 2117 = some (.iadd, 1) := by decide +kernel
theorem n_276_2117 : ∀ l, xpr 276 2117 l = l := xpr_no (by decide +kernel)
theorem r_276_2118 : xfetch 276 2118 = some (.iaload, 1) := by decide +kernel
theorem n_276_2118 : ∀ l, xpr 276 2118 l = l := xpr_no (by decide +kernel)
theorem r_276_2119 : xfetch 276 2119 = some (.aload_n 0, 1) := by decide +kernel
theorem n_276_2119 : ∀ l, xpr 276 2119 l = l := xpr_no (by decide +kernel)
theorem r_276_2120 : xfetch 276 2120 = some (.iload 4, 2) := by decide +kernel
theorem n_276_2120 : ∀ l, xpr 276 2120 l = l := xpr_no (by decide +kernel)
theorem r_276_2122 : xfetch 276 2122 = some (.iconst 3, 1) := by decide +kernel
theorem n_276_2122 : ∀ l, xpr 276 2122 l = l := xpr_no (by decide +kernel)
theorem r_276_2123 : xfetch 276 2123 = some (.iadd, 1) := by decide +kernel
theorem n_276_2123 : ∀ l, xpr 276 2123 l = l := xpr_no (by decide +kernel)
theorem r_276_2124 : xfetch 276 2124 = some (.iaload, 1) := by decide +kernel
theorem n_276_2124 : ∀ l, xpr 276 2124 l = l := xpr_no (by decide +kernel)
theorem r_276_2125 : xfetch 276 2125 = some (.invokevirtual 233, 3) := by decide +kernel
theorem n_276_2125 : ∀ l, xpr 276 2125 l = l := xpr_no (by decide +kernel)
theorem r_276_2128 : xfetch 276 2128 = some (.istore 6, 2) := by decide +kernel
theorem n_276_2128 : ∀ l, xpr 276 2128 l = l := xpr_no (by decide +kernel)
theorem r_276_2130 : xfetch 276 2130 = some (.aload_n 2, 1) := by decide +kernel
theorem n_276_2130 : ∀ l, xpr 276 2130 l = l := xpr_no (by decide +kernel)
theorem r_276_2131 : xfetch 276 2131 = some (.invokevirtual 133, 3) := by decide +kernel
theorem n_276_2131 : ∀ l, xpr 276 2131 l = l := xpr_no (by decide +kernel)
theorem r_276_2134 : xfetch 276 2134 = some (.iload 5, 2) := by decide +kernel
theorem n_276_2134 : ∀ l, xpr 276 2134 l = l := xpr_no (by decide +kernel)
theorem r_276_2136 : xfetch 276 2136 = some (.if_icmp .eq 5, 3) := by decide +kernel
theorem n_276_2136 : ∀ l, xpr 276 2136 l = l := xpr_no (by decide +kernel)
theorem r_276_2139 : xfetch 276 2139 = some (.iconst 0, 1) := by decide +kernel
theorem n_276_2139 : ∀ l, xpr 276 2139 l = l := xpr_no (by decide +kernel)
theorem r_276_2140 : xfetch 276 2140 = some (.ireturn, 1) := by decide +kernel
theorem n_276_2140 : ∀ l, xpr 276 2140 l = l := xpr_no (by decide +kernel)
theorem r_276_2141 : xfetch 276 2141 = some (.iload 5, 2) := by decide +kernel
theorem n_276_2141 : ∀ l, xpr 276 2141 l = l := xpr_no (by decide +kernel)
theorem r_276_2143 : xfetch 276 2143 = some (.ifCond .ne 15, 3) := by decide +kernel
theorem n_276_2143 : ∀ l, xpr 276 2143 l = l := xpr_no (by decide +kernel)
theorem r_276_2146 : xfetch 276 2146 = some (.aload_n 3, 1) := by decide +kernel
theorem n_276_2146 : ∀ l, xpr 276 2146 l = l := xpr_no (by decide +kernel)
theorem r_276_2147 : xfetch 276 2147 = some (.iconst 0, 1) := by decide +kernel
theorem n_276_2147 : ∀ l, xpr 276 2147 l = l := xpr_no (by decide +kernel)
theorem r_276_2148 : xfetch 276 2148 = some (.laload, 1) := by decide +kernel
theorem n_276_2148 : ∀ l, xpr 276 2148 l = l := xpr_no (by decide +kernel)
theorem r_276_2149 : xfetch 276 2149 = some (.iload 6, 2) := by decide +kernel
theorem n_276_2149 : ∀ l, xpr 276 2149 l = l := xpr_no (by decide +kernel)
theorem r_276_2151 : xfetch 276 2151 = some (.i2l, 1) := by decide +kernel
theorem n_276_2151 : ∀ l, xpr 276 2151 l = l := xpr_no (by decide +kernel)
theorem r_276_2152 : xfetch 276 2152 = some (.lcmp, 1) := by decide +kernel
theorem n_276_2152 : ∀ l, xpr 276 2152 l = l := xpr_no (by decide +kernel)
theorem r_276_2153 : xfetch 276 2153 = some (.ifCond .eq 5, 3) := by decide +kernel
theorem n_276_2153 : ∀ l, xpr 276 2153 l = l := xpr_no (by decide +kernel)
theorem r_276_2156 : xfetch 276 2156 = some (.iconst 0, 1) := by decide +kernel
theorem n_276_2156 : ∀ l, xpr 276 2156 l = l := xpr_no (by decide +kernel)
theorem r_276_2157 : xfetch 276 2157 = some (.ireturn, 1) := by decide +kernel
theorem n_276_2157 : ∀ l, xpr 276 2157 l = l := xpr_no (by decide +kernel)
theorem r_276_2158 : xfetch 276 2158 = some (.goto 750, 3) := by decide +kernel
theorem n_276_2158 : ∀ l, xpr 276 2158 l = l := xpr_no (by decide +kernel)
theorem r_276_2161 : xfetch 276 2161 = some (.aload_n 1, 1) := by decide +kernel
theorem r_276_2162 : xfetch 276 2162 = some (.aload_n 0, 1) := by decide +kernel
theorem n_276_2162 : ∀ l, xpr 276 2162 l = l := xpr_no (by decide +kernel)
theorem r_276_2163 : xfetch 276 2163 = some (.iload 4, 2) := by decide +kernel
theorem n_276_2163 : ∀ l, xpr 276 2163 l = l := xpr_no (by decide +kernel)
theorem r_276_2165 : xfetch 276 2165 = some (.iconst 1, 1) := by decide +kernel
theorem n_276_2165 : ∀ l, xpr 276 2165 l = l := xpr_no (by decide +kernel)
theorem r_276_2166 : xfetch 276 2166 = some (.iadd, 1) := by decide +kernel
theorem n_276_2166 : ∀ l, xpr 276 2166 l = l := xpr_no (by decide +kernel)
theorem r_276_2167 : xfetch 276 2167 = some (.iaload, 1) := by decide +kernel
theorem n_276_2167 : ∀ l, xpr 276 2167 l = l := xpr_no (by decide +kernel)
theorem r_276_2168 : xfetch 276 2168 = some (.aload_n 0, 1) := by decide +kernel
theorem n_276_2168 : ∀ l, xpr 276 2168 l = l := xpr_no (by decide +kernel)
theorem r_276_2169 : xfetch 276 2169 = some (.iload 4, 2) := by decide +kernel
theorem n_276_2169 : ∀ l, xpr 276 2169 l = l := xpr_no (by decide +kernel)
theorem r_276_2171 : xfetch 276 2171 = some (.iconst 2, 1) := by decide +kernel
theorem n_276_2171 : ∀ l, xpr 276 2171 l = l := xpr_no (by decide +kernel)
theorem r_276_2172 : xfetch 276 2172 = some (.iadd, 1) := by decide +kernel
theorem n_276_2172 : ∀ l, xpr 276 2172 l = l := xpr_no (by decide +kernel)
theorem r_276_2173 : xfetch 276 2173 = some (.iaload, 1) := by decide +kernel
theorem n_276_2173 : ∀ l, xpr 276 2173 l = l := xpr_no (by decide +kernel)
theorem r_276_2174 : xfetch 276 2174 = some (.aload_n 0, 1) := by decide +kernel
theorem n_276_2174 : ∀ l, xpr 276 2174 l = l := xpr_no (by decide +kernel)
theorem r_276_2175 : xfetch 276 2175 = some (.iload 4, 2) := by decide +kernel
theorem n_276_2175 : ∀ l, xpr 276 2175 l = l := xpr_no (by decide +kernel)
theorem r_276_2177 : xfetch 276 2177 = some (.iconst 3, 1) := by decide +kernel
theorem n_276_2177 : ∀ l, xpr 276 2177 l = l := xpr_no (by decide +kernel)
theorem r_276_2178 : xfetch 276 2178 = some (.iadd, 1) := by decide +kernel
theorem n_276_2178 : ∀ l, xpr 276 2178 l = l := xpr_no (by decide +kernel)
theorem r_276_2179 : xfetch 276 2179 = some (.iaload, 1) := by decide +kernel
theorem n_276_2179 : ∀ l, xpr 276 2179 l = l := xpr_no (by decide +kernel)
theorem r_276_2180 : xfetch 276 2180 = some (.aload_n 0, 1) := by decide +kernel
theorem n_276_2180 : ∀ l, xpr 276 2180 l = l := xpr_no (by decide +kernel)
theorem r_276_2181 : xfetch 276 2181 = some (.iload 4, 2) := by decide +kernel
theorem n_276_2181 : ∀ l, xpr 276 2181 l = l := xpr_no (by decide +kernel)
theorem r_276_2183 : xfetch 276 2183 = some (.iconst 4, 1) := by decide +kernel
theorem n_276_2183 : ∀ l, xpr 276 2183 l = l := xpr_no (by decide +kernel)
theorem r_276_2184 : xfetch 276 2184 = some (.iadd, 1) := by decide +kernel
theorem n_276_2184 : ∀ l, xpr 276 2184 l = l := xpr_no (by decide +kernel)
theorem r_276_2185 : xfetch 276 2185 = some (.iaload, 1) := by decide +kernel
theorem n_276_2185 : ∀ l, xpr 276 2185 l = l := xpr_no (by decide +kernel)
theorem r_276_2186 : xfetch 276 2186 = some (.i2l, 1) := by decide +kernel
theorem n_276_2186 : ∀ l, xpr 276 2186 l = l := xpr_no (by decide +kernel)
theorem r_276_2187 : xfetch 276 2187 = some (.bipush 32, 2) := by decide +kernel
theorem n_276_2187 : ∀ l, xpr 276 2187 l = l := xpr_no (by decide +kernel)
theorem r_276_2189 : xfetch 276 2189 = some (.lshl, 1) := by decide +kernel
theorem n_276_2189 : ∀ l, xpr 276 2189 l = l := xpr_no (by decide +kernel)
theorem r_276_2190 : xfetch 276 2190 = some (.aload_n 0, 1) := by decide +kernel
theorem n_276_2190 : ∀ l, xpr 276 2190 l = l := xpr_no (by decide +kernel)
theorem r_276_2191 : xfetch 276 2191 = some (.iload 4, 2) := by decide +kernel
theorem n_276_2191 : ∀ l, xpr 276 2191 l = l := xpr_no (by decide +kernel)
theorem r_276_2193 : xfetch 276 2193 = some (.iconst 5, 1) := by decide +kernel
theorem n_276_2193 : ∀ l, xpr 276 2193 l = l := xpr_no (by decide +kernel)
theorem r_276_2194 : xfetch 276 2194 = some (.iadd, 1) := by decide +kernel
theorem n_276_2194 : ∀ l, xpr 276 2194 l = l := xpr_no (by decide +kernel)
theorem r_276_2195 : xfetch 276 2195 = some (.iaload, 1) := by decide +kernel
theorem n_276_2195 : ∀ l, xpr 276 2195 l = l := xpr_no (by decide +kernel)
theorem r_276_2196 : xfetch 276 2196 = some (.i2l, 1) := by decide +kernel
theorem n_276_2196 : ∀ l, xpr 276 2196 l = l := xpr_no (by decide +kernel)
theorem r_276_2197 : xfetch 276 2197 = some (.ldc2_w 196, 3) := by decide +kernel
theorem n_276_2197 : ∀ l, xpr 276 2197 l = l := xpr_no (by decide +kernel)
theorem r_276_2200 : xfetch 276 2200 = some (.land, 1) := by decide +kernel
theorem n_276_2200 : ∀ l, xpr 276 2200 l = l := xpr_no (by decide +kernel)
theorem r_276_2201 : xfetch 276 2201 = some (.lor, 1) := by decide +kernel
theorem n_276_2201 : ∀ l, xpr 276 2201 l = l := xpr_no (by decide +kernel)
theorem r_276_2202 : xfetch 276 2202 = some (.aload_n 3, 1) := by decide +kernel
theorem n_276_2202 : ∀ l, xpr 276 2202 l = l := xpr_no (by decide +kernel)
theorem r_276_2203 : xfetch 276 2203 = some (.invokestatic 234, 3) := by decide +kernel
theorem n_276_2203 : ∀ l, xpr 276 2203 l = l := xpr_no (by decide +kernel)
theorem r_276_2206 : xfetch 276 2206 = some (.istore 5, 2) := by decide +kernel
theorem n_276_2206 : ∀ l, xpr 276 2206 l = l := xpr_no (by decide +kernel)
theorem r_276_2208 : xfetch 276 2208 = some (.aload_n 2, 1) := by decide +kernel
theorem n_276_2208 : ∀ l, xpr 276 2208 l = l := xpr_no (by decide +kernel)
theorem r_276_2209 : xfetch 276 2209 = some (.aload_n 0, 1) := by decide +kernel
theorem n_276_2209 : ∀ l, xpr 276 2209 l = l := xpr_no (by decide +kernel)
theorem r_276_2210 : xfetch 276 2210 = some (.iload 4, 2) := by decide +kernel
theorem n_276_2210 : ∀ l, xpr 276 2210 l = l := xpr_no (by decide +kernel)
theorem r_276_2212 : xfetch 276 2212 = some (.iconst 1, 1) := by decide +kernel
theorem n_276_2212 : ∀ l, xpr 276 2212 l = l := xpr_no (by decide +kernel)
theorem r_276_2213 : xfetch 276 2213 = some (.iadd, 1) := by decide +kernel
theorem n_276_2213 : ∀ l, xpr 276 2213 l = l := xpr_no (by decide +kernel)
theorem r_276_2214 : xfetch 276 2214 = some (.iaload, 1) := by decide +kernel
theorem n_276_2214 : ∀ l, xpr 276 2214 l = l := xpr_no (by decide +kernel)
theorem r_276_2215 : xfetch 276 2215 = some (.aload_n 0, 1) := by decide +kernel
theorem n_276_2215 : ∀ l, xpr 276 2215 l = l := xpr_no (by decide +kernel)
theorem r_276_2216 : xfetch 276 2216 = some (.iload 4, 2) := by decide +kernel
theorem n_276_2216 : ∀ l, xpr 276 2216 l = l := xpr_no (by decide +kernel)
theorem r_276_2218 : xfetch 276 2218 = some (.iconst 2, 1) := by decide +kernel
theorem n_276_2218 : ∀ l, xpr 276 2218 l = l := xpr_no (by decide +kernel)
theorem r_276_2219 : xfetch 276 2219 = some (.iadd, 1) := by decide +kernel
theorem n_276_2219 : ∀ l, xpr 276 2219 l = l := xpr_no (by decide +kernel)
theorem r_276_2220 : xfetch 276 2220 = some (.iaload, 1) := by decide +kernel
theorem n_276_2220 : ∀ l, xpr 276 2220 l = l := xpr_no (by decide +kernel)
theorem r_276_2221 : xfetch 276 2221 = some (.aload_n 0, 1) := by decide +kernel
theorem n_276_2221 : ∀ l, xpr 276 2221 l = l := xpr_no (by decide +kernel)
theorem r_276_2222 : xfetch 276 2222 = some (.iload 4, 2) := by decide +kernel
theorem n_276_2222 : ∀ l, xpr 276 2222 l = l := xpr_no (by decide +kernel)
theorem r_276_2224 : xfetch 276 2224 = some (.iconst 3, 1) := by decide +kernel
theorem n_276_2224 : ∀ l, xpr 276 2224 l = l := xpr_no (by decide +kernel)
theorem r_276_2225 : xfetch 276 2225 = some (.iadd, 1) := by decide +kernel
theorem n_276_2225 : ∀ l, xpr 276 2225 l = l := xpr_no (by decide +kernel)
theorem r_276_2226 : xfetch 276 2226 = some (.iaload, 1) := by decide +kernel
theorem n_276_2226 : ∀ l, xpr 276 2226 l = l := xpr_no (by decide +kernel)
theorem r_276_2227 : xfetch 276 2227 = some (.aload_n 0, 1) := by decide +kernel
theorem n_276_2227 : ∀ l, xpr 276 2227 l = l := xpr_no (by decide +kernel)
theorem r_276_2228 : xfetch 276 2228 = some (.iload 4, 2) := by decide +kernel
theorem n_276_2228 : ∀ l, xpr 276 2228 l = l := xpr_no (by decide +kernel)
theorem r_276_2230 : xfetch 276 2230 = some (.iconst 4, 1) := by decide +kernel
theorem n_276_2230 : ∀ l, xpr 276 2230 l = l := xpr_no (by decide +kernel)
theorem r_276_2231 : xfetch 276 2231 = some (.iadd, 1) := by decide +kernel
theorem n_276_2231 : ∀ l, xpr 276 2231 l = l := xpr_no (by decide +kernel)
theorem r_276_2232 : xfetch 276 2232 = some (.iaload, 1) := by decide +kernel
theorem n_276_2232 : ∀ l, xpr 276 2232 l = l := xpr_no (by decide +kernel)
theorem r_276_2233 : xfetch 276 2233 = some (.i2l, 1) := by decide +kernel
theorem n_276_2233 : ∀ l, xpr 276 2233 l = l := xpr_no (by decide +kernel)
theorem r_276_2234 : xfetch 276 2234 = some (.bipush 32, 2) := by decide +kernel
theorem n_276_2234 : ∀ l, xpr 276 2234 l = l := xpr_no (by decide +kernel)
theorem r_276_2236 : xfetch 276 2236 = some (.lshl, 1) := by decide +kernel
theorem n_276_2236 : ∀ l, xpr 276 2236 l = l := xpr_no (by decide +kernel)
theorem r_276_2237 : xfetch 276 2237 = some (.aload_n 0, 1) := by decide +kernel
theorem n_276_2237 : ∀ l, xpr 276 2237 l = l := xpr_no (by decide +kernel)
theorem r_276_2238 : xfetch 276 2238 = some (.iload 4, 2) := by decide +kernel
theorem n_276_2238 : ∀ l, xpr 276 2238 l = l := xpr_no (by decide +kernel)
theorem r_276_2240 : xfetch 276 2240 = some (.iconst 5, 1) := by decide +kernel
theorem n_276_2240 : ∀ l, xpr 276 2240 l = l := xpr_no (by decide +kernel)
theorem r_276_2241 : xfetch 276 2241 = some (.iadd, 1) := by decide +kernel
theorem n_276_2241 : ∀ l, xpr 276 2241 l = l := xpr_no (by decide +kernel)
theorem r_276_2242 : xfetch 276 2242 = some (.iaload, 1) := by decide +kernel
theorem n_276_2242 : ∀ l, xpr 276 2242 l = l := xpr_no (by decide +kernel)
theorem r_276_2243 : xfetch 276 2243 = some (.i2l, 1) := by decide +kernel
theorem n_276_2243 : ∀ l, xpr 276 2243 l = l := xpr_no (by decide +kernel)
theorem r_276_2244 : xfetch 276 2244 = some (.ldc2_w 196, 3) := by decide +kernel
theorem n_276_2244 : ∀ l, xpr 276 2244 l = l := xpr_no (by decide +kernel)
theorem r_276_2247 : xfetch 276 2247 = some (.land, 1) := by decide +kernel
theorem n_276_2247 : ∀ l, xpr 276 2247 l = l := xpr_no (by decide +kernel)
theorem r_276_2248 : xfetch 276 2248 = some (.lor, 1) := by decide +kernel
theorem n_276_2248 : ∀ l, xpr 276 2248 l = l := xpr_no (by decide +kernel)
theorem r_276_2249 : xfetch 276 2249 = some (.invokevirtual 236, 3) := by decide +kernel
theorem n_276_2249 : ∀ l, xpr 276 2249 l = l := xpr_no (by decide +kernel)
theorem r_276_2252 : xfetch 276 2252 = some (.istore 6, 2) := by decide +kernel
theorem n_276_2252 : ∀ l, xpr 276 2252 l = l := xpr_no (by decide +kernel)
theorem r_276_2254 : xfetch 276 2254 = some (.aload_n 2, 1) := by decide +kernel
theorem n_276_2254 : ∀ l, xpr 276 2254 l = l := xpr_no (by decide +kernel)
theorem r_276_2255 : xfetch 276 2255 = some (.invokevirtual 133, 3) := by decide +kernel
theorem n_276_2255 : ∀ l, xpr 276 2255 l = l := xpr_no (by decide +kernel)
theorem r_276_2258 : xfetch 276 2258 = some (.iload 5, 2) := by decide +kernel
theorem n_276_2258 : ∀ l, xpr 276 2258 l = l := xpr_no (by decide +kernel)
theorem r_276_2260 : xfetch 276 2260 = some (.if_icmp .eq 5, 3) := by decide +kernel
theorem n_276_2260 : ∀ l, xpr 276 2260 l = l := xpr_no (by decide +kernel)
theorem r_276_2263 : xfetch 276 2263 = some (.iconst 0, 1) := by decide +kernel
theorem n_276_2263 : ∀ l, xpr 276 2263 l = l := xpr_no (by decide +kernel)
theorem r_276_2264 : xfetch 276 2264 = some (.ireturn, 1) := by decide +kernel
theorem n_276_2264 : ∀ l, xpr 276 2264 l = l := xpr_no (by decide +kernel)
theorem r_276_2265 : xfetch 276 2265 = some (.iload 5, 2) := by decide +kernel
theorem n_276_2265 : ∀ l, xpr 276 2265 l = l := xpr_no (by decide +kernel)
theorem r_276_2267 : xfetch 276 2267 = some (.ifCond .ne 15, 3) := by decide +kernel
theorem n_276_2267 : ∀ l, xpr 276 2267 l = l := xpr_no (by decide +kernel)
theorem r_276_2270 : xfetch 276 2270 = some (.aload_n 3, 1) := by decide +kernel
theorem n_276_2270 : ∀ l, xpr 276 2270 l = l := xpr_no (by decide +kernel)
theorem r_276_2271 : xfetch 276 2271 = some (.iconst 0, 1) := by decide +kernel
theorem n_276_2271 : ∀ l, xpr 276 2271 l = l := xpr_no (by decide +kernel)
theorem r_276_2272 : xfetch 276 2272 = some (.laload, 1) := by decide +kernel
theorem n_276_2272 : ∀ l, xpr 276 2272 l = l := xpr_no (by decide +kernel)
theorem r_276_2273 : xfetch 276 2273 = some (.iload 6, 2) := by decide +kernel
theorem n_276_2273 : ∀ l, xpr 276 2273 l = l := xpr_no (by decide +kernel)
theorem r_276_2275 : xfetch 276 2275 = some (.i2l, 1) := by decide +kernel
theorem n_276_2275 : ∀ l, xpr 276 2275 l = l := xpr_no (by decide +kernel)
theorem r_276_2276 : xfetch 276 2276 = some (.lcmp, 1) := by decide +kernel
theorem n_276_2276 : ∀ l, xpr 276 2276 l = l := xpr_no (by decide +kernel)
theorem r_276_2277 : xfetch 276 2277 = some (.ifCond .eq 5, 3) := by decide +kernel
theorem n_276_2277 : ∀ l, xpr 276 2277 l = l := xpr_no (by decide +kernel)
theorem r_276_2280 : xfetch 276 2280 = some (.iconst 0, 1) := by decide +kernel
theorem n_276_2280 : ∀ l, xpr 276 2280 l = l := xpr_no (by decide +kernel)
theorem r_276_2281 : xfetch 276 2281 = some (.ireturn, 1) := by decide +kernel
theorem n_276_2281 : ∀ l, xpr 276 2281 l = l := xpr_no (by decide +kernel)
theorem r_276_2282 : xfetch 276 2282 = some (.goto 626, 3) := by decide +kernel
theorem n_276_2282 : ∀ l, xpr 276 2282 l = l := xpr_no (by decide +kernel)
theorem r_276_2285 : xfetch 276 2285 = some (.aload_n 1, 1) := by decide +kernel
theorem r_276_2286 : xfetch 276 2286 = some (.aload_n 0, 1) := by decide +kernel
theorem n_276_2286 : ∀ l, xpr 276 2286 l = l := xpr_no (by decide +kernel)
theorem r_276_2287 : xfetch 276 2287 = some (.iload 4, 2) := by decide +kernel
theorem n_276_2287 : ∀ l, xpr 276 2287 l = l := xpr_no (by decide +kernel)
theorem r_276_2289 : xfetch 276 2289 = some (.iconst 1, 1) := by decide +kernel
theorem n_276_2289 : ∀ l, xpr 276 2289 l = l := xpr_no (by decide +kernel)
theorem r_276_2290 : xfetch 276 2290 = some (.iadd, 1) := by decide +kernel
theorem n_276_2290 : ∀ l, xpr 276 2290 l = l := xpr_no (by decide +kernel)
theorem r_276_2291 : xfetch 276 2291 = some (.iaload, 1) := by decide +kernel
theorem n_276_2291 : ∀ l, xpr 276 2291 l = l := xpr_no (by decide +kernel)
theorem r_276_2292 : xfetch 276 2292 = some (.aload_n 0, 1) := by decide +kernel
theorem n_276_2292 : ∀ l, xpr 276 2292 l = l := xpr_no (by decide +kernel)
theorem r_276_2293 : xfetch 276 2293 = some (.iload 4, 2) := by decide +kernel
theorem n_276_2293 : ∀ l, xpr 276 2293 l = l := xpr_no (by decide +kernel)
theorem r_276_2295 : xfetch 276 2295 = some (.iconst 2, 1) := by decide +kernel
theorem n_276_2295 : ∀ l, xpr 276 2295 l = l := xpr_no (by decide +kernel)
theorem r_276_2296 : xfetch 276 2296 = some (.iadd, 1) := by decide +kernel
theorem n_276_2296 : ∀ l, xpr 276 2296 l = l := xpr_no (by decide +kernel)
theorem r_276_2297 : xfetch 276 2297 = some (.iaload, 1) := by decide +kernel
theorem n_276_2297 : ∀ l, xpr 276 2297 l = l := xpr_no (by decide +kernel)
theorem r_276_2298 : xfetch 276 2298 = some (.aload_n 0, 1) := by decide +kernel
theorem n_276_2298 : ∀ l, xpr 276 2298 l = l := xpr_no (by decide +kernel)
theorem r_276_2299 : xfetch 276 2299 = some (.iload 4, 2) := by decide +kernel
theorem n_276_2299 : ∀ l, xpr 276 2299 l = l := xpr_no (by decide +kernel)
theorem r_276_2301 : xfetch 276 2301 = some (.iconst 3, 1) := by decide +kernel
theorem n_276_2301 : ∀ l, xpr 276 2301 l = l := xpr_no (by decide +kernel)
theorem r_276_2302 : xfetch 276 2302 = some (.iadd, 1) := by decide +kernel
theorem n_276_2302 : ∀ l, xpr 276 2302 l = l := xpr_no (by decide +kernel)
theorem r_276_2303 : xfetch 276 2303 = some (.iaload, 1) := by decide +kernel
theorem n_276_2303 : ∀ l, xpr 276 2303 l = l := xpr_no (by decide +kernel)
theorem r_276_2304 : xfetch 276 2304 = some (.i2l, 1) := by decide +kernel
theorem n_276_2304 : ∀ l, xpr 276 2304 l = l := xpr_no (by decide +kernel)
theorem r_276_2305 : xfetch 276 2305 = some (.bipush 32, 2) := by decide +kernel
theorem n_276_2305 : ∀ l, xpr 276 2305 l = l := xpr_no (by decide +kernel)
theorem r_276_2307 : xfetch 276 2307 = some (.lshl, 1) := by decide +kernel
theorem n_276_2307 : ∀ l, xpr 276 2307 l = l := xpr_no (by decide +kernel)
theorem r_276_2308 : xfetch 276 2308 = some (.aload_n 0, 1) := by decide +kernel
theorem n_276_2308 : ∀ l, xpr 276 2308 l = l := xpr_no (by decide +kernel)
theorem r_276_2309 : xfetch 276 2309 = some (.iload 4, 2) := by decide +kernel
theorem n_276_2309 : ∀ l, xpr 276 2309 l = l := xpr_no (by decide +kernel)
theorem r_276_2311 : xfetch 276 2311 = some (.iconst 4, 1) := by decide +kernel
theorem n_276_2311 : ∀ l, xpr 276 2311 l = l := xpr_no (by decide +kernel)
theorem r_276_2312 : xfetch 276 2312 = some (.iadd, 1) := by decide +kernel
theorem n_276_2312 : ∀ l, xpr 276 2312 l = l := xpr_no (by decide +kernel)
theorem r_276_2313 : xfetch 276 2313 = some (.iaload, 1) := by decide +kernel
theorem n_276_2313 : ∀ l, xpr 276 2313 l = l := xpr_no (by decide +kernel)
theorem r_276_2314 : xfetch 276 2314 = some (.i2l, 1) := by decide +kernel
theorem n_276_2314 : ∀ l, xpr 276 2314 l = l := xpr_no (by decide +kernel)
theorem r_276_2315 : xfetch 276 2315 = some (.ldc2_w 196, 3) := by decide +kernel
theorem n_276_2315 : ∀ l, xpr 276 2315 l = l := xpr_no (by decide +kernel)
theorem r_276_2318 : xfetch 276 2318 = some (.land, 1) := by decide +kernel
theorem n_276_2318 : ∀ l, xpr 276 2318 l = l := xpr_no (by decide +kernel)
theorem r_276_2319 : xfetch 276 2319 = some (.lor, 1) := by decide +kernel
theorem n_276_2319 : ∀ l, xpr 276 2319 l = l := xpr_no (by decide +kernel)
theorem r_276_2320 : xfetch 276 2320 = some (.aload_n 0, 1) := by decide +kernel
theorem n_276_2320 : ∀ l, xpr 276 2320 l = l := xpr_no (by decide +kernel)
theorem r_276_2321 : xfetch 276 2321 = some (.iload 4, 2) := by decide +kernel
theorem n_276_2321 : ∀ l, xpr 276 2321 l = l := xpr_no (by decide +kernel)
theorem r_276_2323 : xfetch 276 2323 = some (.iconst 5, 1) := by decide +kernel
theorem n_276_2323 : ∀ l, xpr 276 2323 l = l := xpr_no (by decide +kernel)
theorem r_276_2324 : xfetch 276 2324 = some (.iadd, 1) := by decide +kernel
theorem n_276_2324 : ∀ l, xpr 276 2324 l = l := xpr_no (by decide +kernel)
theorem r_276_2325 : xfetch 276 2325 = some (.iaload, 1) := by decide +kernel
theorem n_276_2325 : ∀ l, xpr 276 2325 l = l := xpr_no (by decide +kernel)
theorem r_276_2326 : xfetch 276 2326 = some (.aload_n 3, 1) := by decide +kernel
theorem n_276_2326 : ∀ l, xpr 276 2326 l = l := xpr_no (by decide +kernel)
theorem r_276_2327 : xfetch 276 2327 = some (.invokestatic 237, 3) := by decide +kernel
theorem n_276_2327 : ∀ l, xpr 276 2327 l = l := xpr_no (by decide +kernel)
theorem r_276_2330 : xfetch 276 2330 = some (.istore 5, 2) := by decide +kernel
theorem n_276_2330 : ∀ l, xpr 276 2330 l = l := xpr_no (by decide +kernel)
theorem r_276_2332 : xfetch 276 2332 = some (.aload_n 2, 1) := by decide +kernel
theorem n_276_2332 : ∀ l, xpr 276 2332 l = l := xpr_no (by decide +kernel)
theorem r_276_2333 : xfetch 276 2333 = some (.aload_n 0, 1) := by decide +kernel
theorem n_276_2333 : ∀ l, xpr 276 2333 l = l := xpr_no (by decide +kernel)
theorem r_276_2334 : xfetch 276 2334 = some (.iload 4, 2) := by decide +kernel
theorem n_276_2334 : ∀ l, xpr 276 2334 l = l := xpr_no (by decide +kernel)
theorem r_276_2336 : xfetch 276 2336 = some (.iconst 1, 1) := by decide +kernel
theorem n_276_2336 : ∀ l, xpr 276 2336 l = l := xpr_no (by decide +kernel)
theorem r_276_2337 : xfetch 276 2337 = some (.iadd, 1) := by decide +kernel
theorem n_276_2337 : ∀ l, xpr 276 2337 l = l := xpr_no (by decide +kernel)
theorem r_276_2338 : xfetch 276 2338 = some (.iaload, 1) := by decide +kernel
theorem n_276_2338 : ∀ l, xpr 276 2338 l = l := xpr_no (by decide +kernel)
theorem r_276_2339 : xfetch 276 2339 = some (.aload_n 0, 1) := by decide +kernel
theorem n_276_2339 : ∀ l, xpr 276 2339 l = l := xpr_no (by decide +kernel)
theorem r_276_2340 : xfetch 276 2340 = some (.iload 4, 2) := by decide +kernel
theorem n_276_2340 : ∀ l, xpr 276 2340 l = l := xpr_no (by decide +kernel)
theorem r_276_2342 : xfetch 276 2342 = some (.iconst 2, 1) := by decide +kernel
theorem n_276_2342 : ∀ l, xpr 276 2342 l = l := xpr_no (by decide +kernel)
theorem r_276_2343 : xfetch 276 2343 = some (.iadd, 1) := by decide +kernel
theorem n_276_2343 : ∀ l, xpr 276 2343 l = l := xpr_no (by decide +kernel)
theorem r_276_2344 : xfetch 276 2344 = some (.iaload, 1) := by decide +kernel
theorem n_276_2344 : ∀ l, xpr 276 2344 l = l := xpr_no (by decide +kernel)
theorem r_276_2345 : xfetch 276 2345 = some (.aload_n 0, 1) := by decide +kernel
theorem n_276_2345 : ∀ l, xpr 276 2345 l = l := xpr_no (by decide +kernel)
theorem r_276_2346 : xfetch 276 2346 = some (.iload 4, 2) := by decide +kernel
theorem n_276_2346 : ∀ l, xpr 276 2346 l = l := xpr_no (by decide +kernel)
theorem r_276_2348 : xfetch 276 2348 = some (.iconst 3, 1) := by decide +kernel
theorem n_276_2348 : ∀ l, xpr 276 2348 l = l := xpr_no (by decide +kernel)
theorem r_276_2349 : xfetch 276 2349 = some (.iadd, 1) := by decide +kernel
theorem n_276_2349 : ∀ l, xpr 276 2349 l = l := xpr_no (by decide +kernel)
theorem r_276_2350 : xfetch 276 2350 = some (.iaload, 1) := by decide +kernel
theorem n_276_2350 : ∀ l, xpr 276 2350 l = l := xpr_no (by decide +kernel)
theorem r_276_2351 : xfetch 276 2351 = some (.i2l, 1) := by decide +kernel
theorem n_276_2351 : ∀ l, xpr 276 2351 l = l := xpr_no (by decide +kernel)
theorem r_276_2352 : xfetch 276 2352 = some (.bipush 32, 2) := by decide +kernel
theorem n_276_2352 : ∀ l, xpr 276 2352 l = l := xpr_no (by decide +kernel)
theorem r_276_2354 : xfetch 276 2354 = some (.lshl, 1) := by decide +kernel
theorem n_276_2354 : ∀ l, xpr 276 2354 l = l := xpr_no (by decide +kernel)
theorem r_276_2355 : xfetch 276 2355 = some (.aload_n 0, 1) := by decide +kernel
theorem n_276_2355 : ∀ l, xpr 276 2355 l = l := xpr_no (by decide +kernel)
theorem r_276_2356 : xfetch 276 2356 = some (.iload 4, 2) := by decide +kernel
theorem n_276_2356 : ∀ l, xpr 276 2356 l = l := xpr_no (by decide +kernel)
theorem r_276_2358 : xfetch 276 2358 = some (.iconst 4, 1) := by decide +kernel
theorem n_276_2358 : ∀ l, xpr 276 2358 l = l := xpr_no (by decide +kernel)
theorem r_276_2359 : xfetch 276 2359 = some (.iadd, 1) := by decide +kernel
theorem n_276_2359 : ∀ l, xpr 276 2359 l = l := xpr_no (by decide +kernel)
theorem r_276_2360 : xfetch 276 2360 = some (.iaload, 1) := by decide +kernel
theorem n_276_2360 : ∀ l, xpr 276 2360 l = l := xpr_no (by decide +kernel)
theorem r_276_2361 : xfetch 276 2361 = some (.i2l, 1) := by decide +kernel
theorem n_276_2361 : ∀ l, xpr 276 2361 l = l := xpr_no (by decide +kernel)
theorem r_276_2362 : xfetch 276 2362 = some (.ldc2_w 196, 3) := by decide +kernel
theorem n_276_2362 : ∀ l, xpr 276 2362 l = l := xpr_no (by decide +kernel)
theorem r_276_2365 : xfetch 276 2365 = some (.land, 1) := by decide +kernel
theorem n_276_2365 : ∀ l, xpr 276 2365 l = l := xpr_no (by decide +kernel)
theorem r_276_2366 : xfetch 276 2366 = some (.lor, 1) := by decide +kernel
theorem n_276_2366 : ∀ l, xpr 276 2366 l = l := xpr_no (by decide +kernel)
theorem r_276_2367 : xfetch 276 2367 = some (.aload_n 0, 1) := by decide +kernel
theorem n_276_2367 : ∀ l, xpr 276 2367 l = l := xpr_no (by decide +kernel)
theorem r_276_2368 : xfetch 276 2368 = some (.iload 4, 2) := by decide +kernel
theorem n_276_2368 : ∀ l, xpr 276 2368 l = l := xpr_no (by decide +kernel)
theorem r_276_2370 : xfetch 276 2370 = some (.iconst 5, 1) := by decide +kernel
theorem n_276_2370 : ∀ l, xpr 276 2370 l = l := xpr_no (by decide +kernel)
theorem r_276_2371 : xfetch 276 2371 = some (.iadd, 1) := by decide +kernel
theorem n_276_2371 : ∀ l, xpr 276 2371 l = l := xpr_no (by decide +kernel)
theorem r_276_2372 : xfetch 276 2372 = some (.iaload, 1) := by decide +kernel
theorem n_276_2372 : ∀ l, xpr 276 2372 l = l := xpr_no (by decide +kernel)
theorem r_276_2373 : xfetch 276 2373 = some (.invokevirtual 240, 3) := by decide +kernel
theorem n_276_2373 : ∀ l, xpr 276 2373 l = l := xpr_no (by decide +kernel)
theorem r_276_2376 : xfetch 276 2376 = some (.istore 6, 2) := by decide +kernel
theorem n_276_2376 : ∀ l, xpr 276 2376 l = l := xpr_no (by decide +kernel)
theorem r_276_2378 : xfetch 276 2378 = some (.aload_n 2, 1) := by decide +kernel
theorem n_276_2378 : ∀ l, xpr 276 2378 l = l := xpr_no (by decide +kernel)
theorem r_276_2379 : xfetch 276 2379 = some (.invokevirtual 133, 3) := by decide +kernel
theorem n_276_2379 : ∀ l, xpr 276 2379 l = l := xpr_no (by decide +kernel)
theorem r_276_2382 : xfetch 276 2382 = some (.iload 5, 2) := by decide +kernel
theorem n_276_2382 : ∀ l, xpr 276 2382 l = l := xpr_no (by decide +kernel)
theorem r_276_2384 : xfetch 276 2384 = some (.if_icmp .eq 5, 3) := by decide +kernel
theorem n_276_2384 : ∀ l, xpr 276 2384 l = l := xpr_no (by decide +kernel)
theorem r_276_2387 : xfetch 276 2387 = some (.iconst 0, 1) := by decide +kernel
theorem n_276_2387 : ∀ l, xpr 276 2387 l = l := xpr_no (by decide +kernel)
theorem r_276_2388 : xfetch 276 2388 = some (.ireturn, 1) := by decide +kernel
theorem n_276_2388 : ∀ l, xpr 276 2388 l = l := xpr_no (by decide +kernel)
theorem r_276_2389 : xfetch 276 2389 = some (.iload 5, 2) := by decide +kernel
theorem n_276_2389 : ∀ l, xpr 276 2389 l = l := xpr_no (by decide +kernel)
theorem r_276_2391 : xfetch 276 2391 = some (.ifCond .ne 15, 3) := by decide +kernel
theorem n_276_2391 : ∀ l, xpr 276 2391 l = l := xpr_no (by decide +kernel)
theorem r_276_2394 : xfetch 276 2394 = some (.aload_n 3, 1) := by decide +kernel
theorem n_276_2394 : ∀ l, xpr 276 2394 l = l := xpr_no (by decide +kernel)
theorem r_276_2395 : xfetch 276 2395 = some (.iconst 0, 1) := by decide +kernel
theorem n_276_2395 : ∀ l, xpr 276 2395 l = l := xpr_no (by decide +kernel)
theorem r_276_2396 : xfetch 276 2396 = some (.laload, 1) := by decide +kernel
theorem n_276_2396 : ∀ l, xpr 276 2396 l = l := xpr_no (by decide +kernel)
theorem r_276_2397 : xfetch 276 2397 = some (.iload 6, 2) := by decide +kernel
theorem n_276_2397 : ∀ l, xpr 276 2397 l = l := xpr_no (by decide +kernel)
theorem r_276_2399 : xfetch 276 2399 = some (.i2l, 1) := by decide +kernel
theorem n_276_2399 : ∀ l, xpr 276 2399 l = l := xpr_no (by decide +kernel)
theorem r_276_2400 : xfetch 276 2400 = some (.lcmp, 1) := by decide +kernel
theorem n_276_2400 : ∀ l, xpr 276 2400 l = l := xpr_no (by decide +kernel)
theorem r_276_2401 : xfetch 276 2401 = some (.ifCond .eq 5, 3) := by decide +kernel
theorem n_276_2401 : ∀ l, xpr 276 2401 l = l := xpr_no (by decide +kernel)
theorem r_276_2404 : xfetch 276 2404 = some (.iconst 0, 1) := by decide +kernel
theorem n_276_2404 : ∀ l, xpr 276 2404 l = l := xpr_no (by decide +kernel)
theorem r_276_2405 : xfetch 276 2405 = some (.ireturn, 1) := by decide +kernel
theorem n_276_2405 : ∀ l, xpr 276 2405 l = l := xpr_no (by decide +kernel)
theorem r_276_2406 : xfetch 276 2406 = some (.goto 502, 3) := by decide +kernel
theorem n_276_2406 : ∀ l, xpr 276 2406 l = l := xpr_no (by decide +kernel)
theorem r_276_2409 : xfetch 276 2409 = some (.aload_n 1, 1) := by decide +kernel
theorem r_276_2410 : xfetch 276 2410 = some (.aload_n 0, 1) := by decide +kernel
theorem n_276_2410 : ∀ l, xpr 276 2410 l = l := xpr_no (by decide +kernel)
theorem r_276_2411 : xfetch 276 2411 = some (.iload 4, 2) := by decide +kernel
theorem n_276_2411 : ∀ l, xpr 276 2411 l = l := xpr_no (by decide +kernel)
theorem r_276_2413 : xfetch 276 2413 = some (.iconst 1, 1) := by decide +kernel
theorem n_276_2413 : ∀ l, xpr 276 2413 l = l := xpr_no (by decide +kernel)
theorem r_276_2414 : xfetch 276 2414 = some (.iadd, 1) := by decide +kernel
theorem n_276_2414 : ∀ l, xpr 276 2414 l = l := xpr_no (by decide +kernel)
theorem r_276_2415 : xfetch 276 2415 = some (.iaload, 1) := by decide +kernel
theorem n_276_2415 : ∀ l, xpr 276 2415 l = l := xpr_no (by decide +kernel)
theorem r_276_2416 : xfetch 276 2416 = some (.aload_n 0, 1) := by decide +kernel
theorem n_276_2416 : ∀ l, xpr 276 2416 l = l := xpr_no (by decide +kernel)
theorem r_276_2417 : xfetch 276 2417 = some (.iload 4, 2) := by decide +kernel
theorem n_276_2417 : ∀ l, xpr 276 2417 l = l := xpr_no (by decide +kernel)
theorem r_276_2419 : xfetch 276 2419 = some (.iconst 2, 1) := by decide +kernel
theorem n_276_2419 : ∀ l, xpr 276 2419 l = l := xpr_no (by decide +kernel)
theorem r_276_2420 : xfetch 276 2420 = some (.iadd, 1) := by decide +kernel
theorem n_276_2420 : ∀ l, xpr 276 2420 l = l := xpr_no (by decide +kernel)
theorem r_276_2421 : xfetch 276 2421 = some (.iaload, 1) := by decide +kernel
theorem n_276_2421 : ∀ l, xpr 276 2421 l = l := xpr_no (by decide +kernel)
theorem r_276_2422 : xfetch 276 2422 = some (.aload_n 3, 1) := by decide +kernel
theorem n_276_2422 : ∀ l, xpr 276 2422 l = l := xpr_no (by decide +kernel)
theorem r_276_2423 : xfetch 276 2423 = some (.invokestatic 241, 3) := by decide +kernel
theorem n_276_2423 : ∀ l, xpr 276 2423 l = l := xpr_no (by decide +kernel)
theorem r_276_2426 : xfetch 276 2426 = some (.istore 5, 2) := by decide +kernel
theorem n_276_2426 : ∀ l, xpr 276 2426 l = l := xpr_no (by decide +kernel)
theorem r_276_2428 : xfetch 276 2428 = some (.aload_n 2, 1) := by decide +kernel
theorem n_276_2428 : ∀ l, xpr 276 2428 l = l := xpr_no (by decide +kernel)
theorem r_276_2429 : xfetch 276 2429 = some (.aload_n 0, 1) := by decide +kernel
theorem n_276_2429 : ∀ l, xpr 276 2429 l = l := xpr_no (by decide +kernel)
theorem r_276_2430 : xfetch 276 2430 = some (.iload 4, 2) := by decide +kernel
theorem n_276_2430 : ∀ l, xpr 276 2430 l = l := xpr_no (by decide +kernel)
theorem r_276_2432 : xfetch 276 2432 = some (.iconst 1, 1) := by decide +kernel
theorem n_276_2432 : ∀ l, xpr 276 2432 l = l := xpr_no (by decide +kernel)
theorem r_276_2433 : xfetch 276 2433 = some (.iadd, 1) := by decide +kernel
theorem n_276_2433 : ∀ l, xpr 276 2433 l = l := xpr_no (by decide +kernel)
theorem r_276_2434 : xfetch 276 2434 = some (.iaload, 1) := by decide +kernel
theorem n_276_2434 : ∀ l, xpr 276 2434 l = l := xpr_no (by decide +kernel)
theorem r_276_2435 : xfetch 276 2435 = some (.aload_n 0, 1) := by decide +kernel
theorem n_276_2435 : ∀ l, xpr 276 2435 l = l := xpr_no (by decide +kernel)
theorem r_276_2436 : xfetch 276 2436 = some (.iload 4, 2) := by decide +kernel
theorem n_276_2436 : ∀ l, xpr 276 2436 l = l := xpr_no (by decide +kernel)
theorem r_276_2438 : xfetch 276 2438 = some (.iconst 2, 1) := by decide +kernel
theorem n_276_2438 : ∀ l, xpr 276 2438 l = l := xpr_no (by decide +kernel)
theorem r_276_2439 : xfetch 276 2439 = some (.iadd, 1) := by decide +kernel
theorem n_276_2439 : ∀ l, xpr 276 2439 l = l := xpr_no (by decide +kernel)
theorem r_276_2440 : xfetch 276 2440 = some (.iaload, 1) := by decide +kernel
theorem n_276_2440 : ∀ l, xpr 276 2440 l = l := xpr_no (by decide +kernel)
theorem r_276_2441 : xfetch 276 2441 = some (.invokevirtual 243, 3) := by decide +kernel
theorem n_276_2441 : ∀ l, xpr 276 2441 l = l := xpr_no (by decide +kernel)
theorem r_276_2444 : xfetch 276 2444 = some (.lstore 6, 2) := by decide +kernel
theorem n_276_2444 : ∀ l, xpr 276 2444 l = l := xpr_no (by decide +kernel)
theorem r_276_2446 : xfetch 276 2446 = some (.aload_n 2, 1) := by decide +kernel
theorem n_276_2446 : ∀ l, xpr 276 2446 l = l := xpr_no (by decide +kernel)
theorem r_276_2447 : xfetch 276 2447 = some (.invokevirtual 133, 3) := by decide +kernel
theorem n_276_2447 : ∀ l, xpr 276 2447 l = l := xpr_no (by decide +kernel)
theorem r_276_2450 : xfetch 276 2450 = some (.iload 5, 2) := by decide +kernel
theorem n_276_2450 : ∀ l, xpr 276 2450 l = l := xpr_no (by decide +kernel)
theorem r_276_2452 : xfetch 276 2452 = some (.if_icmp .eq 5, 3) := by decide +kernel
theorem n_276_2452 : ∀ l, xpr 276 2452 l = l := xpr_no (by decide +kernel)
theorem r_276_2455 : xfetch 276 2455 = some (.iconst 0, 1) := by decide +kernel
theorem n_276_2455 : ∀ l, xpr 276 2455 l = l := xpr_no (by decide +kernel)
theorem r_276_2456 : xfetch 276 2456 = some (.ireturn, 1) := by decide +kernel
theorem n_276_2456 : ∀ l, xpr 276 2456 l = l := xpr_no (by decide +kernel)
theorem r_276_2457 : xfetch 276 2457 = some (.iload 5, 2) := by decide +kernel
theorem n_276_2457 : ∀ l, xpr 276 2457 l = l := xpr_no (by decide +kernel)
theorem r_276_2459 : xfetch 276 2459 = some (.ifCond .ne 14, 3) := by decide +kernel
theorem n_276_2459 : ∀ l, xpr 276 2459 l = l := xpr_no (by decide +kernel)
theorem r_276_2462 : xfetch 276 2462 = some (.aload_n 3, 1) := by decide +kernel
theorem n_276_2462 : ∀ l, xpr 276 2462 l = l := xpr_no (by decide +kernel)
theorem r_276_2463 : xfetch 276 2463 = some (.iconst 0, 1) := by decide +kernel
theorem n_276_2463 : ∀ l, xpr 276 2463 l = l := xpr_no (by decide +kernel)
theorem r_276_2464 : xfetch 276 2464 = some (.laload, 1) := by decide +kernel
theorem n_276_2464 : ∀ l, xpr 276 2464 l = l := xpr_no (by decide +kernel)
theorem r_276_2465 : xfetch 276 2465 = some (.lload 6, 2) := by decide +kernel
theorem n_276_2465 : ∀ l, xpr 276 2465 l = l := xpr_no (by decide +kernel)
theorem r_276_2467 : xfetch 276 2467 = some (.lcmp, 1) := by decide +kernel
theorem n_276_2467 : ∀ l, xpr 276 2467 l = l := xpr_no (by decide +kernel)
theorem r_276_2468 : xfetch 276 2468 = some (.ifCond .eq 5, 3) := by decide +kernel
theorem n_276_2468 : ∀ l, xpr 276 2468 l = l := xpr_no (by decide +kernel)
theorem r_276_2471 : xfetch 276 2471 = some (.iconst 0, 1) := by decide +kernel
theorem n_276_2471 : ∀ l, xpr 276 2471 l = l := xpr_no (by decide +kernel)
theorem r_276_2472 : xfetch 276 2472 = some (.ireturn, 1) := by decide +kernel
theorem n_276_2472 : ∀ l, xpr 276 2472 l = l := xpr_no (by decide +kernel)
theorem r_276_2473 : xfetch 276 2473 = some (.goto 435, 3) := by decide +kernel
theorem n_276_2473 : ∀ l, xpr 276 2473 l = l := xpr_no (by decide +kernel)
theorem r_276_2476 : xfetch 276 2476 = some (.aload_n 1, 1) := by decide +kernel
theorem r_276_2477 : xfetch 276 2477 = some (.aload_n 0, 1) := by decide +kernel
theorem n_276_2477 : ∀ l, xpr 276 2477 l = l := xpr_no (by decide +kernel)
theorem r_276_2478 : xfetch 276 2478 = some (.iload 4, 2) := by decide +kernel
theorem n_276_2478 : ∀ l, xpr 276 2478 l = l := xpr_no (by decide +kernel)
theorem r_276_2480 : xfetch 276 2480 = some (.iconst 1, 1) := by decide +kernel
theorem n_276_2480 : ∀ l, xpr 276 2480 l = l := xpr_no (by decide +kernel)
theorem r_276_2481 : xfetch 276 2481 = some (.iadd, 1) := by decide +kernel
theorem n_276_2481 : ∀ l, xpr 276 2481 l = l := xpr_no (by decide +kernel)
theorem r_276_2482 : xfetch 276 2482 = some (.iaload, 1) := by decide +kernel
theorem n_276_2482 : ∀ l, xpr 276 2482 l = l := xpr_no (by decide +kernel)
theorem r_276_2483 : xfetch 276 2483 = some (.aload_n 0, 1) := by decide +kernel
theorem n_276_2483 : ∀ l, xpr 276 2483 l = l := xpr_no (by decide +kernel)
theorem r_276_2484 : xfetch 276 2484 = some (.iload 4, 2) := by decide +kernel
theorem n_276_2484 : ∀ l, xpr 276 2484 l = l := xpr_no (by decide +kernel)
theorem r_276_2486 : xfetch 276 2486 = some (.iconst 2, 1) := by decide +kernel
theorem n_276_2486 : ∀ l, xpr 276 2486 l = l := xpr_no (by decide +kernel)
theorem r_276_2487 : xfetch 276 2487 = some (.iadd, 1) := by decide +kernel
theorem n_276_2487 : ∀ l, xpr 276 2487 l = l := xpr_no (by decide +kernel)
theorem r_276_2488 : xfetch 276 2488 = some (.iaload, 1) := by decide +kernel
theorem n_276_2488 : ∀ l, xpr 276 2488 l = l := xpr_no (by decide +kernel)
theorem r_276_2489 : xfetch 276 2489 = some (.i2l, 1) := by decide +kernel
theorem n_276_2489 : ∀ l, xpr 276 2489 l = l := xpr_no (by decide +kernel)
theorem r_276_2490 : xfetch 276 2490 = some (.bipush 32, 2) := by decide +kernel
theorem n_276_2490 : ∀ l, xpr 276 2490 l = l := xpr_no (by decide +kernel)
theorem r_276_2492 : xfetch 276 2492 = some (.lshl, 1) := by decide +kernel
theorem n_276_2492 : ∀ l, xpr 276 2492 l = l := xpr_no (by decide +kernel)
theorem r_276_2493 : xfetch 276 2493 = some (.aload_n 0, 1) := by decide +kernel
theorem n_276_2493 : ∀ l, xpr 276 2493 l = l := xpr_no (by decide +kernel)
theorem r_276_2494 : xfetch 276 2494 = some (.iload 4, 2) := by decide +kernel
theorem n_276_2494 : ∀ l, xpr 276 2494 l = l := xpr_no (by decide +kernel)
theorem r_276_2496 : xfetch 276 2496 = some (.iconst 3, 1) := by decide +kernel
theorem n_276_2496 : ∀ l, xpr 276 2496 l = l := xpr_no (by decide +kernel)
theorem r_276_2497 : xfetch 276 2497 = some (.iadd, 1) := by decide +kernel
theorem n_276_2497 : ∀ l, xpr 276 2497 l = l := xpr_no (by decide +kernel)
theorem r_276_2498 : xfetch 276 2498 = some (.iaload, 1) := by decide +kernel
theorem n_276_2498 : ∀ l, xpr 276 2498 l = l := xpr_no (by decide +kernel)
theorem r_276_2499 : xfetch 276 2499 = some (.i2l, 1) := by decide +kernel
theorem n_276_2499 : ∀ l, xpr 276 2499 l = l := xpr_no (by decide +kernel)
theorem r_276_2500 : xfetch 276 2500 = some (.ldc2_w 196, 3) := by decide +kernel
theorem n_276_2500 : ∀ l, xpr 276 2500 l = l := xpr_no (by decide +kernel)
theorem r_276_2503 : xfetch 276 2503 = some (.land, 1) := by decide +kernel
theorem n_276_2503 : ∀ l, xpr 276 2503 l = l := xpr_no (by decide +kernel)
theorem r_276_2504 : xfetch 276 2504 = some (.lor, 1) := by decide +kernel
theorem n_276_2504 : ∀ l, xpr 276 2504 l = l := xpr_no (by decide +kernel)
theorem r_276_2505 : xfetch 276 2505 = some (.aload_n 0, 1) := by decide +kernel
theorem n_276_2505 : ∀ l, xpr 276 2505 l = l := xpr_no (by decide +kernel)
theorem r_276_2506 : xfetch 276 2506 = some (.iload 4, 2) := by decide +kernel
theorem n_276_2506 : ∀ l, xpr 276 2506 l = l := xpr_no (by decide +kernel)
theorem r_276_2508 : xfetch 276 2508 = some (.iconst 4, 1) := by decide +kernel
theorem n_276_2508 : ∀ l, xpr 276 2508 l = l := xpr_no (by decide +kernel)
theorem r_276_2509 : xfetch 276 2509 = some (.iadd, 1) := by decide +kernel
theorem n_276_2509 : ∀ l, xpr 276 2509 l = l := xpr_no (by decide +kernel)
theorem r_276_2510 : xfetch 276 2510 = some (.iaload, 1) := by decide +kernel
theorem n_276_2510 : ∀ l, xpr 276 2510 l = l := xpr_no (by decide +kernel)
theorem r_276_2511 : xfetch 276 2511 = some (.aload_n 0, 1) := by decide +kernel
theorem n_276_2511 : ∀ l, xpr 276 2511 l = l := xpr_no (by decide +kernel)
theorem r_276_2512 : xfetch 276 2512 = some (.iload 4, 2) := by decide +kernel
theorem n_276_2512 : ∀ l, xpr 276 2512 l = l := xpr_no (by decide +kernel)
theorem r_276_2514 : xfetch 276 2514 = some (.iconst 5, 1) := by decide +kernel
theorem n_276_2514 : ∀ l, xpr 276 2514 l = l := xpr_no (by decide +kernel)
theorem r_276_2515 : xfetch 276 2515 = some (.iadd, 1) := by decide +kernel
theorem n_276_2515 : ∀ l, xpr 276 2515 l = l := xpr_no (by decide +kernel)
theorem r_276_2516 : xfetch 276 2516 = some (.iaload, 1) := by decide +kernel
theorem n_276_2516 : ∀ l, xpr 276 2516 l = l := xpr_no (by decide +kernel)
theorem r_276_2517 : xfetch 276 2517 = some (.aload_n 0, 1) := by decide +kernel
theorem n_276_2517 : ∀ l, xpr 276 2517 l = l := xpr_no (by decide +kernel)
theorem r_276_2518 : xfetch 276 2518 = some (.iload 4, 2) := by decide +kernel
theorem n_276_2518 : ∀ l, xpr 276 2518 l = l := xpr_no (by decide +kernel)
theorem r_276_2520 : xfetch 276 2520 = some (.bipush 6, 2) := by decide +kernel
theorem n_276_2520 : ∀ l, xpr 276 2520 l = l := xpr_no (by decide +kernel)
theorem r_276_2522 : xfetch 276 2522 = some (.iadd, 1) := by decide +kernel
theorem n_276_2522 : ∀ l, xpr 276 2522 l = l := xpr_no (by decide +kernel)
theorem r_276_2523 : xfetch 276 2523 = some (.iaload, 1) := by decide +kernel
theorem n_276_2523 : ∀ l, xpr 276 2523 l = l := xpr_no (by decide +kernel)
theorem r_276_2524 : xfetch 276 2524 = some (.aload_n 3, 1) := by decide +kernel
theorem n_276_2524 : ∀ l, xpr 276 2524 l = l := xpr_no (by decide +kernel)
theorem r_276_2525 : xfetch 276 2525 = some (.invokestatic 244, 3) := by decide +kernel
theorem n_276_2525 : ∀ l, xpr 276 2525 l = l := xpr_no (by decide +kernel)
theorem r_276_2528 : xfetch 276 2528 = some (.istore 5, 2) := by decide +kernel
theorem n_276_2528 : ∀ l, xpr 276 2528 l = l := xpr_no (by decide +kernel)
theorem r_276_2530 : xfetch 276 2530 = some (.aload_n 2, 1) := by decide +kernel
theorem n_276_2530 : ∀ l, xpr 276 2530 l = l := xpr_no (by decide +kernel)
theorem r_276_2531 : xfetch 276 2531 = some (.aload_n 0, 1) := by decide +kernel
theorem n_276_2531 : ∀ l, xpr 276 2531 l = l := xpr_no (by decide +kernel)
theorem r_276_2532 : xfetch 276 2532 = some (.iload 4, 2) := by decide +kernel
theorem n_276_2532 : ∀ l, xpr 276 2532 l = l := xpr_no (by decide +kernel)
theorem r_276_2534 : xfetch 276 2534 = some (.iconst 1, 1) := by decide +kernel
theorem n_276_2534 : ∀ l, xpr 276 2534 l = l := xpr_no (by decide +kernel)
theorem r_276_2535 : xfetch 276 2535 = some (.iadd, 1) := by decide +kernel
theorem n_276_2535 : ∀ l, xpr 276 2535 l = l := xpr_no (by decide +kernel)
theorem r_276_2536 : xfetch 276 2536 = some (.iaload, 1) := by decide +kernel
theorem n_276_2536 : ∀ l, xpr 276 2536 l = l := xpr_no (by decide +kernel)
theorem r_276_2537 : xfetch 276 2537 = some (.aload_n 0, 1) := by decide +kernel
theorem n_276_2537 : ∀ l, xpr 276 2537 l = l := xpr_no (by decide +kernel)
theorem r_276_2538 : xfetch 276 2538 = some (.iload 4, 2) := by decide +kernel
theorem n_276_2538 : ∀ l, xpr 276 2538 l = l := xpr_no (by decide +kernel)
theorem r_276_2540 : xfetch 276 2540 = some (.iconst 2, 1) := by decide +kernel
theorem n_276_2540 : ∀ l, xpr 276 2540 l = l := xpr_no (by decide +kernel)
theorem r_276_2541 : xfetch 276 2541 = some (.iadd, 1) := by decide +kernel
theorem n_276_2541 : ∀ l, xpr 276 2541 l = l := xpr_no (by decide +kernel)
theorem r_276_2542 : xfetch 276 2542 = some (.iaload, 1) := by decide +kernel
theorem n_276_2542 : ∀ l, xpr 276 2542 l = l := xpr_no (by decide +kernel)
theorem r_276_2543 : xfetch 276 2543 = some (.i2l, 1) := by decide +kernel
theorem n_276_2543 : ∀ l, xpr 276 2543 l = l := xpr_no (by decide +kernel)
theorem r_276_2544 : xfetch 276 2544 = some (.bipush 32, 2) := by decide +kernel
theorem n_276_2544 : ∀ l, xpr 276 2544 l = l := xpr_no (by decide +kernel)
theorem r_276_2546 : xfetch 276 2546 = some (.lshl, 1) := by decide +kernel
theorem n_276_2546 : ∀ l, xpr 276 2546 l = l := xpr_no (by decide +kernel)
theorem r_276_2547 : xfetch 276 2547 = some (.aload_n 0, 1) := by decide +kernel
theorem n_276_2547 : ∀ l, xpr 276 2547 l = l := xpr_no (by decide +kernel)
theorem r_276_2548 : xfetch 276 2548 = some (.iload 4, 2) := by decide +kernel
theorem n_276_2548 : ∀ l, xpr 276 2548 l = l := xpr_no (by decide +kernel)
theorem r_276_2550 : xfetch 276 2550 = some (.iconst 3, 1) := by decide +kernel
theorem n_276_2550 : ∀ l, xpr 276 2550 l = l := xpr_no (by decide +kernel)
theorem r_276_2551 : xfetch 276 2551 = some (.iadd, 1) := by decide +kernel
theorem n_276_2551 : ∀ l, xpr 276 2551 l = l := xpr_no (by decide +kernel)
theorem r_276_2552 : xfetch 276 2552 = some (.iaload, 1) := by decide +kernel
theorem n_276_2552 : ∀ l, xpr 276 2552 l = l := xpr_no (by decide +kernel)
theorem r_276_2553 : xfetch 276 2553 = some (.i2l, 1) := by decide +kernel
theorem n_276_2553 : ∀ l, xpr 276 2553 l = l := xpr_no (by decide +kernel)
theorem r_276_2554 : xfetch 276 2554 = some (.ldc2_w 196, 3) := by decide +kernel
theorem n_276_2554 : ∀ l, xpr 276 2554 l = l := xpr_no (by decide +kernel)
theorem r_276_2557 : xfetch 276 2557 = some (.land, 1) := by decide +kernel
theorem n_276_2557 : ∀ l, xpr 276 2557 l = l := xpr_no (by decide +kernel)
theorem r_276_2558 : xfetch 276 2558 = some (.lor, 1) := by decide +kernel
theorem n_276_2558 : ∀ l, xpr 276 2558 l = l := xpr_no (by decide +kernel)
theorem r_276_2559 : xfetch 276 2559 = some (.aload_n 0, 1) := by decide +kernel
theorem n_276_2559 : ∀ l, xpr 276 2559 l = l := xpr_no (by decide +kernel)
theorem r_276_2560 : xfetch 276 2560 = some (.iload 4, 2) := by decide +kernel
theorem n_276_2560 : ∀ l, xpr 276 2560 l = l := xpr_no (by decide +kernel)
theorem r_276_2562 : xfetch 276 2562 = some (.iconst 4, 1) := by decide +kernel
theorem n_276_2562 : ∀ l, xpr 276 2562 l = l := xpr_no (by decide +kernel)
theorem r_276_2563 : xfetch 276 2563 = some (.iadd, 1) := by decide +kernel
theorem n_276_2563 : ∀ l, xpr 276 2563 l = l := xpr_no (by decide +kernel)
theorem r_276_2564 : xfetch 276 2564 = some (.iaload, 1) := by decide +kernel
theorem n_276_2564 : ∀ l, xpr 276 2564 l = l := xpr_no (by decide +kernel)
theorem r_276_2565 : xfetch 276 2565 = some (.aload_n 0, 1) := by decide +kernel
theorem n_276_2565 : ∀ l, xpr 276 2565 l = l := xpr_no (by decide +kernel)
theorem r_276_2566 : xfetch 276 2566 = some (.iload 4, 2) := by decide +kernel
theorem n_276_2566 : ∀ l, xpr 276 2566 l = l := xpr_no (by decide +kernel)
theorem r_276_2568 : xfetch 276 2568 = some (.iconst 5, 1) := by decide +kernel
theorem n_276_2568 : ∀ l, xpr 276 2568 l = l := xpr_no (by decide +kernel)
theorem r_276_2569 : xfetch 276 2569 = some (.iadd, 1) := by decide +kernel
theorem n_276_2569 : ∀ l, xpr 276 2569 l = l := xpr_no (by decide +kernel)
theorem r_276_2570 : xfetch 276 2570 = some (.iaload, 1) := by decide +kernel
theorem n_276_2570 : ∀ l, xpr 276 2570 l = l := xpr_no (by decide +kernel)
theorem r_276_2571 : xfetch 276 2571 = some (.aload_n 0, 1) := by decide +kernel
theorem n_276_2571 : ∀ l, xpr 276 2571 l = l := xpr_no (by decide +kernel)
theorem r_276_2572 : xfetch 276 2572 = some (.iload 4, 2) := by decide +kernel
theorem n_276_2572 : ∀ l, xpr 276 2572 l = l := xpr_no (by decide +kernel)
theorem r_276_2574 : xfetch 276 2574 = some (.bipush 6, 2) := by decide +kernel
theorem n_276_2574 : ∀ l, xpr 276 2574 l = l := xpr_no (by decide +kernel)
theorem r_276_2576 : xfetch 276 2576 = some (.iadd, 1) := by decide +kernel
theorem n_276_2576 : ∀ l, xpr 276 2576 l = l := xpr_no (by decide +kernel)
theorem r_276_2577 : xfetch 276 2577 = some (.iaload, 1) := by decide +kernel
theorem n_276_2577 : ∀ l, xpr 276 2577 l = l := xpr_no (by decide +kernel)
theorem r_276_2578 : xfetch 276 2578 = some (.invokevirtual 247, 3) := by decide +kernel
theorem n_276_2578 : ∀ l, xpr 276 2578 l = l := xpr_no (by decide +kernel)
theorem r_276_2581 : xfetch 276 2581 = some (.istore 6, 2) := by decide +kernel
theorem n_276_2581 : ∀ l, xpr 276 2581 l = l := xpr_no (by decide +kernel)
theorem r_276_2583 : xfetch 276 2583 = some (.aload_n 2, 1) := by decide +kernel
theorem n_276_2583 : ∀ l, xpr 276 2583 l = l := xpr_no (by decide +kernel)
theorem r_276_2584 : xfetch 276 2584 = some (.invokevirtual 133, 3) := by decide +kernel
theorem n_276_2584 : ∀ l, xpr 276 2584 l = l := xpr_no (by decide +kernel)
theorem r_276_2587 : xfetch 276 2587 = some (.iload 5, 2) := by decide +kernel
theorem n_276_2587 : ∀ l, xpr 276 2587 l = l := xpr_no (by decide +kernel)
theorem r_276_2589 : xfetch 276 2589 = some (.if_icmp .eq 5, 3) := by decide +kernel
theorem n_276_2589 : ∀ l, xpr 276 2589 l = l := xpr_no (by decide +kernel)
theorem r_276_2592 : xfetch 276 2592 = some (.iconst 0, 1) := by decide +kernel
theorem n_276_2592 : ∀ l, xpr 276 2592 l = l := xpr_no (by decide +kernel)
theorem r_276_2593 : xfetch 276 2593 = some (.ireturn, 1) := by decide +kernel
theorem n_276_2593 : ∀ l, xpr 276 2593 l = l := xpr_no (by decide +kernel)
theorem r_276_2594 : xfetch 276 2594 = some (.iload 5, 2) := by decide +kernel
theorem n_276_2594 : ∀ l, xpr 276 2594 l = l := xpr_no (by decide +kernel)
theorem r_276_2596 : xfetch 276 2596 = some (.ifCond .ne 15, 3) := by decide +kernel
theorem n_276_2596 : ∀ l, xpr 276 2596 l = l := xpr_no (by decide +kernel)
theorem r_276_2599 : xfetch 276 2599 = some (.aload_n 3, 1) := by decide +kernel
theorem n_276_2599 : ∀ l, xpr 276 2599 l = l := xpr_no (by decide +kernel)
theorem r_276_2600 : xfetch 276 2600 = some (.iconst 0, 1) := by decide +kernel
theorem n_276_2600 : ∀ l, xpr 276 2600 l = l := xpr_no (by decide +kernel)
theorem r_276_2601 : xfetch 276 2601 = some (.laload, 1) := by decide +kernel
theorem n_276_2601 : ∀ l, xpr 276 2601 l = l := xpr_no (by decide +kernel)
theorem r_276_2602 : xfetch 276 2602 = some (.iload 6, 2) := by decide +kernel
theorem n_276_2602 : ∀ l, xpr 276 2602 l = l := xpr_no (by decide +kernel)
theorem r_276_2604 : xfetch 276 2604 = some (.i2l, 1) := by decide +kernel
theorem n_276_2604 : ∀ l, xpr 276 2604 l = l := xpr_no (by decide +kernel)
theorem r_276_2605 : xfetch 276 2605 = some (.lcmp, 1) := by decide +kernel
theorem n_276_2605 : ∀ l, xpr 276 2605 l = l := xpr_no (by decide +kernel)
theorem r_276_2606 : xfetch 276 2606 = some (.ifCond .eq 5, 3) := by decide +kernel
theorem n_276_2606 : ∀ l, xpr 276 2606 l = l := xpr_no (by decide +kernel)
theorem r_276_2609 : xfetch 276 2609 = some (.iconst 0, 1) := by decide +kernel
theorem n_276_2609 : ∀ l, xpr 276 2609 l = l := xpr_no (by decide +kernel)
theorem r_276_2610 : xfetch 276 2610 = some (.ireturn, 1) := by decide +kernel
theorem n_276_2610 : ∀ l, xpr 276 2610 l = l := xpr_no (by decide +kernel)
theorem r_276_2611 : xfetch 276 2611 = some (.goto 297, 3) := by decide +kernel
theorem n_276_2611 : ∀ l, xpr 276 2611 l = l := xpr_no (by decide +kernel)
theorem r_276_2614 : xfetch 276 2614 = some (.aload_n 1, 1) := by decide +kernel
theorem r_276_2615 : xfetch 276 2615 = some (.aload_n 0, 1) := by decide +kernel
theorem n_276_2615 : ∀ l, xpr 276 2615 l = l := xpr_no (by decide +kernel)
theorem r_276_2616 : xfetch 276 2616 = some (.iload 4, 2) := by decide +kernel
theorem n_276_2616 : ∀ l, xpr 276 2616 l = l := xpr_no (by decide +kernel)
theorem r_276_2618 : xfetch 276 2618 = some (.iconst 1, 1) := by decide +kernel
theorem n_276_2618 : ∀ l, xpr 276 2618 l = l := xpr_no (by decide +kernel)
theorem r_276_2619 : xfetch 276 2619 = some (.iadd, 1) := by decide +kernel
theorem n_276_2619 : ∀ l, xpr 276 2619 l = l := xpr_no (by decide +kernel)
theorem r_276_2620 : xfetch 276 2620 = some (.iaload, 1) := by decide +kernel
theorem n_276_2620 : ∀ l, xpr 276 2620 l = l := xpr_no (by decide +kernel)
theorem r_276_2621 : xfetch 276 2621 = some (.aload_n 0, 1) := by decide +kernel
theorem n_276_2621 : ∀ l, xpr 276 2621 l = l := xpr_no (by decide +kernel)
theorem r_276_2622 : xfetch 276 2622 = some (.iload 4, 2) := by decide +kernel
theorem n_276_2622 : ∀ l, xpr 276 2622 l = l := xpr_no (by decide +kernel)
theorem r_276_2624 : xfetch 276 2624 = some (.iconst 2, 1) := by decide +kernel
theorem n_276_2624 : ∀ l, xpr 276 2624 l = l := xpr_no (by decide +kernel)
theorem r_276_2625 : xfetch 276 2625 = some (.iadd, 1) := by decide +kernel
theorem n_276_2625 : ∀ l, xpr 276 2625 l = l := xpr_no (by decide +kernel)
theorem r_276_2626 : xfetch 276 2626 = some (.iaload, 1) := by decide +kernel
theorem n_276_2626 : ∀ l, xpr 276 2626 l = l := xpr_no (by decide +kernel)
theorem r_276_2627 : xfetch 276 2627 = some (.i2l, 1) := by decide +kernel
theorem n_276_2627 : ∀ l, xpr 276 2627 l = l := xpr_no (by decide +kernel)
theorem r_276_2628 : xfetch 276 2628 = some (.bipush 32, 2) := by decide +kernel
theorem n_276_2628 : ∀ l, xpr 276 2628 l = l := xpr_no (by decide +kernel)
theorem r_276_2630 : xfetch 276 2630 = some (.lshl, 1) := by decide +kernel
theorem n_276_2630 : ∀ l, xpr 276 2630 l = l := xpr_no (by decide +kernel)
theorem r_276_2631 : xfetch 276 2631 = some (.aload_n 0, 1) := by decide +kernel
theorem n_276_2631 : ∀ l, xpr 276 2631 l = l := xpr_no (by decide +kernel)
theorem r_276_2632 : xfetch 276 2632 = some (.iload 4, 2) := by decide +kernel
theorem n_276_2632 : ∀ l, xpr 276 2632 l = l := xpr_no (by decide +kernel)
theorem r_276_2634 : xfetch 276 2634 = some (.iconst 3, 1) := by decide +kernel
theorem n_276_2634 : ∀ l, xpr 276 2634 l = l := xpr_no (by decide +kernel)
theorem r_276_2635 : xfetch 276 2635 = some (.iadd, 1) := by decide +kernel
theorem n_276_2635 : ∀ l, xpr 276 2635 l = l := xpr_no (by decide +kernel)
theorem r_276_2636 : xfetch 276 2636 = some (.iaload, 1) := by decide +kernel
theorem n_276_2636 : ∀ l, xpr 276 2636 l = l := xpr_no (by decide +kernel)
theorem r_276_2637 : xfetch 276 2637 = some (.i2l, 1) := by decide +kernel
theorem n_276_2637 : ∀ l, xpr 276 2637 l = l := xpr_no (by decide +kernel)
theorem r_276_2638 : xfetch 276 2638 = some (.ldc2_w 196, 3) := by decide +kernel
theorem n_276_2638 : ∀ l, xpr 276 2638 l = l := xpr_no (by decide +kernel)
theorem r_276_2641 : xfetch 276 2641 = some (.land, 1) := by decide +kernel
theorem n_276_2641 : ∀ l, xpr 276 2641 l = l := xpr_no (by decide +kernel)
theorem r_276_2642 : xfetch 276 2642 = some (.lor, 1) := by decide +kernel
theorem n_276_2642 : ∀ l, xpr 276 2642 l = l := xpr_no (by decide +kernel)
theorem r_276_2643 : xfetch 276 2643 = some (.aload_n 0, 1) := by decide +kernel
theorem n_276_2643 : ∀ l, xpr 276 2643 l = l := xpr_no (by decide +kernel)
theorem r_276_2644 : xfetch 276 2644 = some (.iload 4, 2) := by decide +kernel
theorem n_276_2644 : ∀ l, xpr 276 2644 l = l := xpr_no (by decide +kernel)
theorem r_276_2646 : xfetch 276 2646 = some (.iconst 4, 1) := by decide +kernel
theorem n_276_2646 : ∀ l, xpr 276 2646 l = l := xpr_no (by decide +kernel)
theorem r_276_2647 : xfetch 276 2647 = some (.iadd, 1) := by decide +kernel
theorem n_276_2647 : ∀ l, xpr 276 2647 l = l := xpr_no (by decide +kernel)
theorem r_276_2648 : xfetch 276 2648 = some (.iaload, 1) := by decide +kernel
theorem n_276_2648 : ∀ l, xpr 276 2648 l = l := xpr_no (by decide +kernel)
theorem r_276_2649 : xfetch 276 2649 = some (.aload_n 0, 1) := by decide +kernel
theorem n_276_2649 : ∀ l, xpr 276 2649 l = l := xpr_no (by decide +kernel)
theorem r_276_2650 : xfetch 276 2650 = some (.iload 4, 2) := by decide +kernel
theorem n_276_2650 : ∀ l, xpr 276 2650 l = l := xpr_no (by decide +kernel)
theorem r_276_2652 : xfetch 276 2652 = some (.iconst 5, 1) := by decide +kernel
theorem n_276_2652 : ∀ l, xpr 276 2652 l = l := xpr_no (by decide +kernel)
theorem r_276_2653 : xfetch 276 2653 = some (.iadd, 1) := by decide +kernel
theorem n_276_2653 : ∀ l, xpr 276 2653 l = l := xpr_no (by decide +kernel)
theorem r_276_2654 : xfetch 276 2654 = some (.iaload, 1) := by decide +kernel
theorem n_276_2654 : ∀ l, xpr 276 2654 l = l := xpr_no (by decide +kernel)
theorem r_276_2655 : xfetch 276 2655 = some (.aload_n 3, 1) := by decide +kernel
theorem n_276_2655 : ∀ l, xpr 276 2655 l = l := xpr_no (by decide +kernel)
theorem r_276_2656 : xfetch 276 2656 = some (.invokestatic 248, 3) := by decide +kernel
theorem n_276_2656 : ∀ l, xpr 276 2656 l = l := xpr_no (by decide +kernel)
theorem r_276_2659 : xfetch 276 2659 = some (.istore 5, 2) := by decide +kernel
theorem n_276_2659 : ∀ l, xpr 276 2659 l = l := xpr_no (by decide +kernel)
theorem r_276_2661 : xfetch 276 2661 = some (.aload_n 2, 1) := by decide +kernel
theorem n_276_2661 : ∀ l, xpr 276 2661 l = l := xpr_no (by decide +kernel)
theorem r_276_2662 : xfetch 276 2662 = some (.aload_n 0, 1) := by decide +kernel
theorem n_276_2662 : ∀ l, xpr 276 2662 l = l := xpr_no (by decide +kernel)
theorem r_276_2663 : xfetch 276 2663 = some (.iload 4, 2) := by decide +kernel
theorem n_276_2663 : ∀ l, xpr 276 2663 l = l := xpr_no (by decide +kernel)
theorem r_276_2665 : xfetch 276 2665 = some (.iconst 1, 1) := by decide +kernel
theorem n_276_2665 : ∀ l, xpr 276 2665 l = l := xpr_no (by decide +kernel)
theorem r_276_2666 : xfetch 276 2666 = some (.iadd, 1) := by decide +kernel
theorem n_276_2666 : ∀ l, xpr 276 2666 l = l := xpr_no (by decide +kernel)
theorem r_276_2667 : xfetch 276 2667 = some (.iaload, 1) := by decide +kernel
theorem n_276_2667 : ∀ l, xpr 276 2667 l = l := xpr_no (by decide +kernel)
theorem r_276_2668 : xfetch 276 2668 = some (.aload_n 0, 1) := by decide +kernel
theorem n_276_2668 : ∀ l, xpr 276 2668 l = l := xpr_no (by decide +kernel)
theorem r_276_2669 : xfetch 276 2669 = some (.iload 4, 2) := by decide +kernel
theorem n_276_2669 : ∀ l, xpr 276 2669 l = l := xpr_no (by decide +kernel)
theorem r_276_2671 : xfetch 276 2671 = some (.iconst 2, 1) := by decide +kernel
theorem n_276_2671 : ∀ l, xpr 276 2671 l = l := xpr_no (by decide +kernel)
theorem r_276_2672 : xfetch 276 2672 = some (.iadd, 1) := by decide +kernel
theorem n_276_2672 : ∀ l, xpr 276 2672 l = l := xpr_no (by decide +kernel)
theorem r_276_2673 : xfetch 276 2673 = some (.iaload, 1) := by decide +kernel
theorem n_276_2673 : ∀ l, xpr 276 2673 l = l := xpr_no (by decide +kernel)
theorem r_276_2674 : xfetch 276 2674 = some (.i2l, 1) := by decide +kernel
theorem n_276_2674 : ∀ l, xpr 276 2674 l = l := xpr_no (by decide +kernel)
theorem r_276_2675 : xfetch 276 2675 = some (.bipush 32, 2) := by decide +kernel
theorem n_276_2675 : ∀ l, xpr 276 2675 l = l := xpr_no (by decide +kernel)
theorem r_276_2677 : xfetch 276 2677 = some (.lshl, 1) := by decide +kernel
theorem n_276_2677 : ∀ l, xpr 276 2677 l = l := xpr_no (by decide +kernel)
theorem r_276_2678 : xfetch 276 2678 = some (.aload_n 0, 1) := by decide +kernel
theorem n_276_2678 : ∀ l, xpr 276 2678 l = l := xpr_no (by decide +kernel)
theorem r_276_2679 : xfetch 276 2679 = some (.iload 4, 2) := by decide +kernel
theorem n_276_2679 : ∀ l, xpr 276 2679 l = l := xpr_no (by decide +kernel)
theorem r_276_2681 : xfetch 276 2681 = some (.iconst 3, 1) := by decide +kernel
theorem n_276_2681 : ∀ l, xpr 276 2681 l = l := xpr_no (by decide +kernel)
theorem r_276_2682 : xfetch 276 2682 = some (.iadd, 1) := by decide +kernel
theorem n_276_2682 : ∀ l, xpr 276 2682 l = l := xpr_no (by decide +kernel)
theorem r_276_2683 : xfetch 276 2683 = some (.iaload, 1) := by decide +kernel
theorem n_276_2683 : ∀ l, xpr 276 2683 l = l := xpr_no (by decide +kernel)
theorem r_276_2684 : xfetch 276 2684 = some (.i2l, 1) := by decide +kernel
theorem n_276_2684 : ∀ l, xpr 276 2684 l = l := xpr_no (by decide +kernel)
theorem r_276_2685 : xfetch 276 2685 = some (.ldc2_w 196, 3) := by decide +kernel
theorem n_276_2685 : ∀ l, xpr 276 2685 l = l := xpr_no (by decide +kernel)
theorem r_276_2688 : xfetch 276 2688 = some (.land, 1) := by decide +kernel
theorem n_276_2688 : ∀ l, xpr 276 2688 l = l := xpr_no (by decide +kernel)
theorem r_276_2689 : xfetch 276 2689 = some (.lor, 1) := by decide +kernel
theorem n_276_2689 : ∀ l, xpr 276 2689 l = l := xpr_no (by decide +kernel)
theorem r_276_2690 : xfetch 276 2690 = some (.aload_n 0, 1) := by decide +kernel
theorem n_276_2690 : ∀ l, xpr 276 2690 l = l := xpr_no (by decide +kernel)
theorem r_276_2691 : xfetch 276 2691 = some (.iload 4, 2) := by decide +kernel
theorem n_276_2691 : ∀ l, xpr 276 2691 l = l := xpr_no (by decide +kernel)
theorem r_276_2693 : xfetch 276 2693 = some (.iconst 4, 1) := by decide +kernel
theorem n_276_2693 : ∀ l, xpr 276 2693 l = l := xpr_no (by decide +kernel)
theorem r_276_2694 : xfetch 276 2694 = some (.iadd, 1) := by decide +kernel
theorem n_276_2694 : ∀ l, xpr 276 2694 l = l := xpr_no (by decide +kernel)
theorem r_276_2695 : xfetch 276 2695 = some (.iaload, 1) := by decide +kernel
theorem n_276_2695 : ∀ l, xpr 276 2695 l = l := xpr_no (by decide +kernel)
theorem r_276_2696 : xfetch 276 2696 = some (.aload_n 0, 1) := by decide +kernel
theorem n_276_2696 : ∀ l, xpr 276 2696 l = l := xpr_no (by decide +kernel)
theorem r_276_2697 : xfetch 276 2697 = some (.iload 4, 2) := by decide +kernel
theorem n_276_2697 : ∀ l, xpr 276 2697 l = l := xpr_no (by decide +kernel)
theorem r_276_2699 : xfetch 276 2699 = some (.iconst 5, 1) := by decide +kernel
theorem n_276_2699 : ∀ l, xpr 276 2699 l = l := xpr_no (by decide +kernel)
theorem r_276_2700 : xfetch 276 2700 = some (.iadd, 1) := by decide +kernel
theorem n_276_2700 : ∀ l, xpr 276 2700 l = l := xpr_no (by decide +kernel)
theorem r_276_2701 : xfetch 276 2701 = some (.iaload, 1) := by decide +kernel
theorem n_276_2701 : ∀ l, xpr 276 2701 l = l := xpr_no (by decide +kernel)
theorem r_276_2702 : xfetch 276 2702 = some (.invokevirtual 251, 3) := by decide +kernel
theorem n_276_2702 : ∀ l, xpr 276 2702 l = l := xpr_no (by decide +kernel)
theorem r_276_2705 : xfetch 276 2705 = some (.istore 6, 2) := by decide +kernel
theorem n_276_2705 : ∀ l, xpr 276 2705 l = l := xpr_no (by decide +kernel)
theorem r_276_2707 : xfetch 276 2707 = some (.aload_n 2, 1) := by decide +kernel
theorem n_276_2707 : ∀ l, xpr 276 2707 l = l := xpr_no (by decide +kernel)
theorem r_276_2708 : xfetch 276 2708 = some (.invokevirtual 133, 3) := by decide +kernel
theorem n_276_2708 : ∀ l, xpr 276 2708 l = l := xpr_no (by decide +kernel)
theorem r_276_2711 : xfetch 276 2711 = some (.iload 5, 2) := by decide +kernel
theorem n_276_2711 : ∀ l, xpr 276 2711 l = l := xpr_no (by decide +kernel)
theorem r_276_2713 : xfetch 276 2713 = some (.if_icmp .eq 5, 3) := by decide +kernel
theorem n_276_2713 : ∀ l, xpr 276 2713 l = l := xpr_no (by decide +kernel)
theorem r_276_2716 : xfetch 276 2716 = some (.iconst 0, 1) := by decide +kernel
theorem n_276_2716 : ∀ l, xpr 276 2716 l = l := xpr_no (by decide +kernel)
theorem r_276_2717 : xfetch 276 2717 = some (.ireturn, 1) := by decide +kernel
theorem n_276_2717 : ∀ l, xpr 276 2717 l = l := xpr_no (by decide +kernel)
theorem r_276_2718 : xfetch 276 2718 = some (.iload 5, 2) := by decide +kernel
theorem n_276_2718 : ∀ l, xpr 276 2718 l = l := xpr_no (by decide +kernel)
theorem r_276_2720 : xfetch 276 2720 = some (.ifCond .ne 15, 3) := by decide +kernel
theorem n_276_2720 : ∀ l, xpr 276 2720 l = l := xpr_no (by decide +kernel)
theorem r_276_2723 : xfetch 276 2723 = some (.aload_n 3, 1) := by decide +kernel
theorem n_276_2723 : ∀ l, xpr 276 2723 l = l := xpr_no (by decide +kernel)
theorem r_276_2724 : xfetch 276 2724 = some (.iconst 0, 1) := by decide +kernel
theorem n_276_2724 : ∀ l, xpr 276 2724 l = l := xpr_no (by decide +kernel)
theorem r_276_2725 : xfetch 276 2725 = some (.laload, 1) := by decide +kernel
theorem n_276_2725 : ∀ l, xpr 276 2725 l = l := xpr_no (by decide +kernel)
theorem r_276_2726 : xfetch 276 2726 = some (.iload 6, 2) := by decide +kernel
theorem n_276_2726 : ∀ l, xpr 276 2726 l = l := xpr_no (by decide +kernel)
theorem r_276_2728 : xfetch 276 2728 = some (.i2l, 1) := by decide +kernel
theorem n_276_2728 : ∀ l, xpr 276 2728 l = l := xpr_no (by decide +kernel)
theorem r_276_2729 : xfetch 276 2729 = some (.lcmp, 1) := by decide +kernel
theorem n_276_2729 : ∀ l, xpr 276 2729 l = l := xpr_no (by decide +kernel)
theorem r_276_2730 : xfetch 276 2730 = some (.ifCond .eq 5, 3) := by decide +kernel
theorem n_276_2730 : ∀ l, xpr 276 2730 l = l := xpr_no (by decide +kernel)
theorem r_276_2733 : xfetch 276 2733 = some (.iconst 0, 1) := by decide +kernel
theorem n_276_2733 : ∀ l, xpr 276 2733 l = l := xpr_no (by decide +kernel)
theorem r_276_2734 : xfetch 276 2734 = some (.ireturn, 1) := by decide +kernel
theorem n_276_2734 : ∀ l, xpr 276 2734 l = l := xpr_no (by decide +kernel)
theorem r_276_2735 : xfetch 276 2735 = some (.goto 173, 3) := by decide +kernel
theorem n_276_2735 : ∀ l, xpr 276 2735 l = l := xpr_no (by decide +kernel)
theorem r_276_2738 : xfetch 276 2738 = some (.aload_n 1, 1) := by decide +kernel
theorem r_276_2739 : xfetch 276 2739 = some (.aload_n 0, 1) := by decide +kernel
theorem n_276_2739 : ∀ l, xpr 276 2739 l = l := xpr_no (by decide +kernel)
theorem r_276_2740 : xfetch 276 2740 = some (.iload 4, 2) := by decide +kernel
theorem n_276_2740 : ∀ l, xpr 276 2740 l = l := xpr_no (by decide +kernel)
theorem r_276_2742 : xfetch 276 2742 = some (.iconst 1, 1) := by decide +kernel
theorem n_276_2742 : ∀ l, xpr 276 2742 l = l := xpr_no (by decide +kernel)
theorem r_276_2743 : xfetch 276 2743 = some (.iadd, 1) := by decide +kernel
theorem n_276_2743 : ∀ l, xpr 276 2743 l = l := xpr_no (by decide +kernel)
theorem r_276_2744 : xfetch 276 2744 = some (.iaload, 1) := by decide +kernel
theorem n_276_2744 : ∀ l, xpr 276 2744 l = l := xpr_no (by decide +kernel)
theorem r_276_2745 : xfetch 276 2745 = some (.aload_n 0, 1) := by decide +kernel
theorem n_276_2745 : ∀ l, xpr 276 2745 l = l := xpr_no (by decide +kernel)
theorem r_276_2746 : xfetch 276 2746 = some (.iload 4, 2) := by decide +kernel
theorem n_276_2746 : ∀ l, xpr 276 2746 l = l := xpr_no (by decide +kernel)
theorem r_276_2748 : xfetch 276 2748 = some (.iconst 2, 1) := by decide +kernel
theorem n_276_2748 : ∀ l, xpr 276 2748 l = l := xpr_no (by decide +kernel)
theorem r_276_2749 : xfetch 276 2749 = some (.iadd, 1) := by decide +kernel
theorem n_276_2749 : ∀ l, xpr 276 2749 l = l := xpr_no (by decide +kernel)
theorem r_276_2750 : xfetch 276 2750 = some (.iaload, 1) := by decide +kernel
theorem n_276_2750 : ∀ l, xpr 276 2750 l = l := xpr_no (by decide +kernel)
theorem r_276_2751 : xfetch 276 2751 = some (.i2l, 1) := by decide +kernel
theorem n_276_2751 : ∀ l, xpr 276 2751 l = l := xpr_no (by decide +kernel)
theorem r_276_2752 : xfetch 276 2752 = some (.bipush 32, 2) := by decide +kernel
theorem n_276_2752 : ∀ l, xpr 276 2752 l = l := xpr_no (by decide +kernel)
theorem r_276_2754 : xfetch 276 2754 = some (.lshl, 1) := by decide +kernel
theorem n_276_2754 : ∀ l, xpr 276 2754 l = l := xpr_no (by decide +kernel)
theorem r_276_2755 : xfetch 276 2755 = some (.aload_n 0, 1) := by decide +kernel
theorem n_276_2755 : ∀ l, xpr 276 2755 l = l := xpr_no (by decide +kernel)
theorem r_276_2756 : xfetch 276 2756 = some (.iload 4, 2) := by decide +kernel
theorem n_276_2756 : ∀ l, xpr 276 2756 l = l := xpr_no (by decide +kernel)
theorem r_276_2758 : xfetch 276 2758 = some (.iconst 3, 1) := by decide +kernel
theorem n_276_2758 : ∀ l, xpr 276 2758 l = l := xpr_no (by decide +kernel)
theorem r_276_2759 : xfetch 276 2759 = some (.iadd, 1) := by decide +kernel
theorem n_276_2759 : ∀ l, xpr 276 2759 l = l := xpr_no (by decide +kernel)
theorem r_276_2760 : xfetch 276 2760 = some (.iaload, 1) := by decide +kernel
theorem n_276_2760 : ∀ l, xpr 276 2760 l = l := xpr_no (by decide +kernel)
theorem r_276_2761 : xfetch 276 2761 = some (.i2l, 1) := by decide +kernel
theorem n_276_2761 : ∀ l, xpr 276 2761 l = l := xpr_no (by decide +kernel)
theorem r_276_2762 : xfetch 276 2762 = some (.ldc2_w 196, 3) := by decide +kernel
theorem n_276_2762 : ∀ l, xpr 276 2762 l = l := xpr_no (by decide +kernel)
theorem r_276_2765 : xfetch 276 2765 = some (.land, 1) := by decide +kernel
theorem n_276_2765 : ∀ l, xpr 276 2765 l = l := xpr_no (by decide +kernel)
theorem r_276_2766 : xfetch 276 2766 = some (.lor, 1) := by decide +kernel
theorem n_276_2766 : ∀ l, xpr 276 2766 l = l := xpr_no (by decide +kernel)
theorem r_276_2767 : xfetch 276 2767 = some (.aload_n 0, 1) := by decide +kernel
theorem n_276_2767 : ∀ l, xpr 276 2767 l = l := xpr_no (by decide +kernel)
theorem r_276_2768 : xfetch 276 2768 = some (.iload 4, 2) := by decide +kernel
theorem n_276_2768 : ∀ l, xpr 276 2768 l = l := xpr_no (by decide +kernel)
theorem r_276_2770 : xfetch 276 2770 = some (.iconst 4, 1) := by decide +kernel
theorem n_276_2770 : ∀ l, xpr 276 2770 l = l := xpr_no (by decide +kernel)
theorem r_276_2771 : xfetch 276 2771 = some (.iadd, 1) := by decide +kernel
theorem n_276_2771 : ∀ l, xpr 276 2771 l = l := xpr_no (by decide +kernel)
theorem r_276_2772 : xfetch 276 2772 = some (.iaload, 1) := by decide +kernel
theorem n_276_2772 : ∀ l, xpr 276 2772 l = l := xpr_no (by decide +kernel)
theorem r_276_2773 : xfetch 276 2773 = some (.aload_n 3, 1) := by decide +kernel
theorem n_276_2773 : ∀ l, xpr 276 2773 l = l := xpr_no (by decide +kernel)
theorem r_276_2774 : xfetch 276 2774 = some (.invokestatic 252, 3) := by decide +kernel
theorem n_276_2774 : ∀ l, xpr 276 2774 l = l := xpr_no (by decide +kernel)
theorem r_276_2777 : xfetch 276 2777 = some (.istore 5, 2) := by decide +kernel
theorem n_276_2777 : ∀ l, xpr 276 2777 l = l := xpr_no (by decide +kernel)
theorem r_276_2779 : xfetch 276 2779 = some (.aload_n 2, 1) := by decide +kernel
theorem n_276_2779 : ∀ l, xpr 276 2779 l = l := xpr_no (by decide +kernel)
theorem r_276_2780 : xfetch 276 2780 = some (.aload_n 0, 1) := by decide +kernel
theorem n_276_2780 : ∀ l, xpr 276 2780 l = l := xpr_no (by decide +kernel)
theorem r_276_2781 : xfetch 276 2781 = some (.iload 4, 2) := by decide +kernel
theorem n_276_2781 : ∀ l, xpr 276 2781 l = l := xpr_no (by decide +kernel)
theorem r_276_2783 : xfetch 276 2783 = some (.iconst 1, 1) := by decide +kernel
theorem n_276_2783 : ∀ l, xpr 276 2783 l = l := xpr_no (by decide +kernel)
theorem r_276_2784 : xfetch 276 2784 = some (.iadd, 1) := by decide +kernel
theorem n_276_2784 : ∀ l, xpr 276 2784 l = l := xpr_no (by decide +kernel)
theorem r_276_2785 : xfetch 276 2785 = some (.iaload, 1) := by decide +kernel
theorem n_276_2785 : ∀ l, xpr 276 2785 l = l := xpr_no (by decide +kernel)
theorem r_276_2786 : xfetch 276 2786 = some (.aload_n 0, 1) := by decide +kernel
theorem n_276_2786 : ∀ l, xpr 276 2786 l = l := xpr_no (by decide +kernel)
theorem r_276_2787 : xfetch 276 2787 = some (.iload 4, 2) := by decide +kernel
theorem n_276_2787 : ∀ l, xpr 276 2787 l = l := xpr_no (by decide +kernel)
theorem r_276_2789 : xfetch 276 2789 = some (.iconst 2, 1) := by decide +kernel
theorem n_276_2789 : ∀ l, xpr 276 2789 l = l := xpr_no (by decide +kernel)
theorem r_276_2790 : xfetch 276 2790 = some (.iadd, 1) := by decide +kernel
theorem n_276_2790 : ∀ l, xpr 276 2790 l = l := xpr_no (by decide +kernel)
theorem r_276_2791 : xfetch 276 2791 = some (.iaload, 1) := by decide +kernel
theorem n_276_2791 : ∀ l, xpr 276 2791 l = l := xpr_no (by decide +kernel)
theorem r_276_2792 : xfetch 276 2792 = some (.i2l, 1) := by decide +kernel
theorem n_276_2792 : ∀ l, xpr 276 2792 l = l := xpr_no (by decide +kernel)
theorem r_276_2793 : xfetch 276 2793 = some (.bipush 32, 2) := by decide +kernel
theorem n_276_2793 : ∀ l, xpr 276 2793 l = l := xpr_no (by decide +kernel)
theorem r_276_2795 : xfetch 276 2795 = some (.lshl, 1) := by decide +kernel
theorem n_276_2795 : ∀ l, xpr 276 2795 l = l := xpr_no (by decide +kernel)
theorem r_276_2796 : xfetch 276 2796 = some (.aload_n 0, 1) := by decide +kernel
theorem n_276_2796 : ∀ l, xpr 276 2796 l = l := xpr_no (by decide +kernel)
theorem r_276_2797 : xfetch 276 2797 = some (.iload 4, 2) := by decide +kernel
theorem n_276_2797 : ∀ l, xpr 276 2797 l = l := xpr_no (by decide +kernel)
theorem r_276_2799 : xfetch 276 2799 = some (.iconst 3, 1) := by decide +kernel
theorem n_276_2799 : ∀ l, xpr 276 2799 l = l := xpr_no (by decide +kernel)
theorem r_276_2800 : xfetch 276 2800 = some (.iadd, 1) := by decide +kernel
theorem n_276_2800 : ∀ l, xpr 276 2800 l = l := xpr_no (by decide +kernel)
theorem r_276_2801 : xfetch 276 2801 = some (.iaload, 1) := by decide +kernel
theorem n_276_2801 : ∀ l, xpr 276 2801 l = l := xpr_no (by decide +kernel)
theorem r_276_2802 : xfetch 276 2802 = some (.i2l, 1) := by decide +kernel
theorem n_276_2802 : ∀ l, xpr 276 2802 l = l := xpr_no (by decide +kernel)
theorem r_276_2803 : xfetch 276 2803 = some (.ldc2_w 196, 3) := by decide +kernel
theorem n_276_2803 : ∀ l, xpr 276 2803 l = l := xpr_no (by decide +kernel)
theorem r_276_2806 : xfetch 276 2806 = some (.land, 1) := by decide +kernel
theorem n_276_2806 : ∀ l, xpr 276 2806 l = l := xpr_no (by decide +kernel)
theorem r_276_2807 : xfetch 276 2807 = some (.lor, 1) := by decide +kernel
theorem n_276_2807 : ∀ l, xpr 276 2807 l = l := xpr_no (by decide +kernel)
theorem r_276_2808 : xfetch 276 2808 = some (.aload_n 0, 1) := by decide +kernel
theorem n_276_2808 : ∀ l, xpr 276 2808 l = l := xpr_no (by decide +kernel)
theorem r_276_2809 : xfetch 276 2809 = some (.iload 4, 2) := by decide +kernel
theorem n_276_2809 : ∀ l, xpr 276 2809 l = l := xpr_no (by decide +kernel)
theorem r_276_2811 : xfetch 276 2811 = some (.iconst 4, 1) := by decide +kernel
theorem n_276_2811 : ∀ l, xpr 276 2811 l = l := xpr_no (by decide +kernel)
theorem r_276_2812 : xfetch 276 2812 = some (.iadd, 1) := by decide +kernel
theorem n_276_2812 : ∀ l, xpr 276 2812 l = l := xpr_no (by decide +kernel)
theorem r_276_2813 : xfetch 276 2813 = some (.iaload, 1) := by decide +kernel
theorem n_276_2813 : ∀ l, xpr 276 2813 l = l := xpr_no (by decide +kernel)
theorem r_276_2814 : xfetch 276 2814 = some (.invokevirtual 255, 3) := by decide +kernel
theorem n_276_2814 : ∀ l, xpr 276 2814 l = l := xpr_no (by decide +kernel)
theorem r_276_2817 : xfetch 276 2817 = some (.istore 6, 2) := by decide +kernel
theorem n_276_2817 : ∀ l, xpr 276 2817 l = l := xpr_no (by decide +kernel)
theorem r_276_2819 : xfetch 276 2819 = some (.aload_n 2, 1) := by decide +kernel
theorem n_276_2819 : ∀ l, xpr 276 2819 l = l := xpr_no (by decide +kernel)
theorem r_276_2820 : xfetch 276 2820 = some (.invokevirtual 133, 3) := by decide +kernel
theorem n_276_2820 : ∀ l, xpr 276 2820 l = l := xpr_no (by decide +kernel)
theorem r_276_2823 : xfetch 276 2823 = some (.iload 5, 2) := by decide +kernel
theorem n_276_2823 : ∀ l, xpr 276 2823 l = l := xpr_no (by decide +kernel)
theorem r_276_2825 : xfetch 276 2825 = some (.if_icmp .eq 5, 3) := by decide +kernel
theorem n_276_2825 : ∀ l, xpr 276 2825 l = l := xpr_no (by decide +kernel)
theorem r_276_2828 : xfetch 276 2828 = some (.iconst 0, 1) := by decide +kernel
theorem n_276_2828 : ∀ l, xpr 276 2828 l = l := xpr_no (by decide +kernel)
theorem r_276_2829 : xfetch 276 2829 = some (.ireturn, 1) := by decide +kernel
theorem n_276_2829 : ∀ l, xpr 276 2829 l = l := xpr_no (by decide +kernel)
theorem r_276_2830 : xfetch 276 2830 = some (.iload 5, 2) := by decide +kernel
theorem n_276_2830 : ∀ l, xpr 276 2830 l = l := xpr_no (by decide +kernel)
theorem r_276_2832 : xfetch 276 2832 = some (.ifCond .ne 15, 3) := by decide +kernel
theorem n_276_2832 : ∀ l, xpr 276 2832 l = l := xpr_no (by decide +kernel)
theorem r_276_2835 : xfetch 276 2835 = some (.aload_n 3, 1) := by decide +kernel
theorem n_276_2835 : ∀ l, xpr 276 2835 l = l := xpr_no (by decide +kernel)
theorem r_276_2836 : xfetch 276 2836 = some (.iconst 0, 1) := by decide +kernel
theorem n_276_2836 : ∀ l, xpr 276 2836 l = l := xpr_no (by decide +kernel)
theorem r_276_2837 : xfetch 276 2837 = some (.laload, 1) := by decide +kernel
theorem n_276_2837 : ∀ l, xpr 276 2837 l = l := xpr_no (by decide +kernel)
theorem r_276_2838 : xfetch 276 2838 = some (.iload 6, 2) := by decide +kernel
theorem n_276_2838 : ∀ l, xpr 276 2838 l = l := xpr_no (by decide +kernel)
theorem r_276_2840 : xfetch 276 2840 = some (.i2l, 1) := by decide +kernel
theorem n_276_2840 : ∀ l, xpr 276 2840 l = l := xpr_no (by decide +kernel)
theorem r_276_2841 : xfetch 276 2841 = some (.lcmp, 1) := by decide +kernel
theorem n_276_2841 : ∀ l, xpr 276 2841 l = l := xpr_no (by decide +kernel)
theorem r_276_2842 : xfetch 276 2842 = some (.ifCond .eq 5, 3) := by decide +kernel
theorem n_276_2842 : ∀ l, xpr 276 2842 l = l := xpr_no (by decide +kernel)
theorem r_276_2845 : xfetch 276 2845 = some (.iconst 0, 1) := by decide +kernel
theorem n_276_2845 : ∀ l, xpr 276 2845 l = l := xpr_no (by decide +kernel)
theorem r_276_2846 : xfetch 276 2846 = some (.ireturn, 1) := by decide +kernel
theorem n_276_2846 : ∀ l, xpr 276 2846 l = l := xpr_no (by decide +kernel)
theorem r_276_2847 : xfetch 276 2847 = some (.goto 61, 3) := by decide +kernel
theorem n_276_2847 : ∀ l, xpr 276 2847 l = l := xpr_no (by decide +kernel)
theorem r_276_2850 : xfetch 276 2850 = some (.aload_n 1, 1) := by decide +kernel
theorem r_276_2851 : xfetch 276 2851 = some (.aload_n 3, 1) := by decide +kernel
theorem n_276_2851 : ∀ l, xpr 276 2851 l = l := xpr_no (by decide +kernel)
theorem r_276_2852 : xfetch 276 2852 = some (.invokestatic 256, 3) := by decide +kernel
theorem n_276_2852 : ∀ l, xpr 276 2852 l = l := xpr_no (by decide +kernel)
theorem r_276_2855 : xfetch 276 2855 = some (.istore 5, 2) := by decide +kernel
theorem n_276_2855 : ∀ l, xpr 276 2855 l = l := xpr_no (by decide +kernel)
theorem r_276_2857 : xfetch 276 2857 = some (.aload_n 2, 1) := by decide +kernel
theorem n_276_2857 : ∀ l, xpr 276 2857 l = l := xpr_no (by decide +kernel)
theorem r_276_2858 : xfetch 276 2858 = some (.invokevirtual 259, 3) := by decide +kernel
theorem n_276_2858 : ∀ l, xpr 276 2858 l = l := xpr_no (by decide +kernel)
theorem r_276_2861 : xfetch 276 2861 = some (.istore 6, 2) := by decide +kernel
theorem n_276_2861 : ∀ l, xpr 276 2861 l = l := xpr_no (by decide +kernel)
theorem r_276_2863 : xfetch 276 2863 = some (.aload_n 2, 1) := by decide +kernel
theorem n_276_2863 : ∀ l, xpr 276 2863 l = l := xpr_no (by decide +kernel)
theorem r_276_2864 : xfetch 276 2864 = some (.invokevirtual 133, 3) := by decide +kernel
theorem n_276_2864 : ∀ l, xpr 276 2864 l = l := xpr_no (by decide +kernel)
theorem r_276_2867 : xfetch 276 2867 = some (.iload 5, 2) := by decide +kernel
theorem n_276_2867 : ∀ l, xpr 276 2867 l = l := xpr_no (by decide +kernel)
theorem r_276_2869 : xfetch 276 2869 = some (.if_icmp .eq 5, 3) := by decide +kernel
theorem n_276_2869 : ∀ l, xpr 276 2869 l = l := xpr_no (by decide +kernel)
theorem r_276_2872 : xfetch 276 2872 = some (.iconst 0, 1) := by decide +kernel
theorem n_276_2872 : ∀ l, xpr 276 2872 l = l := xpr_no (by decide +kernel)
theorem r_276_2873 : xfetch 276 2873 = some (.ireturn, 1) := by decide +kernel
theorem n_276_2873 : ∀ l, xpr 276 2873 l = l := xpr_no (by decide +kernel)
theorem r_276_2874 : xfetch 276 2874 = some (.iload 5, 2) := by decide +kernel
theorem n_276_2874 : ∀ l, xpr 276 2874 l = l := xpr_no (by decide +kernel)
theorem r_276_2876 : xfetch 276 2876 = some (.ifCond .ne 15, 3) := by decide +kernel
theorem n_276_2876 : ∀ l, xpr 276 2876 l = l := xpr_no (by decide +kernel)
theorem r_276_2879 : xfetch 276 2879 = some (.aload_n 3, 1) := by decide +kernel
theorem n_276_2879 : ∀ l, xpr 276 2879 l = l := xpr_no (by decide +kernel)
theorem r_276_2880 : xfetch 276 2880 = some (.iconst 0, 1) := by decide +kernel
theorem n_276_2880 : ∀ l, xpr 276 2880 l = l := xpr_no (by decide +kernel)
theorem r_276_2881 : xfetch 276 2881 = some (.laload, 1) := by decide +kernel
theorem n_276_2881 : ∀ l, xpr 276 2881 l = l := xpr_no (by decide +kernel)
theorem r_276_2882 : xfetch 276 2882 = some (.iload 6, 2) := by decide +kernel
theorem n_276_2882 : ∀ l, xpr 276 2882 l = l := xpr_no (by decide +kernel)
theorem r_276_2884 : xfetch 276 2884 = some (.i2l, 1) := by decide +kernel
theorem n_276_2884 : ∀ l, xpr 276 2884 l = l := xpr_no (by decide +kernel)
theorem r_276_2885 : xfetch 276 2885 = some (.lcmp, 1) := by decide +kernel
theorem n_276_2885 : ∀ l, xpr 276 2885 l = l := xpr_no (by decide +kernel)
theorem r_276_2886 : xfetch 276 2886 = some (.ifCond .eq 5, 3) := by decide +kernel
theorem n_276_2886 : ∀ l, xpr 276 2886 l = l := xpr_no (by decide +kernel)
theorem r_276_2889 : xfetch 276 2889 = some (.iconst 0, 1) := by decide +kernel
theorem n_276_2889 : ∀ l, xpr 276 2889 l = l := xpr_no (by decide +kernel)
theorem r_276_2890 : xfetch 276 2890 = some (.ireturn, 1) := by decide +kernel
theorem n_276_2890 : ∀ l, xpr 276 2890 l = l := xpr_no (by decide +kernel)
theorem r_276_2891 : xfetch 276 2891 = some (.goto 17, 3) := by decide +kernel
theorem n_276_2891 : ∀ l, xpr 276 2891 l = l := xpr_no (by decide +kernel)
theorem r_276_2894 : xfetch 276 2894 = some (.aload_n 1, 1) := by decide +kernel
theorem r_276_2895 : xfetch 276 2895 = some (.invokevirtual 260, 3) := by decide +kernel
theorem n_276_2895 : ∀ l, xpr 276 2895 l = l := xpr_no (by decide +kernel)
theorem r_276_2898 : xfetch 276 2898 = some (.aload_n 2, 1) := by decide +kernel
theorem n_276_2898 : ∀ l, xpr 276 2898 l = l := xpr_no (by decide +kernel)
theorem r_276_2899 : xfetch 276 2899 = some (.invokevirtual 264, 3) := by decide +kernel
theorem n_276_2899 : ∀ l, xpr 276 2899 l = l := xpr_no (by decide +kernel)
theorem r_276_2902 : xfetch 276 2902 = some (.lcmp, 1) := by decide +kernel
theorem n_276_2902 : ∀ l, xpr 276 2902 l = l := xpr_no (by decide +kernel)
theorem r_276_2903 : xfetch 276 2903 = some (.ifCond .eq 5, 3) := by decide +kernel
theorem n_276_2903 : ∀ l, xpr 276 2903 l = l := xpr_no (by decide +kernel)
theorem r_276_2906 : xfetch 276 2906 = some (.iconst 0, 1) := by decide +kernel
theorem n_276_2906 : ∀ l, xpr 276 2906 l = l := xpr_no (by decide +kernel)
theorem r_276_2907 : xfetch 276 2907 = some (.ireturn, 1) := by decide +kernel
theorem n_276_2907 : ∀ l, xpr 276 2907 l = l := xpr_no (by decide +kernel)
theorem r_276_2908 : xfetch 276 2908 = some (.iinc 4 7, 3) := by decide +kernel
theorem n_276_2908 : ∀ l, xpr 276 2908 l = l := xpr_no (by decide +kernel)
theorem r_276_2911 : xfetch 276 2911 = some (.goto (-2888), 3) := by decide +kernel
theorem n_276_2911 : ∀ l, xpr 276 2911 l = l := xpr_no (by decide +kernel)
theorem r_276_2914 : xfetch 276 2914 = some (.iconst 1, 1) := by decide +kernel
theorem n_276_2914 : ∀ l, xpr 276 2914 l = l := xpr_no (by decide +kernel)
theorem r_276_2915 : xfetch 276 2915 = some (.ireturn, 1) := by decide +kernel
theorem n_276_2915 : ∀ l, xpr 276 2915 l = l := xpr_no (by decide +kernel)
theorem v_Law_law_23 {S : Option (Nat × (Nat → Int32))} {L : Nat} {xs : Nat → Int32} (hS : S = some (L, xs)) {s : zSt} {Q : Option Value ⊕ Nat → zSt → Prop} {x4 : Int} 
    (h : rng x4 ∧ (rng ((L : Int) - 7) ∧ ((((L : Int) - 7) < x4 → Q (rI 1) s) ∧ (x4 ≤ ((L : Int) - 7) → (0 ≤ x4 ∧ x4 < (L : Int) ∧ rng x4) ∧ (((zand ((xs (x4).toNat).toInt) 63) = 0 → wp S 276 204 [(0, rf 0), (1, rf 2), (2, rf 252), (3, rf 275), (4, iv x4)] [] s Q) ∧ (((zand ((xs (x4).toNat).toInt) 63) = 1 → wp S 276 260 [(0, rf 0), (1, rf 2), (2, rf 252), (3, rf 275), (4, iv x4)] [] s Q) ∧ (((zand ((xs (x4).toNat).toInt) 63) = 2 → wp S 276 352 [(0, rf 0), (1, rf 2), (2, rf 252), (3, rf 275), (4, iv x4)] [] s Q) ∧ (((zand ((xs (x4).toNat).toInt) 63) = 3 → wp S 276 365 [(0, rf 0), (1, rf 2), (2, rf 252), (3, rf 275), (4, iv x4)] [] s Q) ∧ (((zand ((xs (x4).toNat).toInt) 63) = 4 → wp S 276 433 [(0, rf 0), (1, rf 2), (2, rf 252), (3, rf 275), (4, iv x4)] [] s Q) ∧ (((zand ((xs (x4).toNat).toInt) 63) = 5 → wp S 276 513 [(0, rf 0), (1, rf 2), (2, rf 252), (3, rf 275), (4, iv x4)] [] s Q) ∧ (((zand ((xs (x4).toNat).toInt) 63) = 6 → wp S 276 593 [(0, rf 0), (1, rf 2), (2, rf 252), (3, rf 275), (4, iv x4)] [] s Q) ∧ (((zand ((xs (x4).toNat).toInt) 63) = 7 → wp S 276 673 [(0, rf 0), (1, rf 2), (2, rf 252), (3, rf 275), (4, iv x4)] [] s Q) ∧ (((zand ((xs (x4).toNat).toInt) 63) = 8 → wp S 276 729 [(0, rf 0), (1, rf 2), (2, rf 252), (3, rf 275), (4, iv x4)] [] s Q) ∧ (((zand ((xs (x4).toNat).toInt) 63) = 9 → wp S 276 785 [(0, rf 0), (1, rf 2), (2, rf 252), (3, rf 275), (4, iv x4)] [] s Q) ∧ (((zand ((xs (x4).toNat).toInt) 63) = 10 → wp S 276 853 [(0, rf 0), (1, rf 2), (2, rf 252), (3, rf 275), (4, iv x4)] [] s Q) ∧ (((zand ((xs (x4).toNat).toInt) 63) = 11 → wp S 276 909 [(0, rf 0), (1, rf 2), (2, rf 252), (3, rf 275), (4, iv x4)] [] s Q) ∧ (((zand ((xs (x4).toNat).toInt) 63) = 12 → wp S 276 922 [(0, rf 0), (1, rf 2), (2, rf 252), (3, rf 275), (4, iv x4)] [] s Q) ∧ (((zand ((xs (x4).toNat).toInt) 63) = 13 → wp S 276 978 [(0, rf 0), (1, rf 2), (2, rf 252), (3, rf 275), (4, iv x4)] [] s Q) ∧ (((zand ((xs (x4).toNat).toInt) 63) = 14 → wp S 276 1070 [(0, rf 0), (1, rf 2), (2, rf 252), (3, rf 275), (4, iv x4)] [] s Q) ∧ (((zand ((xs (x4).toNat).toInt) 63) = 15 → wp S 276 1126 [(0, rf 0), (1, rf 2), (2, rf 252), (3, rf 275), (4, iv x4)] [] s Q) ∧ (((zand ((xs (x4).toNat).toInt) 63) = 16 → wp S 276 1139 [(0, rf 0), (1, rf 2), (2, rf 252), (3, rf 275), (4, iv x4)] [] s Q) ∧ (((zand ((xs (x4).toNat).toInt) 63) = 17 → wp S 276 1207 [(0, rf 0), (1, rf 2), (2, rf 252), (3, rf 275), (4, iv x4)] [] s Q) ∧ (((zand ((xs (x4).toNat).toInt) 63) = 18 → wp S 276 1287 [(0, rf 0), (1, rf 2), (2, rf 252), (3, rf 275), (4, iv x4)] [] s Q) ∧ (((zand ((xs (x4).toNat).toInt) 63) = 19 → wp S 276 1366 [(0, rf 0), (1, rf 2), (2, rf 252), (3, rf 275), (4, iv x4)] [] s Q) ∧ (((zand ((xs (x4).toNat).toInt) 63) = 20 → wp S 276 1489 [(0, rf 0), (1, rf 2), (2, rf 252), (3, rf 275), (4, iv x4)] [] s Q) ∧ (((zand ((xs (x4).toNat).toInt) 63) = 21 → wp S 276 1545 [(0, rf 0), (1, rf 2), (2, rf 252), (3, rf 275), (4, iv x4)] [] s Q) ∧ (((zand ((xs (x4).toNat).toInt) 63) = 22 → wp S 276 1613 [(0, rf 0), (1, rf 2), (2, rf 252), (3, rf 275), (4, iv x4)] [] s Q) ∧ (((zand ((xs (x4).toNat).toInt) 63) = 23 → wp S 276 1654 [(0, rf 0), (1, rf 2), (2, rf 252), (3, rf 275), (4, iv x4)] [] s Q) ∧ (((zand ((xs (x4).toNat).toInt) 63) = 24 → wp S 276 1734 [(0, rf 0), (1, rf 2), (2, rf 252), (3, rf 275), (4, iv x4)] [] s Q) ∧ (((zand ((xs (x4).toNat).toInt) 63) = 25 → wp S 276 1814 [(0, rf 0), (1, rf 2), (2, rf 252), (3, rf 275), (4, iv x4)] [] s Q) ∧ (((zand ((xs (x4).toNat).toInt) 63) = 26 → wp S 276 1827 [(0, rf 0), (1, rf 2), (2, rf 252), (3, rf 275), (4, iv x4)] [] s Q) ∧ (((zand ((xs (x4).toNat).toInt) 63) = 27 → wp S 276 1923 [(0, rf 0), (1, rf 2), (2, rf 252), (3, rf 275), (4, iv x4)] [] s Q) ∧ (((zand ((xs (x4).toNat).toInt) 63) = 28 → wp S 276 2081 [(0, rf 0), (1, rf 2), (2, rf 252), (3, rf 275), (4, iv x4)] [] s Q) ∧ (((zand ((xs (x4).toNat).toInt) 63) = 29 → wp S 276 2161 [(0, rf 0), (1, rf 2), (2, rf 252), (3, rf 275), (4, iv x4)] [] s Q) ∧ (((zand ((xs (x4).toNat).toInt) 63) = 30 → wp S 276 2285 [(0, rf 0), (1, rf 2), (2, rf 252), (3, rf 275), (4, iv x4)] [] s Q) ∧ (((zand ((xs (x4).toNat).toInt) 63) = 31 → wp S 276 2409 [(0, rf 0), (1, rf 2), (2, rf 252), (3, rf 275), (4, iv x4)] [] s Q) ∧ (((zand ((xs (x4).toNat).toInt) 63) = 32 → wp S 276 2476 [(0, rf 0), (1, rf 2), (2, rf 252), (3, rf 275), (4, iv x4)] [] s Q) ∧ (((zand ((xs (x4).toNat).toInt) 63) = 33 → wp S 276 2614 [(0, rf 0), (1, rf 2), (2, rf 252), (3, rf 275), (4, iv x4)] [] s Q) ∧ (((zand ((xs (x4).toNat).toInt) 63) = 34 → wp S 276 2738 [(0, rf 0), (1, rf 2), (2, rf 252), (3, rf 275), (4, iv x4)] [] s Q) ∧ (((zand ((xs (x4).toNat).toInt) 63) = 35 → wp S 276 2850 [(0, rf 0), (1, rf 2), (2, rf 252), (3, rf 275), (4, iv x4)] [] s Q) ∧ (((zand ((xs (x4).toNat).toInt) 63) = 36 → wp S 276 2894 [(0, rf 0), (1, rf 2), (2, rf 252), (3, rf 275), (4, iv x4)] [] s Q) ∧ ((((zand ((xs (x4).toNat).toInt) 63) < 0 ∨ 36 < (zand ((xs (x4).toNat).toInt) 63)) → wp S 276 23 [(0, rf 0), (1, rf 2), (2, rf 252), (3, rf 275), (4, iv (x4 + 7))] [] s Q))))))))))))))))))))))))))))))))))))))))))) :
    wp S 276 23 [(0, rf 0), (1, rf 2), (2, rf 252), (3, rf 275), (4, iv x4)] [] s Q := by
  refine i_iload (x := x4) r_276_23 rfl rfl ?_
  refine i_aload_n (a := 0) r_276_25 (n_276_25 _) rfl ?_
  refine i_scriptlen hS r_276_26 (n_276_26 _) ?_
  refine i_bipush r_276_27 (n_276_27 _) rfl ?_
  refine i_isub r_276_29 (n_276_29 _) ?_
  obtain ⟨g1, h⟩ := h
  obtain ⟨g2, h⟩ := h
  refine i_icmp (t := 2914) r_276_30 (n_276_30 _) rfl (T_gt g1 g2) (fun c3 => ?_) (fun c3 => ?_)
  · replace h := h.1 c3
    refine i_iconst r_276_2914 (n_276_2914 _) ?_
    exact i_zreturn r_276_2915 (n_276_2915 _) rfl (by decide) h
  · replace h := h.2 c3
    refine i_aload_n (a := 0) r_276_33 (n_276_33 _) rfl ?_
    refine i_iload (x := x4) r_276_34 (n_276_34 _) rfl ?_
    obtain ⟨g4, h⟩ := h
    refine i_script hS r_276_36 (n_276_36 _) g4.2.2 g4.1 g4.2.1 (fun q5 => ?_)
    refine i_bipush r_276_37 (n_276_37 _) rfl ?_
    refine i_iand r_276_39 (n_276_39 _) ?_
    rcases (by omega : (zand ((xs (x4).toNat).toInt) 63) = 0 ∨ (zand ((xs (x4).toNat).toInt) 63) = 1 ∨ (zand ((xs (x4).toNat).toInt) 63) = 2 ∨ (zand ((xs (x4).toNat).toInt) 63) = 3 ∨ (zand ((xs (x4).toNat).toInt) 63) = 4 ∨ (zand ((xs (x4).toNat).toInt) 63) = 5 ∨ (zand ((xs (x4).toNat).toInt) 63) = 6 ∨ (zand ((xs (x4).toNat).toInt) 63) = 7 ∨ (zand ((xs (x4).toNat).toInt) 63) = 8 ∨ (zand ((xs (x4).toNat).toInt) 63) = 9 ∨ (zand ((xs (x4).toNat).toInt) 63) = 10 ∨ (zand ((xs (x4).toNat).toInt) 63) = 11 ∨ (zand ((xs (x4).toNat).toInt) 63) = 12 ∨ (zand ((xs (x4).toNat).toInt) 63) = 13 ∨ (zand ((xs (x4).toNat).toInt) 63) = 14 ∨ (zand ((xs (x4).toNat).toInt) 63) = 15 ∨ (zand ((xs (x4).toNat).toInt) 63) = 16 ∨ (zand ((xs (x4).toNat).toInt) 63) = 17 ∨ (zand ((xs (x4).toNat).toInt) 63) = 18 ∨ (zand ((xs (x4).toNat).toInt) 63) = 19 ∨ (zand ((xs (x4).toNat).toInt) 63) = 20 ∨ (zand ((xs (x4).toNat).toInt) 63) = 21 ∨ (zand ((xs (x4).toNat).toInt) 63) = 22 ∨ (zand ((xs (x4).toNat).toInt) 63) = 23 ∨ (zand ((xs (x4).toNat).toInt) 63) = 24 ∨ (zand ((xs (x4).toNat).toInt) 63) = 25 ∨ (zand ((xs (x4).toNat).toInt) 63) = 26 ∨ (zand ((xs (x4).toNat).toInt) 63) = 27 ∨ (zand ((xs (x4).toNat).toInt) 63) = 28 ∨ (zand ((xs (x4).toNat).toInt) 63) = 29 ∨ (zand ((xs (x4).toNat).toInt) 63) = 30 ∨ (zand ((xs (x4).toNat).toInt) 63) = 31 ∨ (zand ((xs (x4).toNat).toInt) 63) = 32 ∨ (zand ((xs (x4).toNat).toInt) 63) = 33 ∨ (zand ((xs (x4).toNat).toInt) 63) = 34 ∨ (zand ((xs (x4).toNat).toInt) 63) = 35 ∨ (zand ((xs (x4).toNat).toInt) 63) = 36 ∨ ((zand ((xs (x4).toNat).toInt) 63) < 0 ∨ 36 < (zand ((xs (x4).toNat).toInt) 63))) with c6 | c6 | c6 | c6 | c6 | c6 | c6 | c6 | c6 | c6 | c6 | c6 | c6 | c6 | c6 | c6 | c6 | c6 | c6 | c6 | c6 | c6 | c6 | c6 | c6 | c6 | c6 | c6 | c6 | c6 | c6 | c6 | c6 | c6 | c6 | c6 | c6 | c6
    · replace h := h.1 c6
      refine i_sw_hit (kk := 0) (t := 204) r_276_40 (n_276_40 _) (by omega) (rng_to _) (by omega) rfl rfl ?_
      exact wp_pr (l' := [(0, rf 0), (1, rf 2), (2, rf 252), (3, rf 275), (4, iv x4)]) rfl h
    · replace h := h.2.1 c6
      refine i_sw_hit (kk := 1) (t := 260) r_276_40 (n_276_40 _) (by omega) (rng_to _) (by omega) rfl rfl ?_
      exact wp_pr (l' := [(0, rf 0), (1, rf 2), (2, rf 252), (3, rf 275), (4, iv x4)]) rfl h
    · replace h := h.2.2.1 c6
      refine i_sw_hit (kk := 2) (t := 352) r_276_40 (n_276_40 _) (by omega) (rng_to _) (by omega) rfl rfl ?_
      exact wp_pr (l' := [(0, rf 0), (1, rf 2), (2, rf 252), (3, rf 275), (4, iv x4)]) rfl h
    · replace h := h.2.2.2.1 c6
      refine i_sw_hit (kk := 3) (t := 365) r_276_40 (n_276_40 _) (by omega) (rng_to _) (by omega) rfl rfl ?_
      exact wp_pr (l' := [(0, rf 0), (1, rf 2), (2, rf 252), (3, rf 275), (4, iv x4)]) rfl h
    · replace h := h.2.2.2.2.1 c6
      refine i_sw_hit (kk := 4) (t := 433) r_276_40 (n_276_40 _) (by omega) (rng_to _) (by omega) rfl rfl ?_
      exact wp_pr (l' := [(0, rf 0), (1, rf 2), (2, rf 252), (3, rf 275), (4, iv x4)]) rfl h
    · replace h := h.2.2.2.2.2.1 c6
      refine i_sw_hit (kk := 5) (t := 513) r_276_40 (n_276_40 _) (by omega) (rng_to _) (by omega) rfl rfl ?_
      exact wp_pr (l' := [(0, rf 0), (1, rf 2), (2, rf 252), (3, rf 275), (4, iv x4)]) rfl h
    · replace h := h.2.2.2.2.2.2.1 c6
      refine i_sw_hit (kk := 6) (t := 593) r_276_40 (n_276_40 _) (by omega) (rng_to _) (by omega) rfl rfl ?_
      exact wp_pr (l' := [(0, rf 0), (1, rf 2), (2, rf 252), (3, rf 275), (4, iv x4)]) rfl h
    · replace h := h.2.2.2.2.2.2.2.1 c6
      refine i_sw_hit (kk := 7) (t := 673) r_276_40 (n_276_40 _) (by omega) (rng_to _) (by omega) rfl rfl ?_
      exact wp_pr (l' := [(0, rf 0), (1, rf 2), (2, rf 252), (3, rf 275), (4, iv x4)]) rfl h
    · replace h := h.2.2.2.2.2.2.2.2.1 c6
      refine i_sw_hit (kk := 8) (t := 729) r_276_40 (n_276_40 _) (by omega) (rng_to _) (by omega) rfl rfl ?_
      exact wp_pr (l' := [(0, rf 0), (1, rf 2), (2, rf 252), (3, rf 275), (4, iv x4)]) rfl h
    · replace h := h.2.2.2.2.2.2.2.2.2.1 c6
      refine i_sw_hit (kk := 9) (t := 785) r_276_40 (n_276_40 _) (by omega) (rng_to _) (by omega) rfl rfl ?_
      exact wp_pr (l' := [(0, rf 0), (1, rf 2), (2, rf 252), (3, rf 275), (4, iv x4)]) rfl h
    · replace h := h.2.2.2.2.2.2.2.2.2.2.1 c6
      refine i_sw_hit (kk := 10) (t := 853) r_276_40 (n_276_40 _) (by omega) (rng_to _) (by omega) rfl rfl ?_
      exact wp_pr (l' := [(0, rf 0), (1, rf 2), (2, rf 252), (3, rf 275), (4, iv x4)]) rfl h
    · replace h := h.2.2.2.2.2.2.2.2.2.2.2.1 c6
      refine i_sw_hit (kk := 11) (t := 909) r_276_40 (n_276_40 _) (by omega) (rng_to _) (by omega) rfl rfl ?_
      exact wp_pr (l' := [(0, rf 0), (1, rf 2), (2, rf 252), (3, rf 275), (4, iv x4)]) rfl h
    · replace h := h.2.2.2.2.2.2.2.2.2.2.2.2.1 c6
      refine i_sw_hit (kk := 12) (t := 922) r_276_40 (n_276_40 _) (by omega) (rng_to _) (by omega) rfl rfl ?_
      exact wp_pr (l' := [(0, rf 0), (1, rf 2), (2, rf 252), (3, rf 275), (4, iv x4)]) rfl h
    · replace h := h.2.2.2.2.2.2.2.2.2.2.2.2.2.1 c6
      refine i_sw_hit (kk := 13) (t := 978) r_276_40 (n_276_40 _) (by omega) (rng_to _) (by omega) rfl rfl ?_
      exact wp_pr (l' := [(0, rf 0), (1, rf 2), (2, rf 252), (3, rf 275), (4, iv x4)]) rfl h
    · replace h := h.2.2.2.2.2.2.2.2.2.2.2.2.2.2.1 c6
      refine i_sw_hit (kk := 14) (t := 1070) r_276_40 (n_276_40 _) (by omega) (rng_to _) (by omega) rfl rfl ?_
      exact wp_pr (l' := [(0, rf 0), (1, rf 2), (2, rf 252), (3, rf 275), (4, iv x4)]) rfl h
    · replace h := h.2.2.2.2.2.2.2.2.2.2.2.2.2.2.2.1 c6
      refine i_sw_hit (kk := 15) (t := 1126) r_276_40 (n_276_40 _) (by omega) (rng_to _) (by omega) rfl rfl ?_
      exact wp_pr (l' := [(0, rf 0), (1, rf 2), (2, rf 252), (3, rf 275), (4, iv x4)]) rfl h
    · replace h := h.2.2.2.2.2.2.2.2.2.2.2.2.2.2.2.2.1 c6
      refine i_sw_hit (kk := 16) (t := 1139) r_276_40 (n_276_40 _) (by omega) (rng_to _) (by omega) rfl rfl ?_
      exact wp_pr (l' := [(0, rf 0), (1, rf 2), (2, rf 252), (3, rf 275), (4, iv x4)]) rfl h
    · replace h := h.2.2.2.2.2.2.2.2.2.2.2.2.2.2.2.2.2.1 c6
      refine i_sw_hit (kk := 17) (t := 1207) r_276_40 (n_276_40 _) (by omega) (rng_to _) (by omega) rfl rfl ?_
      exact wp_pr (l' := [(0, rf 0), (1, rf 2), (2, rf 252), (3, rf 275), (4, iv x4)]) rfl h
    · replace h := h.2.2.2.2.2.2.2.2.2.2.2.2.2.2.2.2.2.2.1 c6
      refine i_sw_hit (kk := 18) (t := 1287) r_276_40 (n_276_40 _) (by omega) (rng_to _) (by omega) rfl rfl ?_
      exact wp_pr (l' := [(0, rf 0), (1, rf 2), (2, rf 252), (3, rf 275), (4, iv x4)]) rfl h
    · replace h := h.2.2.2.2.2.2.2.2.2.2.2.2.2.2.2.2.2.2.2.1 c6
      refine i_sw_hit (kk := 19) (t := 1366) r_276_40 (n_276_40 _) (by omega) (rng_to _) (by omega) rfl rfl ?_
      exact wp_pr (l' := [(0, rf 0), (1, rf 2), (2, rf 252), (3, rf 275), (4, iv x4)]) rfl h
    · replace h := h.2.2.2.2.2.2.2.2.2.2.2.2.2.2.2.2.2.2.2.2.1 c6
      refine i_sw_hit (kk := 20) (t := 1489) r_276_40 (n_276_40 _) (by omega) (rng_to _) (by omega) rfl rfl ?_
      exact wp_pr (l' := [(0, rf 0), (1, rf 2), (2, rf 252), (3, rf 275), (4, iv x4)]) rfl h
    · replace h := h.2.2.2.2.2.2.2.2.2.2.2.2.2.2.2.2.2.2.2.2.2.1 c6
      refine i_sw_hit (kk := 21) (t := 1545) r_276_40 (n_276_40 _) (by omega) (rng_to _) (by omega) rfl rfl ?_
      exact wp_pr (l' := [(0, rf 0), (1, rf 2), (2, rf 252), (3, rf 275), (4, iv x4)]) rfl h
    · replace h := h.2.2.2.2.2.2.2.2.2.2.2.2.2.2.2.2.2.2.2.2.2.2.1 c6
      refine i_sw_hit (kk := 22) (t := 1613) r_276_40 (n_276_40 _) (by omega) (rng_to _) (by omega) rfl rfl ?_
      exact wp_pr (l' := [(0, rf 0), (1, rf 2), (2, rf 252), (3, rf 275), (4, iv x4)]) rfl h
    · replace h := h.2.2.2.2.2.2.2.2.2.2.2.2.2.2.2.2.2.2.2.2.2.2.2.1 c6
      refine i_sw_hit (kk := 23) (t := 1654) r_276_40 (n_276_40 _) (by omega) (rng_to _) (by omega) rfl rfl ?_
      exact wp_pr (l' := [(0, rf 0), (1, rf 2), (2, rf 252), (3, rf 275), (4, iv x4)]) rfl h
    · replace h := h.2.2.2.2.2.2.2.2.2.2.2.2.2.2.2.2.2.2.2.2.2.2.2.2.1 c6
      refine i_sw_hit (kk := 24) (t := 1734) r_276_40 (n_276_40 _) (by omega) (rng_to _) (by omega) rfl rfl ?_
      exact wp_pr (l' := [(0, rf 0), (1, rf 2), (2, rf 252), (3, rf 275), (4, iv x4)]) rfl h
    · replace h := h.2.2.2.2.2.2.2.2.2.2.2.2.2.2.2.2.2.2.2.2.2.2.2.2.2.1 c6
      refine i_sw_hit (kk := 25) (t := 1814) r_276_40 (n_276_40 _) (by omega) (rng_to _) (by omega) rfl rfl ?_
      exact wp_pr (l' := [(0, rf 0), (1, rf 2), (2, rf 252), (3, rf 275), (4, iv x4)]) rfl h
    · replace h := h.2.2.2.2.2.2.2.2.2.2.2.2.2.2.2.2.2.2.2.2.2.2.2.2.2.2.1 c6
      refine i_sw_hit (kk := 26) (t := 1827) r_276_40 (n_276_40 _) (by omega) (rng_to _) (by omega) rfl rfl ?_
      exact wp_pr (l' := [(0, rf 0), (1, rf 2), (2, rf 252), (3, rf 275), (4, iv x4)]) rfl h
    · replace h := h.2.2.2.2.2.2.2.2.2.2.2.2.2.2.2.2.2.2.2.2.2.2.2.2.2.2.2.1 c6
      refine i_sw_hit (kk := 27) (t := 1923) r_276_40 (n_276_40 _) (by omega) (rng_to _) (by omega) rfl rfl ?_
      exact wp_pr (l' := [(0, rf 0), (1, rf 2), (2, rf 252), (3, rf 275), (4, iv x4)]) rfl h
    · replace h := h.2.2.2.2.2.2.2.2.2.2.2.2.2.2.2.2.2.2.2.2.2.2.2.2.2.2.2.2.1 c6
      refine i_sw_hit (kk := 28) (t := 2081) r_276_40 (n_276_40 _) (by omega) (rng_to _) (by omega) rfl rfl ?_
      exact wp_pr (l' := [(0, rf 0), (1, rf 2), (2, rf 252), (3, rf 275), (4, iv x4)]) rfl h
    · replace h := h.2.2.2.2.2.2.2.2.2.2.2.2.2.2.2.2.2.2.2.2.2.2.2.2.2.2.2.2.2.1 c6
      refine i_sw_hit (kk := 29) (t := 2161) r_276_40 (n_276_40 _) (by omega) (rng_to _) (by omega) rfl rfl ?_
      exact wp_pr (l' := [(0, rf 0), (1, rf 2), (2, rf 252), (3, rf 275), (4, iv x4)]) rfl h
    · replace h := h.2.2.2.2.2.2.2.2.2.2.2.2.2.2.2.2.2.2.2.2.2.2.2.2.2.2.2.2.2.2.1 c6
      refine i_sw_hit (kk := 30) (t := 2285) r_276_40 (n_276_40 _) (by omega) (rng_to _) (by omega) rfl rfl ?_
      exact wp_pr (l' := [(0, rf 0), (1, rf 2), (2, rf 252), (3, rf 275), (4, iv x4)]) rfl h
    · replace h := h.2.2.2.2.2.2.2.2.2.2.2.2.2.2.2.2.2.2.2.2.2.2.2.2.2.2.2.2.2.2.2.1 c6
      refine i_sw_hit (kk := 31) (t := 2409) r_276_40 (n_276_40 _) (by omega) (rng_to _) (by omega) rfl rfl ?_
      exact wp_pr (l' := [(0, rf 0), (1, rf 2), (2, rf 252), (3, rf 275), (4, iv x4)]) rfl h
    · replace h := h.2.2.2.2.2.2.2.2.2.2.2.2.2.2.2.2.2.2.2.2.2.2.2.2.2.2.2.2.2.2.2.2.1 c6
      refine i_sw_hit (kk := 32) (t := 2476) r_276_40 (n_276_40 _) (by omega) (rng_to _) (by omega) rfl rfl ?_
      exact wp_pr (l' := [(0, rf 0), (1, rf 2), (2, rf 252), (3, rf 275), (4, iv x4)]) rfl h
    · replace h := h.2.2.2.2.2.2.2.2.2.2.2.2.2.2.2.2.2.2.2.2.2.2.2.2.2.2.2.2.2.2.2.2.2.1 c6
      refine i_sw_hit (kk := 33) (t := 2614) r_276_40 (n_276_40 _) (by omega) (rng_to _) (by omega) rfl rfl ?_
      exact wp_pr (l' := [(0, rf 0), (1, rf 2), (2, rf 252), (3, rf 275), (4, iv x4)]) rfl h
    · replace h := h.2.2.2.2.2.2.2.2.2.2.2.2.2.2.2.2.2.2.2.2.2.2.2.2.2.2.2.2.2.2.2.2.2.2.1 c6
      refine i_sw_hit (kk := 34) (t := 2738) r_276_40 (n_276_40 _) (by omega) (rng_to _) (by omega) rfl rfl ?_
      exact wp_pr (l' := [(0, rf 0), (1, rf 2), (2, rf 252), (3, rf 275), (4, iv x4)]) rfl h
    · replace h := h.2.2.2.2.2.2.2.2.2.2.2.2.2.2.2.2.2.2.2.2.2.2.2.2.2.2.2.2.2.2.2.2.2.2.2.1 c6
      refine i_sw_hit (kk := 35) (t := 2850) r_276_40 (n_276_40 _) (by omega) (rng_to _) (by omega) rfl rfl ?_
      exact wp_pr (l' := [(0, rf 0), (1, rf 2), (2, rf 252), (3, rf 275), (4, iv x4)]) rfl h
    · replace h := h.2.2.2.2.2.2.2.2.2.2.2.2.2.2.2.2.2.2.2.2.2.2.2.2.2.2.2.2.2.2.2.2.2.2.2.2.1 c6
      refine i_sw_hit (kk := 36) (t := 2894) r_276_40 (n_276_40 _) (by omega) (rng_to _) (by omega) rfl rfl ?_
      exact wp_pr (l' := [(0, rf 0), (1, rf 2), (2, rf 252), (3, rf 275), (4, iv x4)]) rfl h
    · replace h := h.2.2.2.2.2.2.2.2.2.2.2.2.2.2.2.2.2.2.2.2.2.2.2.2.2.2.2.2.2.2.2.2.2.2.2.2.2 c6
      refine i_sw_out (t := 2908) r_276_40 (n_276_40 _) c6 (rng_to _) rfl ?_
      refine i_iinc (x := x4) (l' := [(0, rf 0), (1, rf 2), (2, rf 252), (3, rf 275), (4, iv (x4 + 7))]) r_276_2908 (n_276_2908 _) (by decide) rfl rfl ?_
      refine i_goto (t := 23) r_276_2911 (n_276_2911 _) rfl ?_
      exact wp_pr (l' := [(0, rf 0), (1, rf 2), (2, rf 252), (3, rf 275), (4, iv (x4 + 7))]) rfl h
theorem v_Law_law_204 {S : Option (Nat × (Nat → Int32))} {L : Nat} {xs : Nat → Int32} (hS : S = some (L, xs)) {s : zSt} {Q : Option Value ⊕ Nat → zSt → Prop} {x4 : Int} 
    (h : (0 ≤ (x4 + 1) ∧ (x4 + 1) < (L : Int) ∧ rng (x4 + 1)) ∧ (wp S 34 0 [(0, rf 2), (1, iv ((xs (x4 + 1).toNat).toInt)), (2, rf 275)] [] s (fun o3 s3 => zkI (fun y3 => wp S 180 0 [(0, rf 252), (1, iv ((xs (x4 + 1).toNat).toInt))] [] s3 (fun o6 s6 => zkI (fun y6 => ((zI s6 252 3) = y3 → (y3 ≠ 0 → wp S 276 23 [(0, rf 0), (1, rf 2), (2, rf 252), (3, rf 275), (4, iv (x4 + 7))] [] s6 Q) ∧ (y3 = 0 → ((zcmp (zL s6 275 0) (zi2l y6)) = 0 → wp S 276 23 [(0, rf 0), (1, rf 2), (2, rf 252), (3, rf 275), (4, iv (x4 + 7))] [] s6 Q) ∧ ((zcmp (zL s6 275 0) (zi2l y6)) ≠ 0 → Q (rI 0) s6))) ∧ ((zI s6 252 3) ≠ y3 → Q (rI 0) s6)) (fun e6 => False) o6)) (fun e3 => False) o3))) :
    wp S 276 204 [(0, rf 0), (1, rf 2), (2, rf 252), (3, rf 275), (4, iv x4)] [] s Q := by
  refine i_aload_n (a := 2) r_276_204 rfl rfl ?_
  refine i_aload_n (a := 0) r_276_205 (n_276_205 _) rfl ?_
  refine i_iload (x := x4) r_276_206 (n_276_206 _) rfl ?_
  refine i_iconst r_276_208 (n_276_208 _) ?_
  refine i_iadd r_276_209 (n_276_209 _) ?_
  obtain ⟨g1, h⟩ := h
  refine i_script hS r_276_210 (n_276_210 _) g1.2.2 g1.1 g1.2.1 (fun q2 => ?_)
  refine i_aload_n (a := 275) r_276_211 (n_276_211 _) rfl ?_
  refine wp_stat (rest := []) (Ls := [(0, rf 2), (1, iv ((xs (x4 + 1).toNat).toInt)), (2, rf 275)]) r_276_212 (n_276_212 _) rfl ⟨rfl, by decide, by decide, by decide⟩ rfl rfl ⟨rfl, Nat.le_of_ble_eq_true rfl, Nat.le_of_ble_eq_true rfl⟩ rfl h ?_
  intro o3 s3 h
  rcases h with ⟨y3, q4, rfl, h⟩ | ⟨e3, rfl, h⟩
  · refine .inl ⟨some (iv y3), rfl, ?_⟩
    show wp S 276 215 [(0, rf 0), (1, rf 2), (2, rf 252), (3, rf 275), (4, iv x4)] [iv y3] s3 Q
    refine i_istore (l' := [(0, rf 0), (1, rf 2), (2, rf 252), (3, rf 275), (4, iv x4), (5, iv y3)]) r_276_215 (n_276_215 _) (by decide) rfl ?_
    refine i_aload_n (a := 252) r_276_217 (n_276_217 _) rfl ?_
    refine i_aload_n (a := 0) r_276_218 (n_276_218 _) rfl ?_
    refine i_iload (x := x4) r_276_219 (n_276_219 _) rfl ?_
    refine i_iconst r_276_221 (n_276_221 _) ?_
    refine i_iadd r_276_222 (n_276_222 _) ?_
    refine i_script hS r_276_223 (n_276_223 _) g1.2.2 g1.1 g1.2.1 (fun q5 => ?_)
    refine wp_virt (b := 252) (rest := []) (Ls := [(0, rf 252), (1, iv ((xs (x4 + 1).toNat).toInt))]) r_276_224 (n_276_224 _) rfl ⟨rfl, rfl, by decide, by decide⟩ rfl rfl lf_252 ⟨rfl, Nat.le_of_ble_eq_true rfl, Nat.le_of_ble_eq_true rfl⟩ rfl h ?_
    intro o6 s6 h
    rcases h with ⟨y6, q7, rfl, h⟩ | ⟨e6, rfl, h⟩
    · refine .inl ⟨some (iv y6), rfl, ?_⟩
      show wp S 276 227 [(0, rf 0), (1, rf 2), (2, rf 252), (3, rf 275), (4, iv x4), (5, iv y3)] [iv y6] s6 Q
      refine i_istore (l' := [(0, rf 0), (1, rf 2), (2, rf 252), (3, rf 275), (4, iv x4), (5, iv y3), (6, iv y6)]) r_276_227 (n_276_227 _) (by decide) rfl ?_
      refine i_aload_n (a := 252) r_276_229 (n_276_229 _) rfl ?_
      refine wp_virt (b := 252) (rest := []) (Ls := [(0, rf 252)]) r_276_230 (n_276_230 _) rfl ⟨rfl, rfl, by decide, by decide⟩ rfl rfl lf_252 ⟨rfl, Nat.le_of_ble_eq_true rfl, Nat.le_of_ble_eq_true rfl⟩ rfl K_Model_thrown ?_
      rintro _ _ ⟨rfl, rfl⟩
      refine .inl ⟨some (iv (zI s6 252 3)), rfl, ?_⟩
      show wp S 276 233 [(0, rf 0), (1, rf 2), (2, rf 252), (3, rf 275), (4, iv x4), (5, iv y3), (6, iv y6)] [iv (zI s6 252 3)] s6 Q
      refine wp_rd (a := 252) (j := 3) (fun q9 => ?_)
      refine i_iload (x := y3) r_276_233 (n_276_233 _) rfl ?_
      refine i_icmp (t := 240) r_276_235 (n_276_235 _) rfl (T_eq q9 q4) (fun c10 => ?_) (fun c10 => ?_)
      · replace h := h.1 c10
        refine i_iload (x := y3) r_276_240 (n_276_240 _) rfl ?_
        refine i_if (t := 257) r_276_242 (n_276_242 _) rfl (T_ne q4 ⟨by omega, by omega⟩) (fun c11 => ?_) (fun c11 => ?_)
        · replace h := h.1 c11
          refine i_goto (t := 2908) r_276_257 (n_276_257 _) rfl ?_
          refine i_iinc (x := x4) (l' := [(0, rf 0), (1, rf 2), (2, rf 252), (3, rf 275), (4, iv (x4 + 7)), (5, iv y3), (6, iv y6)]) r_276_2908 (n_276_2908 _) (by decide) rfl rfl ?_
          refine i_goto (t := 23) r_276_2911 (n_276_2911 _) rfl ?_
          exact wp_pr (l' := [(0, rf 0), (1, rf 2), (2, rf 252), (3, rf 275), (4, iv (x4 + 7))]) rfl h
        · replace h := h.2 c11
          refine i_aload_n (a := 275) r_276_245 (n_276_245 _) rfl ?_
          refine i_iconst r_276_246 (n_276_246 _) ?_
          refine i_laload (a := 275) (j := 0) r_276_247 (n_276_247 _) lf_275 ⟨by omega, by omega⟩ (by omega) (by omega) ?_
          refine i_iload (x := y6) r_276_248 (n_276_248 _) rfl ?_
          refine i_i2l r_276_250 (n_276_250 _) ?_
          refine i_lcmp r_276_251 (n_276_251 _) ?_
          refine i_if (t := 257) r_276_252 (n_276_252 _) rfl (T_eq (zcmp_rng _ _) ⟨by omega, by omega⟩) (fun c12 => ?_) (fun c12 => ?_)
          · replace h := h.1 c12
            refine i_goto (t := 2908) r_276_257 (n_276_257 _) rfl ?_
            refine i_iinc (x := x4) (l' := [(0, rf 0), (1, rf 2), (2, rf 252), (3, rf 275), (4, iv (x4 + 7)), (5, iv y3), (6, iv y6)]) r_276_2908 (n_276_2908 _) (by decide) rfl rfl ?_
            refine i_goto (t := 23) r_276_2911 (n_276_2911 _) rfl ?_
            exact wp_pr (l' := [(0, rf 0), (1, rf 2), (2, rf 252), (3, rf 275), (4, iv (x4 + 7))]) rfl h
          · replace h := h.2 c12
            refine i_iconst r_276_255 (n_276_255 _) ?_
            exact i_zreturn r_276_256 (n_276_256 _) rfl (by decide) h
      · replace h := h.2 c10
        refine i_iconst r_276_238 (n_276_238 _) ?_
        exact i_zreturn r_276_239 (n_276_239 _) rfl (by decide) h
    · skip
      exact h.elim
  · skip
    exact h.elim
theorem v_Law_law_260 {S : Option (Nat × (Nat → Int32))} {L : Nat} {xs : Nat → Int32} (hS : S = some (L, xs)) {s : zSt} {Q : Option Value ⊕ Nat → zSt → Prop} {x4 : Int} 
    (h : (0 ≤ (x4 + 1) ∧ (x4 + 1) < (L : Int) ∧ rng (x4 + 1)) ∧ ((0 ≤ (x4 + 2) ∧ (x4 + 2) < (L : Int) ∧ rng (x4 + 2)) ∧ ((0 ≤ (x4 + 3) ∧ (x4 + 3) < (L : Int) ∧ rng (x4 + 3)) ∧ ((0 ≤ (x4 + 4) ∧ (x4 + 4) < (L : Int) ∧ rng (x4 + 4)) ∧ (wp S 52 0 [(0, rf 2), (1, iv ((xs (x4 + 1).toNat).toInt)), (2, iv ((xs (x4 + 2).toNat).toInt)), (3, iv ((xs (x4 + 3).toNat).toInt)), (4, iv ((xs (x4 + 4).toNat).toInt)), (5, rf 275)] [] s (fun o9 s9 => zkI (fun y9 => wp S 185 0 [(0, rf 252), (1, iv ((xs (x4 + 1).toNat).toInt)), (2, iv ((xs (x4 + 2).toNat).toInt)), (3, iv ((xs (x4 + 3).toNat).toInt)), (4, iv ((xs (x4 + 4).toNat).toInt))] [] s9 (fun o15 s15 => zkI (fun y15 => ((zI s15 252 3) = y9 → (y9 ≠ 0 → wp S 276 23 [(0, rf 0), (1, rf 2), (2, rf 252), (3, rf 275), (4, iv (x4 + 7))] [] s15 Q) ∧ (y9 = 0 → ((zcmp (zL s15 275 0) (zi2l y15)) = 0 → wp S 276 23 [(0, rf 0), (1, rf 2), (2, rf 252), (3, rf 275), (4, iv (x4 + 7))] [] s15 Q) ∧ ((zcmp (zL s15 275 0) (zi2l y15)) ≠ 0 → Q (rI 0) s15))) ∧ ((zI s15 252 3) ≠ y9 → Q (rI 0) s15)) (fun e15 => False) o15)) (fun e9 => False) o9)))))) :
    wp S 276 260 [(0, rf 0), (1, rf 2), (2, rf 252), (3, rf 275), (4, iv x4)] [] s Q := by
  refine i_aload_n (a := 2) r_276_260 rfl rfl ?_
  refine i_aload_n (a := 0) r_276_261 (n_276_261 _) rfl ?_
  refine i_iload (x := x4) r_276_262 (n_276_262 _) rfl ?_
  refine i_iconst r_276_264 (n_276_264 _) ?_
  refine i_iadd r_276_265 (n_276_265 _) ?_
  obtain ⟨g1, h⟩ := h
  refine i_script hS r_276_266 (n_276_266 _) g1.2.2 g1.1 g1.2.1 (fun q2 => ?_)
  refine i_aload_n (a := 0) r_276_267 (n_276_267 _) rfl ?_
  refine i_iload (x := x4) r_276_268 (n_276_268 _) rfl ?_
  refine i_iconst r_276_270 (n_276_270 _) ?_
  refine i_iadd r_276_271 (n_276_271 _) ?_
  obtain ⟨g3, h⟩ := h
  refine i_script hS r_276_272 (n_276_272 _) g3.2.2 g3.1 g3.2.1 (fun q4 => ?_)
  refine i_aload_n (a := 0) r_276_273 (n_276_273 _) rfl ?_
  refine i_iload (x := x4) r_276_274 (n_276_274 _) rfl ?_
  refine i_iconst r_276_276 (n_276_276 _) ?_
  refine i_iadd r_276_277 (n_276_277 _) ?_
  obtain ⟨g5, h⟩ := h
  refine i_script hS r_276_278 (n_276_278 _) g5.2.2 g5.1 g5.2.1 (fun q6 => ?_)
  refine i_aload_n (a := 0) r_276_279 (n_276_279 _) rfl ?_
  refine i_iload (x := x4) r_276_280 (n_276_280 _) rfl ?_
  refine i_iconst r_276_282 (n_276_282 _) ?_
  refine i_iadd r_276_283 (n_276_283 _) ?_
  obtain ⟨g7, h⟩ := h
  refine i_script hS r_276_284 (n_276_284 _) g7.2.2 g7.1 g7.2.1 (fun q8 => ?_)
  refine i_aload_n (a := 275) r_276_285 (n_276_285 _) rfl ?_
  refine wp_stat (rest := []) (Ls := [(0, rf 2), (1, iv ((xs (x4 + 1).toNat).toInt)), (2, iv ((xs (x4 + 2).toNat).toInt)), (3, iv ((xs (x4 + 3).toNat).toInt)), (4, iv ((xs (x4 + 4).toNat).toInt)), (5, rf 275)]) r_276_286 (n_276_286 _) rfl ⟨rfl, by decide, by decide, by decide⟩ rfl rfl ⟨rfl, Nat.le_of_ble_eq_true rfl, Nat.le_of_ble_eq_true rfl⟩ rfl h ?_
  intro o9 s9 h
  rcases h with ⟨y9, q10, rfl, h⟩ | ⟨e9, rfl, h⟩
  · refine .inl ⟨some (iv y9), rfl, ?_⟩
    show wp S 276 289 [(0, rf 0), (1, rf 2), (2, rf 252), (3, rf 275), (4, iv x4)] [iv y9] s9 Q
    refine i_istore (l' := [(0, rf 0), (1, rf 2), (2, rf 252), (3, rf 275), (4, iv x4), (5, iv y9)]) r_276_289 (n_276_289 _) (by decide) rfl ?_
    refine i_aload_n (a := 252) r_276_291 (n_276_291 _) rfl ?_
    refine i_aload_n (a := 0) r_276_292 (n_276_292 _) rfl ?_
    refine i_iload (x := x4) r_276_293 (n_276_293 _) rfl ?_
    refine i_iconst r_276_295 (n_276_295 _) ?_
    refine i_iadd r_276_296 (n_276_296 _) ?_
    refine i_script hS r_276_297 (n_276_297 _) g1.2.2 g1.1 g1.2.1 (fun q11 => ?_)
    refine i_aload_n (a := 0) r_276_298 (n_276_298 _) rfl ?_
    refine i_iload (x := x4) r_276_299 (n_276_299 _) rfl ?_
    refine i_iconst r_276_301 (n_276_301 _) ?_
    refine i_iadd r_276_302 (n_276_302 _) ?_
    refine i_script hS r_276_303 (n_276_303 _) g3.2.2 g3.1 g3.2.1 (fun q12 => ?_)
    refine i_aload_n (a := 0) r_276_304 (n_276_304 _) rfl ?_
    refine i_iload (x := x4) r_276_305 (n_276_305 _) rfl ?_
    refine i_iconst r_276_307 (n_276_307 _) ?_
    refine i_iadd r_276_308 (n_276_308 _) ?_
    refine i_script hS r_276_309 (n_276_309 _) g5.2.2 g5.1 g5.2.1 (fun q13 => ?_)
    refine i_aload_n (a := 0) r_276_310 (n_276_310 _) rfl ?_
    refine i_iload (x := x4) r_276_311 (n_276_311 _) rfl ?_
    refine i_iconst r_276_313 (n_276_313 _) ?_
    refine i_iadd r_276_314 (n_276_314 _) ?_
    refine i_script hS r_276_315 (n_276_315 _) g7.2.2 g7.1 g7.2.1 (fun q14 => ?_)
    refine wp_virt (b := 252) (rest := []) (Ls := [(0, rf 252), (1, iv ((xs (x4 + 1).toNat).toInt)), (2, iv ((xs (x4 + 2).toNat).toInt)), (3, iv ((xs (x4 + 3).toNat).toInt)), (4, iv ((xs (x4 + 4).toNat).toInt))]) r_276_316 (n_276_316 _) rfl ⟨rfl, rfl, by decide, by decide⟩ rfl rfl lf_252 ⟨rfl, Nat.le_of_ble_eq_true rfl, Nat.le_of_ble_eq_true rfl⟩ rfl h ?_
    intro o15 s15 h
    rcases h with ⟨y15, q16, rfl, h⟩ | ⟨e15, rfl, h⟩
    · refine .inl ⟨some (iv y15), rfl, ?_⟩
      show wp S 276 319 [(0, rf 0), (1, rf 2), (2, rf 252), (3, rf 275), (4, iv x4), (5, iv y9)] [iv y15] s15 Q
      refine i_istore (l' := [(0, rf 0), (1, rf 2), (2, rf 252), (3, rf 275), (4, iv x4), (5, iv y9), (6, iv y15)]) r_276_319 (n_276_319 _) (by decide) rfl ?_
      refine i_aload_n (a := 252) r_276_321 (n_276_321 _) rfl ?_
      refine wp_virt (b := 252) (rest := []) (Ls := [(0, rf 252)]) r_276_322 (n_276_322 _) rfl ⟨rfl, rfl, by decide, by decide⟩ rfl rfl lf_252 ⟨rfl, Nat.le_of_ble_eq_true rfl, Nat.le_of_ble_eq_true rfl⟩ rfl K_Model_thrown ?_
      rintro _ _ ⟨rfl, rfl⟩
      refine .inl ⟨some (iv (zI s15 252 3)), rfl, ?_⟩
      show wp S 276 325 [(0, rf 0), (1, rf 2), (2, rf 252), (3, rf 275), (4, iv x4), (5, iv y9), (6, iv y15)] [iv (zI s15 252 3)] s15 Q
      refine wp_rd (a := 252) (j := 3) (fun q18 => ?_)
      refine i_iload (x := y9) r_276_325 (n_276_325 _) rfl ?_
      refine i_icmp (t := 332) r_276_327 (n_276_327 _) rfl (T_eq q18 q10) (fun c19 => ?_) (fun c19 => ?_)
      · replace h := h.1 c19
        refine i_iload (x := y9) r_276_332 (n_276_332 _) rfl ?_
        refine i_if (t := 349) r_276_334 (n_276_334 _) rfl (T_ne q10 ⟨by omega, by omega⟩) (fun c20 => ?_) (fun c20 => ?_)
        · replace h := h.1 c20
          refine i_goto (t := 2908) r_276_349 (n_276_349 _) rfl ?_
          refine i_iinc (x := x4) (l' := [(0, rf 0), (1, rf 2), (2, rf 252), (3, rf 275), (4, iv (x4 + 7)), (5, iv y9), (6, iv y15)]) r_276_2908 (n_276_2908 _) (by decide) rfl rfl ?_
          refine i_goto (t := 23) r_276_2911 (n_276_2911 _) rfl ?_
          exact wp_pr (l' := [(0, rf 0), (1, rf 2), (2, rf 252), (3, rf 275), (4, iv (x4 + 7))]) rfl h
        · replace h := h.2 c20
          refine i_aload_n (a := 275) r_276_337 (n_276_337 _) rfl ?_
          refine i_iconst r_276_338 (n_276_338 _) ?_
          refine i_laload (a := 275) (j := 0) r_276_339 (n_276_339 _) lf_275 ⟨by omega, by omega⟩ (by omega) (by omega) ?_
          refine i_iload (x := y15) r_276_340 (n_276_340 _) rfl ?_
          refine i_i2l r_276_342 (n_276_342 _) ?_
          refine i_lcmp r_276_343 (n_276_343 _) ?_
          refine i_if (t := 349) r_276_344 (n_276_344 _) rfl (T_eq (zcmp_rng _ _) ⟨by omega, by omega⟩) (fun c21 => ?_) (fun c21 => ?_)
          · replace h := h.1 c21
            refine i_goto (t := 2908) r_276_349 (n_276_349 _) rfl ?_
            refine i_iinc (x := x4) (l' := [(0, rf 0), (1, rf 2), (2, rf 252), (3, rf 275), (4, iv (x4 + 7)), (5, iv y9), (6, iv y15)]) r_276_2908 (n_276_2908 _) (by decide) rfl rfl ?_
            refine i_goto (t := 23) r_276_2911 (n_276_2911 _) rfl ?_
            exact wp_pr (l' := [(0, rf 0), (1, rf 2), (2, rf 252), (3, rf 275), (4, iv (x4 + 7))]) rfl h
          · replace h := h.2 c21
            refine i_iconst r_276_347 (n_276_347 _) ?_
            exact i_zreturn r_276_348 (n_276_348 _) rfl (by decide) h
      · replace h := h.2 c19
        refine i_iconst r_276_330 (n_276_330 _) ?_
        exact i_zreturn r_276_331 (n_276_331 _) rfl (by decide) h
    · skip
      exact h.elim
  · skip
    exact h.elim
theorem v_Law_law_352 {S : Option (Nat × (Nat → Int32))} {L : Nat} {xs : Nat → Int32} (hS : S = some (L, xs)) {s : zSt} {Q : Option Value ⊕ Nat → zSt → Prop} {x4 : Int} 
    (h : wp S 10 0 [(0, rf 2)] [] s (fun o1 s1 => zkI (fun y1 => wp S 204 0 [(0, rf 252)] [] s1 (fun o3 s3 => zkI (fun y3 => (y1 = y3 → wp S 276 23 [(0, rf 0), (1, rf 2), (2, rf 252), (3, rf 275), (4, iv (x4 + 7))] [] s3 Q) ∧ (y1 ≠ y3 → Q (rI 0) s3)) (fun e3 => False) o3)) (fun e1 => False) o1)) :
    wp S 276 352 [(0, rf 0), (1, rf 2), (2, rf 252), (3, rf 275), (4, iv x4)] [] s Q := by
  refine i_aload_n (a := 2) r_276_352 rfl rfl ?_
  refine wp_virt (b := 2) (rest := []) (Ls := [(0, rf 2)]) r_276_353 (n_276_353 _) rfl ⟨rfl, rfl, by decide, by decide⟩ rfl rfl lf_2 ⟨rfl, Nat.le_of_ble_eq_true rfl, Nat.le_of_ble_eq_true rfl⟩ rfl h ?_
  intro o1 s1 h
  rcases h with ⟨y1, q2, rfl, h⟩ | ⟨e1, rfl, h⟩
  · refine .inl ⟨some (iv y1), rfl, ?_⟩
    show wp S 276 356 [(0, rf 0), (1, rf 2), (2, rf 252), (3, rf 275), (4, iv x4)] [iv y1] s1 Q
    refine i_aload_n (a := 252) r_276_356 (n_276_356 _) rfl ?_
    refine wp_virt (b := 252) (rest := [iv y1]) (Ls := [(0, rf 252)]) r_276_357 (n_276_357 _) rfl ⟨rfl, rfl, by decide, by decide⟩ rfl rfl lf_252 ⟨rfl, Nat.le_of_ble_eq_true rfl, Nat.le_of_ble_eq_true rfl⟩ rfl h ?_
    intro o3 s3 h
    rcases h with ⟨y3, q4, rfl, h⟩ | ⟨e3, rfl, h⟩
    · refine .inl ⟨some (iv y3), rfl, ?_⟩
      show wp S 276 360 [(0, rf 0), (1, rf 2), (2, rf 252), (3, rf 275), (4, iv x4)] [iv y3, iv y1] s3 Q
      refine i_icmp (t := 2908) r_276_360 (n_276_360 _) rfl (T_eq q2 q4) (fun c5 => ?_) (fun c5 => ?_)
      · replace h := h.1 c5
        refine i_iinc (x := x4) (l' := [(0, rf 0), (1, rf 2), (2, rf 252), (3, rf 275), (4, iv (x4 + 7))]) r_276_2908 (n_276_2908 _) (by decide) rfl rfl ?_
        refine i_goto (t := 23) r_276_2911 (n_276_2911 _) rfl ?_
        exact wp_pr (l' := [(0, rf 0), (1, rf 2), (2, rf 252), (3, rf 275), (4, iv (x4 + 7))]) rfl h
      · replace h := h.2 c5
        refine i_iconst r_276_363 (n_276_363 _) ?_
        exact i_zreturn r_276_364 (n_276_364 _) rfl (by decide) h
    · skip
      exact h.elim
  · skip
    exact h.elim
theorem v_Law_law_365 {S : Option (Nat × (Nat → Int32))} {L : Nat} {xs : Nat → Int32} (hS : S = some (L, xs)) {s : zSt} {Q : Option Value ⊕ Nat → zSt → Prop} {x4 : Int} 
    (h : (0 ≤ (x4 + 1) ∧ (x4 + 1) < (L : Int) ∧ rng (x4 + 1)) ∧ ((0 ≤ (x4 + 2) ∧ (x4 + 2) < (L : Int) ∧ rng (x4 + 2)) ∧ (wp S 58 0 [(0, rf 2), (1, iv ((xs (x4 + 1).toNat).toInt)), (2, iv ((xs (x4 + 2).toNat).toInt)), (3, rf 275)] [] s (fun o5 s5 => zkI (fun y5 => wp S 205 0 [(0, rf 252), (1, iv ((xs (x4 + 1).toNat).toInt)), (2, iv ((xs (x4 + 2).toNat).toInt))] [] s5 (fun o9 s9 => zkI (fun y9 => ((zI s9 252 3) = y5 → (y5 ≠ 0 → wp S 276 23 [(0, rf 0), (1, rf 2), (2, rf 252), (3, rf 275), (4, iv (x4 + 7))] [] s9 Q) ∧ (y5 = 0 → ((zcmp (zL s9 275 0) (zi2l y9)) = 0 → wp S 276 23 [(0, rf 0), (1, rf 2), (2, rf 252), (3, rf 275), (4, iv (x4 + 7))] [] s9 Q) ∧ ((zcmp (zL s9 275 0) (zi2l y9)) ≠ 0 → Q (rI 0) s9))) ∧ ((zI s9 252 3) ≠ y5 → Q (rI 0) s9)) (fun e9 => False) o9)) (fun e5 => False) o5)))) :
    wp S 276 365 [(0, rf 0), (1, rf 2), (2, rf 252), (3, rf 275), (4, iv x4)] [] s Q := by
  refine i_aload_n (a := 2) r_276_365 rfl rfl ?_
  refine i_aload_n (a := 0) r_276_366 (n_276_366 _) rfl ?_
  refine i_iload (x := x4) r_276_367 (n_276_367 _) rfl ?_
  refine i_iconst r_276_369 (n_276_369 _) ?_
  refine i_iadd r_276_370 (n_276_370 _) ?_
  obtain ⟨g1, h⟩ := h
  refine i_script hS r_276_371 (n_276_371 _) g1.2.2 g1.1 g1.2.1 (fun q2 => ?_)
  refine i_aload_n (a := 0) r_276_372 (n_276_372 _) rfl ?_
  refine i_iload (x := x4) r_276_373 (n_276_373 _) rfl ?_
  refine i_iconst r_276_375 (n_276_375 _) ?_
  refine i_iadd r_276_376 (n_276_376 _) ?_
  obtain ⟨g3, h⟩ := h
  refine i_script hS r_276_377 (n_276_377 _) g3.2.2 g3.1 g3.2.1 (fun q4 => ?_)
  refine i_aload_n (a := 275) r_276_378 (n_276_378 _) rfl ?_
  refine wp_stat (rest := []) (Ls := [(0, rf 2), (1, iv ((xs (x4 + 1).toNat).toInt)), (2, iv ((xs (x4 + 2).toNat).toInt)), (3, rf 275)]) r_276_379 (n_276_379 _) rfl ⟨rfl, by decide, by decide, by decide⟩ rfl rfl ⟨rfl, Nat.le_of_ble_eq_true rfl, Nat.le_of_ble_eq_true rfl⟩ rfl h ?_
  intro o5 s5 h
  rcases h with ⟨y5, q6, rfl, h⟩ | ⟨e5, rfl, h⟩
  · refine .inl ⟨some (iv y5), rfl, ?_⟩
    show wp S 276 382 [(0, rf 0), (1, rf 2), (2, rf 252), (3, rf 275), (4, iv x4)] [iv y5] s5 Q
    refine i_istore (l' := [(0, rf 0), (1, rf 2), (2, rf 252), (3, rf 275), (4, iv x4), (5, iv y5)]) r_276_382 (n_276_382 _) (by decide) rfl ?_
    refine i_aload_n (a := 252) r_276_384 (n_276_384 _) rfl ?_
    refine i_aload_n (a := 0) r_276_385 (n_276_385 _) rfl ?_
    refine i_iload (x := x4) r_276_386 (n_276_386 _) rfl ?_
    refine i_iconst r_276_388 (n_276_388 _) ?_
    refine i_iadd r_276_389 (n_276_389 _) ?_
    refine i_script hS r_276_390 (n_276_390 _) g1.2.2 g1.1 g1.2.1 (fun q7 => ?_)
    refine i_aload_n (a := 0) r_276_391 (n_276_391 _) rfl ?_
    refine i_iload (x := x4) r_276_392 (n_276_392 _) rfl ?_
    refine i_iconst r_276_394 (n_276_394 _) ?_
    refine i_iadd r_276_395 (n_276_395 _) ?_
    refine i_script hS r_276_396 (n_276_396 _) g3.2.2 g3.1 g3.2.1 (fun q8 => ?_)
    refine wp_virt (b := 252) (rest := []) (Ls := [(0, rf 252), (1, iv ((xs (x4 + 1).toNat).toInt)), (2, iv ((xs (x4 + 2).toNat).toInt))]) r_276_397 (n_276_397 _) rfl ⟨rfl, rfl, by decide, by decide⟩ rfl rfl lf_252 ⟨rfl, Nat.le_of_ble_eq_true rfl, Nat.le_of_ble_eq_true rfl⟩ rfl h ?_
    intro o9 s9 h
    rcases h with ⟨y9, q10, rfl, h⟩ | ⟨e9, rfl, h⟩
    · refine .inl ⟨some (iv y9), rfl, ?_⟩
      show wp S 276 400 [(0, rf 0), (1, rf 2), (2, rf 252), (3, rf 275), (4, iv x4), (5, iv y5)] [iv y9] s9 Q
      refine i_istore (l' := [(0, rf 0), (1, rf 2), (2, rf 252), (3, rf 275), (4, iv x4), (5, iv y5), (6, iv y9)]) r_276_400 (n_276_400 _) (by decide) rfl ?_
      refine i_aload_n (a := 252) r_276_402 (n_276_402 _) rfl ?_
      refine wp_virt (b := 252) (rest := []) (Ls := [(0, rf 252)]) r_276_403 (n_276_403 _) rfl ⟨rfl, rfl, by decide, by decide⟩ rfl rfl lf_252 ⟨rfl, Nat.le_of_ble_eq_true rfl, Nat.le_of_ble_eq_true rfl⟩ rfl K_Model_thrown ?_
      rintro _ _ ⟨rfl, rfl⟩
      refine .inl ⟨some (iv (zI s9 252 3)), rfl, ?_⟩
      show wp S 276 406 [(0, rf 0), (1, rf 2), (2, rf 252), (3, rf 275), (4, iv x4), (5, iv y5), (6, iv y9)] [iv (zI s9 252 3)] s9 Q
      refine wp_rd (a := 252) (j := 3) (fun q12 => ?_)
      refine i_iload (x := y5) r_276_406 (n_276_406 _) rfl ?_
      refine i_icmp (t := 413) r_276_408 (n_276_408 _) rfl (T_eq q12 q6) (fun c13 => ?_) (fun c13 => ?_)
      · replace h := h.1 c13
        refine i_iload (x := y5) r_276_413 (n_276_413 _) rfl ?_
        refine i_if (t := 430) r_276_415 (n_276_415 _) rfl (T_ne q6 ⟨by omega, by omega⟩) (fun c14 => ?_) (fun c14 => ?_)
        · replace h := h.1 c14
          refine i_goto (t := 2908) r_276_430 (n_276_430 _) rfl ?_
          refine i_iinc (x := x4) (l' := [(0, rf 0), (1, rf 2), (2, rf 252), (3, rf 275), (4, iv (x4 + 7)), (5, iv y5), (6, iv y9)]) r_276_2908 (n_276_2908 _) (by decide) rfl rfl ?_
          refine i_goto (t := 23) r_276_2911 (n_276_2911 _) rfl ?_
          exact wp_pr (l' := [(0, rf 0), (1, rf 2), (2, rf 252), (3, rf 275), (4, iv (x4 + 7))]) rfl h
        · replace h := h.2 c14
          refine i_aload_n (a := 275) r_276_418 (n_276_418 _) rfl ?_
          refine i_iconst r_276_419 (n_276_419 _) ?_
          refine i_laload (a := 275) (j := 0) r_276_420 (n_276_420 _) lf_275 ⟨by omega, by omega⟩ (by omega) (by omega) ?_
          refine i_iload (x := y9) r_276_421 (n_276_421 _) rfl ?_
          refine i_i2l r_276_423 (n_276_423 _) ?_
          refine i_lcmp r_276_424 (n_276_424 _) ?_
          refine i_if (t := 430) r_276_425 (n_276_425 _) rfl (T_eq (zcmp_rng _ _) ⟨by omega, by omega⟩) (fun c15 => ?_) (fun c15 => ?_)
          · replace h := h.1 c15
            refine i_goto (t := 2908) r_276_430 (n_276_430 _) rfl ?_
            refine i_iinc (x := x4) (l' := [(0, rf 0), (1, rf 2), (2, rf 252), (3, rf 275), (4, iv (x4 + 7)), (5, iv y5), (6, iv y9)]) r_276_2908 (n_276_2908 _) (by decide) rfl rfl ?_
            refine i_goto (t := 23) r_276_2911 (n_276_2911 _) rfl ?_
            exact wp_pr (l' := [(0, rf 0), (1, rf 2), (2, rf 252), (3, rf 275), (4, iv (x4 + 7))]) rfl h
          · replace h := h.2 c15
            refine i_iconst r_276_428 (n_276_428 _) ?_
            exact i_zreturn r_276_429 (n_276_429 _) rfl (by decide) h
      · replace h := h.2 c13
        refine i_iconst r_276_411 (n_276_411 _) ?_
        exact i_zreturn r_276_412 (n_276_412 _) rfl (by decide) h
    · skip
      exact h.elim
  · skip
    exact h.elim
theorem v_Law_law_433 {S : Option (Nat × (Nat → Int32))} {L : Nat} {xs : Nat → Int32} (hS : S = some (L, xs)) {s : zSt} {Q : Option Value ⊕ Nat → zSt → Prop} {x4 : Int} 
    (h : (0 ≤ (x4 + 1) ∧ (x4 + 1) < (L : Int) ∧ rng (x4 + 1)) ∧ ((0 ≤ (x4 + 2) ∧ (x4 + 2) < (L : Int) ∧ rng (x4 + 2)) ∧ ((0 ≤ (x4 + 3) ∧ (x4 + 3) < (L : Int) ∧ rng (x4 + 3)) ∧ (wp S 61 0 [(0, rf 2), (1, iv ((xs (x4 + 1).toNat).toInt)), (2, iv ((xs (x4 + 2).toNat).toInt)), (3, iv ((xs (x4 + 3).toNat).toInt)), (4, rf 275)] [] s (fun o7 s7 => zkI (fun y7 => wp S 208 0 [(0, rf 252), (1, iv ((xs (x4 + 1).toNat).toInt)), (2, iv ((xs (x4 + 2).toNat).toInt)), (3, iv ((xs (x4 + 3).toNat).toInt))] [] s7 (fun o12 s12 => zkI (fun y12 => ((zI s12 252 3) = y7 → (y7 ≠ 0 → wp S 276 23 [(0, rf 0), (1, rf 2), (2, rf 252), (3, rf 275), (4, iv (x4 + 7))] [] s12 Q) ∧ (y7 = 0 → ((zcmp (zL s12 275 0) (zi2l y12)) = 0 → wp S 276 23 [(0, rf 0), (1, rf 2), (2, rf 252), (3, rf 275), (4, iv (x4 + 7))] [] s12 Q) ∧ ((zcmp (zL s12 275 0) (zi2l y12)) ≠ 0 → Q (rI 0) s12))) ∧ ((zI s12 252 3) ≠ y7 → Q (rI 0) s12)) (fun e12 => False) o12)) (fun e7 => False) o7))))) :
    wp S 276 433 [(0, rf 0), (1, rf 2), (2, rf 252), (3, rf 275), (4, iv x4)] [] s Q := by
  refine i_aload_n (a := 2) r_276_433 rfl rfl ?_
  refine i_aload_n (a := 0) r_276_434 (n_276_434 _) rfl ?_
  refine i_iload (x := x4) r_276_435 (n_276_435 _) rfl ?_
  refine i_iconst r_276_437 (n_276_437 _) ?_
  refine i_iadd r_276_438 (n_276_438 _) ?_
  obtain ⟨g1, h⟩ := h
  refine i_script hS r_276_439 (n_276_439 _) g1.2.2 g1.1 g1.2.1 (fun q2 => ?_)
  refine i_aload_n (a := 0) r_276_440 (n_276_440 _) rfl ?_
  refine i_iload (x := x4) r_276_441 (n_276_441 _) rfl ?_
  refine i_iconst r_276_443 (n_276_443 _) ?_
  refine i_iadd r_276_444 (n_276_444 _) ?_
  obtain ⟨g3, h⟩ := h
  refine i_script hS r_276_445 (n_276_445 _) g3.2.2 g3.1 g3.2.1 (fun q4 => ?_)
  refine i_aload_n (a := 0) r_276_446 (n_276_446 _) rfl ?_
  refine i_iload (x := x4) r_276_447 (n_276_447 _) rfl ?_
  refine i_iconst r_276_449 (n_276_449 _) ?_
  refine i_iadd r_276_450 (n_276_450 _) ?_
  obtain ⟨g5, h⟩ := h
  refine i_script hS r_276_451 (n_276_451 _) g5.2.2 g5.1 g5.2.1 (fun q6 => ?_)
  refine i_aload_n (a := 275) r_276_452 (n_276_452 _) rfl ?_
  refine wp_stat (rest := []) (Ls := [(0, rf 2), (1, iv ((xs (x4 + 1).toNat).toInt)), (2, iv ((xs (x4 + 2).toNat).toInt)), (3, iv ((xs (x4 + 3).toNat).toInt)), (4, rf 275)]) r_276_453 (n_276_453 _) rfl ⟨rfl, by decide, by decide, by decide⟩ rfl rfl ⟨rfl, Nat.le_of_ble_eq_true rfl, Nat.le_of_ble_eq_true rfl⟩ rfl h ?_
  intro o7 s7 h
  rcases h with ⟨y7, q8, rfl, h⟩ | ⟨e7, rfl, h⟩
  · refine .inl ⟨some (iv y7), rfl, ?_⟩
    show wp S 276 456 [(0, rf 0), (1, rf 2), (2, rf 252), (3, rf 275), (4, iv x4)] [iv y7] s7 Q
    refine i_istore (l' := [(0, rf 0), (1, rf 2), (2, rf 252), (3, rf 275), (4, iv x4), (5, iv y7)]) r_276_456 (n_276_456 _) (by decide) rfl ?_
    refine i_aload_n (a := 252) r_276_458 (n_276_458 _) rfl ?_
    refine i_aload_n (a := 0) r_276_459 (n_276_459 _) rfl ?_
    refine i_iload (x := x4) r_276_460 (n_276_460 _) rfl ?_
    refine i_iconst r_276_462 (n_276_462 _) ?_
    refine i_iadd r_276_463 (n_276_463 _) ?_
    refine i_script hS r_276_464 (n_276_464 _) g1.2.2 g1.1 g1.2.1 (fun q9 => ?_)
    refine i_aload_n (a := 0) r_276_465 (n_276_465 _) rfl ?_
    refine i_iload (x := x4) r_276_466 (n_276_466 _) rfl ?_
    refine i_iconst r_276_468 (n_276_468 _) ?_
    refine i_iadd r_276_469 (n_276_469 _) ?_
    refine i_script hS r_276_470 (n_276_470 _) g3.2.2 g3.1 g3.2.1 (fun q10 => ?_)
    refine i_aload_n (a := 0) r_276_471 (n_276_471 _) rfl ?_
    refine i_iload (x := x4) r_276_472 (n_276_472 _) rfl ?_
    refine i_iconst r_276_474 (n_276_474 _) ?_
    refine i_iadd r_276_475 (n_276_475 _) ?_
    refine i_script hS r_276_476 (n_276_476 _) g5.2.2 g5.1 g5.2.1 (fun q11 => ?_)
    refine wp_virt (b := 252) (rest := []) (Ls := [(0, rf 252), (1, iv ((xs (x4 + 1).toNat).toInt)), (2, iv ((xs (x4 + 2).toNat).toInt)), (3, iv ((xs (x4 + 3).toNat).toInt))]) r_276_477 (n_276_477 _) rfl ⟨rfl, rfl, by decide, by decide⟩ rfl rfl lf_252 ⟨rfl, Nat.le_of_ble_eq_true rfl, Nat.le_of_ble_eq_true rfl⟩ rfl h ?_
    intro o12 s12 h
    rcases h with ⟨y12, q13, rfl, h⟩ | ⟨e12, rfl, h⟩
    · refine .inl ⟨some (iv y12), rfl, ?_⟩
      show wp S 276 480 [(0, rf 0), (1, rf 2), (2, rf 252), (3, rf 275), (4, iv x4), (5, iv y7)] [iv y12] s12 Q
      refine i_istore (l' := [(0, rf 0), (1, rf 2), (2, rf 252), (3, rf 275), (4, iv x4), (5, iv y7), (6, iv y12)]) r_276_480 (n_276_480 _) (by decide) rfl ?_
      refine i_aload_n (a := 252) r_276_482 (n_276_482 _) rfl ?_
      refine wp_virt (b := 252) (rest := []) (Ls := [(0, rf 252)]) r_276_483 (n_276_483 _) rfl ⟨rfl, rfl, by decide, by decide⟩ rfl rfl lf_252 ⟨rfl, Nat.le_of_ble_eq_true rfl, Nat.le_of_ble_eq_true rfl⟩ rfl K_Model_thrown ?_
      rintro _ _ ⟨rfl, rfl⟩
      refine .inl ⟨some (iv (zI s12 252 3)), rfl, ?_⟩
      show wp S 276 486 [(0, rf 0), (1, rf 2), (2, rf 252), (3, rf 275), (4, iv x4), (5, iv y7), (6, iv y12)] [iv (zI s12 252 3)] s12 Q
      refine wp_rd (a := 252) (j := 3) (fun q15 => ?_)
      refine i_iload (x := y7) r_276_486 (n_276_486 _) rfl ?_
      refine i_icmp (t := 493) r_276_488 (n_276_488 _) rfl (T_eq q15 q8) (fun c16 => ?_) (fun c16 => ?_)
      · replace h := h.1 c16
        refine i_iload (x := y7) r_276_493 (n_276_493 _) rfl ?_
        refine i_if (t := 510) r_276_495 (n_276_495 _) rfl (T_ne q8 ⟨by omega, by omega⟩) (fun c17 => ?_) (fun c17 => ?_)
        · replace h := h.1 c17
          refine i_goto (t := 2908) r_276_510 (n_276_510 _) rfl ?_
          refine i_iinc (x := x4) (l' := [(0, rf 0), (1, rf 2), (2, rf 252), (3, rf 275), (4, iv (x4 + 7)), (5, iv y7), (6, iv y12)]) r_276_2908 (n_276_2908 _) (by decide) rfl rfl ?_
          refine i_goto (t := 23) r_276_2911 (n_276_2911 _) rfl ?_
          exact wp_pr (l' := [(0, rf 0), (1, rf 2), (2, rf 252), (3, rf 275), (4, iv (x4 + 7))]) rfl h
        · replace h := h.2 c17
          refine i_aload_n (a := 275) r_276_498 (n_276_498 _) rfl ?_
          refine i_iconst r_276_499 (n_276_499 _) ?_
          refine i_laload (a := 275) (j := 0) r_276_500 (n_276_500 _) lf_275 ⟨by omega, by omega⟩ (by omega) (by omega) ?_
          refine i_iload (x := y12) r_276_501 (n_276_501 _) rfl ?_
          refine i_i2l r_276_503 (n_276_503 _) ?_
          refine i_lcmp r_276_504 (n_276_504 _) ?_
          refine i_if (t := 510) r_276_505 (n_276_505 _) rfl (T_eq (zcmp_rng _ _) ⟨by omega, by omega⟩) (fun c18 => ?_) (fun c18 => ?_)
          · replace h := h.1 c18
            refine i_goto (t := 2908) r_276_510 (n_276_510 _) rfl ?_
            refine i_iinc (x := x4) (l' := [(0, rf 0), (1, rf 2), (2, rf 252), (3, rf 275), (4, iv (x4 + 7)), (5, iv y7), (6, iv y12)]) r_276_2908 (n_276_2908 _) (by decide) rfl rfl ?_
            refine i_goto (t := 23) r_276_2911 (n_276_2911 _) rfl ?_
            exact wp_pr (l' := [(0, rf 0), (1, rf 2), (2, rf 252), (3, rf 275), (4, iv (x4 + 7))]) rfl h
          · replace h := h.2 c18
            refine i_iconst r_276_508 (n_276_508 _) ?_
            exact i_zreturn r_276_509 (n_276_509 _) rfl (by decide) h
      · replace h := h.2 c16
        refine i_iconst r_276_491 (n_276_491 _) ?_
        exact i_zreturn r_276_492 (n_276_492 _) rfl (by decide) h
    · skip
      exact h.elim
  · skip
    exact h.elim
theorem v_Law_law_513 {S : Option (Nat × (Nat → Int32))} {L : Nat} {xs : Nat → Int32} (hS : S = some (L, xs)) {s : zSt} {Q : Option Value ⊕ Nat → zSt → Prop} {x4 : Int} 
    (h : (0 ≤ (x4 + 1) ∧ (x4 + 1) < (L : Int) ∧ rng (x4 + 1)) ∧ ((0 ≤ (x4 + 2) ∧ (x4 + 2) < (L : Int) ∧ rng (x4 + 2)) ∧ ((0 ≤ (x4 + 3) ∧ (x4 + 3) < (L : Int) ∧ rng (x4 + 3)) ∧ (wp S 63 0 [(0, rf 2), (1, iv ((xs (x4 + 1).toNat).toInt)), (2, iv ((xs (x4 + 2).toNat).toInt)), (3, iv ((xs (x4 + 3).toNat).toInt)), (4, rf 275)] [] s (fun o7 s7 => zkI (fun y7 => wp S 210 0 [(0, rf 252), (1, iv ((xs (x4 + 1).toNat).toInt)), (2, iv ((xs (x4 + 2).toNat).toInt)), (3, iv ((xs (x4 + 3).toNat).toInt))] [] s7 (fun o12 s12 => zkI (fun y12 => ((zI s12 252 3) = y7 → (y7 ≠ 0 → wp S 276 23 [(0, rf 0), (1, rf 2), (2, rf 252), (3, rf 275), (4, iv (x4 + 7))] [] s12 Q) ∧ (y7 = 0 → ((zcmp (zL s12 275 0) (zi2l y12)) = 0 → wp S 276 23 [(0, rf 0), (1, rf 2), (2, rf 252), (3, rf 275), (4, iv (x4 + 7))] [] s12 Q) ∧ ((zcmp (zL s12 275 0) (zi2l y12)) ≠ 0 → Q (rI 0) s12))) ∧ ((zI s12 252 3) ≠ y7 → Q (rI 0) s12)) (fun e12 => False) o12)) (fun e7 => False) o7))))) :
    wp S 276 513 [(0, rf 0), (1, rf 2), (2, rf 252), (3, rf 275), (4, iv x4)] [] s Q := by
  refine i_aload_n (a := 2) r_276_513 rfl rfl ?_
  refine i_aload_n (a := 0) r_276_514 (n_276_514 _) rfl ?_
  refine i_iload (x := x4) r_276_515 (n_276_515 _) rfl ?_
  refine i_iconst r_276_517 (n_276_517 _) ?_
  refine i_iadd r_276_518 (n_276_518 _) ?_
  obtain ⟨g1, h⟩ := h
  refine i_script hS r_276_519 (n_276_519 _) g1.2.2 g1.1 g1.2.1 (fun q2 => ?_)
  refine i_aload_n (a := 0) r_276_520 (n_276_520 _) rfl ?_
  refine i_iload (x := x4) r_276_521 (n_276_521 _) rfl ?_
  refine i_iconst r_276_523 (n_276_523 _) ?_
  refine i_iadd r_276_524 (n_276_524 _) ?_
  obtain ⟨g3, h⟩ := h
  refine i_script hS r_276_525 (n_276_525 _) g3.2.2 g3.1 g3.2.1 (fun q4 => ?_)
  refine i_aload_n (a := 0) r_276_526 (n_276_526 _) rfl ?_
  refine i_iload (x := x4) r_276_527 (n_276_527 _) rfl ?_
  refine i_iconst r_276_529 (n_276_529 _) ?_
  refine i_iadd r_276_530 (n_276_530 _) ?_
  obtain ⟨g5, h⟩ := h
  refine i_script hS r_276_531 (n_276_531 _) g5.2.2 g5.1 g5.2.1 (fun q6 => ?_)
  refine i_aload_n (a := 275) r_276_532 (n_276_532 _) rfl ?_
  refine wp_stat (rest := []) (Ls := [(0, rf 2), (1, iv ((xs (x4 + 1).toNat).toInt)), (2, iv ((xs (x4 + 2).toNat).toInt)), (3, iv ((xs (x4 + 3).toNat).toInt)), (4, rf 275)]) r_276_533 (n_276_533 _) rfl ⟨rfl, by decide, by decide, by decide⟩ rfl rfl ⟨rfl, Nat.le_of_ble_eq_true rfl, Nat.le_of_ble_eq_true rfl⟩ rfl h ?_
  intro o7 s7 h
  rcases h with ⟨y7, q8, rfl, h⟩ | ⟨e7, rfl, h⟩
  · refine .inl ⟨some (iv y7), rfl, ?_⟩
    show wp S 276 536 [(0, rf 0), (1, rf 2), (2, rf 252), (3, rf 275), (4, iv x4)] [iv y7] s7 Q
    refine i_istore (l' := [(0, rf 0), (1, rf 2), (2, rf 252), (3, rf 275), (4, iv x4), (5, iv y7)]) r_276_536 (n_276_536 _) (by decide) rfl ?_
    refine i_aload_n (a := 252) r_276_538 (n_276_538 _) rfl ?_
    refine i_aload_n (a := 0) r_276_539 (n_276_539 _) rfl ?_
    refine i_iload (x := x4) r_276_540 (n_276_540 _) rfl ?_
    refine i_iconst r_276_542 (n_276_542 _) ?_
    refine i_iadd r_276_543 (n_276_543 _) ?_
    refine i_script hS r_276_544 (n_276_544 _) g1.2.2 g1.1 g1.2.1 (fun q9 => ?_)
    refine i_aload_n (a := 0) r_276_545 (n_276_545 _) rfl ?_
    refine i_iload (x := x4) r_276_546 (n_276_546 _) rfl ?_
    refine i_iconst r_276_548 (n_276_548 _) ?_
    refine i_iadd r_276_549 (n_276_549 _) ?_
    refine i_script hS r_276_550 (n_276_550 _) g3.2.2 g3.1 g3.2.1 (fun q10 => ?_)
    refine i_aload_n (a := 0) r_276_551 (n_276_551 _) rfl ?_
    refine i_iload (x := x4) r_276_552 (n_276_552 _) rfl ?_
    refine i_iconst r_276_554 (n_276_554 _) ?_
    refine i_iadd r_276_555 (n_276_555 _) ?_
    refine i_script hS r_276_556 (n_276_556 _) g5.2.2 g5.1 g5.2.1 (fun q11 => ?_)
    refine wp_virt (b := 252) (rest := []) (Ls := [(0, rf 252), (1, iv ((xs (x4 + 1).toNat).toInt)), (2, iv ((xs (x4 + 2).toNat).toInt)), (3, iv ((xs (x4 + 3).toNat).toInt))]) r_276_557 (n_276_557 _) rfl ⟨rfl, rfl, by decide, by decide⟩ rfl rfl lf_252 ⟨rfl, Nat.le_of_ble_eq_true rfl, Nat.le_of_ble_eq_true rfl⟩ rfl h ?_
    intro o12 s12 h
    rcases h with ⟨y12, q13, rfl, h⟩ | ⟨e12, rfl, h⟩
    · refine .inl ⟨some (iv y12), rfl, ?_⟩
      show wp S 276 560 [(0, rf 0), (1, rf 2), (2, rf 252), (3, rf 275), (4, iv x4), (5, iv y7)] [iv y12] s12 Q
      refine i_istore (l' := [(0, rf 0), (1, rf 2), (2, rf 252), (3, rf 275), (4, iv x4), (5, iv y7), (6, iv y12)]) r_276_560 (n_276_560 _) (by decide) rfl ?_
      refine i_aload_n (a := 252) r_276_562 (n_276_562 _) rfl ?_
      refine wp_virt (b := 252) (rest := []) (Ls := [(0, rf 252)]) r_276_563 (n_276_563 _) rfl ⟨rfl, rfl, by decide, by decide⟩ rfl rfl lf_252 ⟨rfl, Nat.le_of_ble_eq_true rfl, Nat.le_of_ble_eq_true rfl⟩ rfl K_Model_thrown ?_
      rintro _ _ ⟨rfl, rfl⟩
      refine .inl ⟨some (iv (zI s12 252 3)), rfl, ?_⟩
      show wp S 276 566 [(0, rf 0), (1, rf 2), (2, rf 252), (3, rf 275), (4, iv x4), (5, iv y7), (6, iv y12)] [iv (zI s12 252 3)] s12 Q
      refine wp_rd (a := 252) (j := 3) (fun q15 => ?_)
      refine i_iload (x := y7) r_276_566 (n_276_566 _) rfl ?_
      refine i_icmp (t := 573) r_276_568 (n_276_568 _) rfl (T_eq q15 q8) (fun c16 => ?_) (fun c16 => ?_)
      · replace h := h.1 c16
        refine i_iload (x := y7) r_276_573 (n_276_573 _) rfl ?_
        refine i_if (t := 590) r_276_575 (n_276_575 _) rfl (T_ne q8 ⟨by omega, by omega⟩) (fun c17 => ?_) (fun c17 => ?_)
        · replace h := h.1 c17
          refine i_goto (t := 2908) r_276_590 (n_276_590 _) rfl ?_
          refine i_iinc (x := x4) (l' := [(0, rf 0), (1, rf 2), (2, rf 252), (3, rf 275), (4, iv (x4 + 7)), (5, iv y7), (6, iv y12)]) r_276_2908 (n_276_2908 _) (by decide) rfl rfl ?_
          refine i_goto (t := 23) r_276_2911 (n_276_2911 _) rfl ?_
          exact wp_pr (l' := [(0, rf 0), (1, rf 2), (2, rf 252), (3, rf 275), (4, iv (x4 + 7))]) rfl h
        · replace h := h.2 c17
          refine i_aload_n (a := 275) r_276_578 (n_276_578 _) rfl ?_
          refine i_iconst r_276_579 (n_276_579 _) ?_
          refine i_laload (a := 275) (j := 0) r_276_580 (n_276_580 _) lf_275 ⟨by omega, by omega⟩ (by omega) (by omega) ?_
          refine i_iload (x := y12) r_276_581 (n_276_581 _) rfl ?_
          refine i_i2l r_276_583 (n_276_583 _) ?_
          refine i_lcmp r_276_584 (n_276_584 _) ?_
          refine i_if (t := 590) r_276_585 (n_276_585 _) rfl (T_eq (zcmp_rng _ _) ⟨by omega, by omega⟩) (fun c18 => ?_) (fun c18 => ?_)
          · replace h := h.1 c18
            refine i_goto (t := 2908) r_276_590 (n_276_590 _) rfl ?_
            refine i_iinc (x := x4) (l' := [(0, rf 0), (1, rf 2), (2, rf 252), (3, rf 275), (4, iv (x4 + 7)), (5, iv y7), (6, iv y12)]) r_276_2908 (n_276_2908 _) (by decide) rfl rfl ?_
            refine i_goto (t := 23) r_276_2911 (n_276_2911 _) rfl ?_
            exact wp_pr (l' := [(0, rf 0), (1, rf 2), (2, rf 252), (3, rf 275), (4, iv (x4 + 7))]) rfl h
          · replace h := h.2 c18
            refine i_iconst r_276_588 (n_276_588 _) ?_
            exact i_zreturn r_276_589 (n_276_589 _) rfl (by decide) h
      · replace h := h.2 c16
        refine i_iconst r_276_571 (n_276_571 _) ?_
        exact i_zreturn r_276_572 (n_276_572 _) rfl (by decide) h
    · skip
      exact h.elim
  · skip
    exact h.elim
theorem v_Law_law_593 {S : Option (Nat × (Nat → Int32))} {L : Nat} {xs : Nat → Int32} (hS : S = some (L, xs)) {s : zSt} {Q : Option Value ⊕ Nat → zSt → Prop} {x4 : Int} 
    (h : (0 ≤ (x4 + 1) ∧ (x4 + 1) < (L : Int) ∧ rng (x4 + 1)) ∧ ((0 ≤ (x4 + 2) ∧ (x4 + 2) < (L : Int) ∧ rng (x4 + 2)) ∧ ((0 ≤ (x4 + 3) ∧ (x4 + 3) < (L : Int) ∧ rng (x4 + 3)) ∧ (wp S 66 0 [(0, rf 2), (1, iv ((xs (x4 + 1).toNat).toInt)), (2, iv ((xs (x4 + 2).toNat).toInt)), (3, iv ((xs (x4 + 3).toNat).toInt)), (4, rf 275)] [] s (fun o7 s7 => zkI (fun y7 => wp S 212 0 [(0, rf 252), (1, iv ((xs (x4 + 1).toNat).toInt)), (2, iv ((xs (x4 + 2).toNat).toInt)), (3, iv ((xs (x4 + 3).toNat).toInt))] [] s7 (fun o12 s12 => zkI (fun y12 => ((zI s12 252 3) = y7 → (y7 ≠ 0 → wp S 276 23 [(0, rf 0), (1, rf 2), (2, rf 252), (3, rf 275), (4, iv (x4 + 7))] [] s12 Q) ∧ (y7 = 0 → ((zcmp (zL s12 275 0) (zi2l y12)) = 0 → wp S 276 23 [(0, rf 0), (1, rf 2), (2, rf 252), (3, rf 275), (4, iv (x4 + 7))] [] s12 Q) ∧ ((zcmp (zL s12 275 0) (zi2l y12)) ≠ 0 → Q (rI 0) s12))) ∧ ((zI s12 252 3) ≠ y7 → Q (rI 0) s12)) (fun e12 => False) o12)) (fun e7 => False) o7))))) :
    wp S 276 593 [(0, rf 0), (1, rf 2), (2, rf 252), (3, rf 275), (4, iv x4)] [] s Q := by
  refine i_aload_n (a := 2) r_276_593 rfl rfl ?_
  refine i_aload_n (a := 0) r_276_594 (n_276_594 _) rfl ?_
  refine i_iload (x := x4) r_276_595 (n_276_595 _) rfl ?_
  refine i_iconst r_276_597 (n_276_597 _) ?_
  refine i_iadd r_276_598 (n_276_598 _) ?_
  obtain ⟨g1, h⟩ := h
  refine i_script hS r_276_599 (n_276_599 _) g1.2.2 g1.1 g1.2.1 (fun q2 => ?_)
  refine i_aload_n (a := 0) r_276_600 (n_276_600 _) rfl ?_
  refine i_iload (x := x4) r_276_601 (n_276_601 _) rfl ?_
  refine i_iconst r_276_603 (n_276_603 _) ?_
  refine i_iadd r_276_604 (n_276_604 _) ?_
  obtain ⟨g3, h⟩ := h
  refine i_script hS r_276_605 (n_276_605 _) g3.2.2 g3.1 g3.2.1 (fun q4 => ?_)
  refine i_aload_n (a := 0) r_276_606 (n_276_606 _) rfl ?_
  refine i_iload (x := x4) r_276_607 (n_276_607 _) rfl ?_
  refine i_iconst r_276_609 (n_276_609 _) ?_
  refine i_iadd r_276_610 (n_276_610 _) ?_
  obtain ⟨g5, h⟩ := h
  refine i_script hS r_276_611 (n_276_611 _) g5.2.2 g5.1 g5.2.1 (fun q6 => ?_)
  refine i_aload_n (a := 275) r_276_612 (n_276_612 _) rfl ?_
  refine wp_stat (rest := []) (Ls := [(0, rf 2), (1, iv ((xs (x4 + 1).toNat).toInt)), (2, iv ((xs (x4 + 2).toNat).toInt)), (3, iv ((xs (x4 + 3).toNat).toInt)), (4, rf 275)]) r_276_613 (n_276_613 _) rfl ⟨rfl, by decide, by decide, by decide⟩ rfl rfl ⟨rfl, Nat.le_of_ble_eq_true rfl, Nat.le_of_ble_eq_true rfl⟩ rfl h ?_
  intro o7 s7 h
  rcases h with ⟨y7, q8, rfl, h⟩ | ⟨e7, rfl, h⟩
  · refine .inl ⟨some (iv y7), rfl, ?_⟩
    show wp S 276 616 [(0, rf 0), (1, rf 2), (2, rf 252), (3, rf 275), (4, iv x4)] [iv y7] s7 Q
    refine i_istore (l' := [(0, rf 0), (1, rf 2), (2, rf 252), (3, rf 275), (4, iv x4), (5, iv y7)]) r_276_616 (n_276_616 _) (by decide) rfl ?_
    refine i_aload_n (a := 252) r_276_618 (n_276_618 _) rfl ?_
    refine i_aload_n (a := 0) r_276_619 (n_276_619 _) rfl ?_
    refine i_iload (x := x4) r_276_620 (n_276_620 _) rfl ?_
    refine i_iconst r_276_622 (n_276_622 _) ?_
    refine i_iadd r_276_623 (n_276_623 _) ?_
    refine i_script hS r_276_624 (n_276_624 _) g1.2.2 g1.1 g1.2.1 (fun q9 => ?_)
    refine i_aload_n (a := 0) r_276_625 (n_276_625 _) rfl ?_
    refine i_iload (x := x4) r_276_626 (n_276_626 _) rfl ?_
    refine i_iconst r_276_628 (n_276_628 _) ?_
    refine i_iadd r_276_629 (n_276_629 _) ?_
    refine i_script hS r_276_630 (n_276_630 _) g3.2.2 g3.1 g3.2.1 (fun q10 => ?_)
    refine i_aload_n (a := 0) r_276_631 (n_276_631 _) rfl ?_
    refine i_iload (x := x4) r_276_632 (n_276_632 _) rfl ?_
    refine i_iconst r_276_634 (n_276_634 _) ?_
    refine i_iadd r_276_635 (n_276_635 _) ?_
    refine i_script hS r_276_636 (n_276_636 _) g5.2.2 g5.1 g5.2.1 (fun q11 => ?_)
    refine wp_virt (b := 252) (rest := []) (Ls := [(0, rf 252), (1, iv ((xs (x4 + 1).toNat).toInt)), (2, iv ((xs (x4 + 2).toNat).toInt)), (3, iv ((xs (x4 + 3).toNat).toInt))]) r_276_637 (n_276_637 _) rfl ⟨rfl, rfl, by decide, by decide⟩ rfl rfl lf_252 ⟨rfl, Nat.le_of_ble_eq_true rfl, Nat.le_of_ble_eq_true rfl⟩ rfl h ?_
    intro o12 s12 h
    rcases h with ⟨y12, q13, rfl, h⟩ | ⟨e12, rfl, h⟩
    · refine .inl ⟨some (iv y12), rfl, ?_⟩
      show wp S 276 640 [(0, rf 0), (1, rf 2), (2, rf 252), (3, rf 275), (4, iv x4), (5, iv y7)] [iv y12] s12 Q
      refine i_istore (l' := [(0, rf 0), (1, rf 2), (2, rf 252), (3, rf 275), (4, iv x4), (5, iv y7), (6, iv y12)]) r_276_640 (n_276_640 _) (by decide) rfl ?_
      refine i_aload_n (a := 252) r_276_642 (n_276_642 _) rfl ?_
      refine wp_virt (b := 252) (rest := []) (Ls := [(0, rf 252)]) r_276_643 (n_276_643 _) rfl ⟨rfl, rfl, by decide, by decide⟩ rfl rfl lf_252 ⟨rfl, Nat.le_of_ble_eq_true rfl, Nat.le_of_ble_eq_true rfl⟩ rfl K_Model_thrown ?_
      rintro _ _ ⟨rfl, rfl⟩
      refine .inl ⟨some (iv (zI s12 252 3)), rfl, ?_⟩
      show wp S 276 646 [(0, rf 0), (1, rf 2), (2, rf 252), (3, rf 275), (4, iv x4), (5, iv y7), (6, iv y12)] [iv (zI s12 252 3)] s12 Q
      refine wp_rd (a := 252) (j := 3) (fun q15 => ?_)
      refine i_iload (x := y7) r_276_646 (n_276_646 _) rfl ?_
      refine i_icmp (t := 653) r_276_648 (n_276_648 _) rfl (T_eq q15 q8) (fun c16 => ?_) (fun c16 => ?_)
      · replace h := h.1 c16
        refine i_iload (x := y7) r_276_653 (n_276_653 _) rfl ?_
        refine i_if (t := 670) r_276_655 (n_276_655 _) rfl (T_ne q8 ⟨by omega, by omega⟩) (fun c17 => ?_) (fun c17 => ?_)
        · replace h := h.1 c17
          refine i_goto (t := 2908) r_276_670 (n_276_670 _) rfl ?_
          refine i_iinc (x := x4) (l' := [(0, rf 0), (1, rf 2), (2, rf 252), (3, rf 275), (4, iv (x4 + 7)), (5, iv y7), (6, iv y12)]) r_276_2908 (n_276_2908 _) (by decide) rfl rfl ?_
          refine i_goto (t := 23) r_276_2911 (n_276_2911 _) rfl ?_
          exact wp_pr (l' := [(0, rf 0), (1, rf 2), (2, rf 252), (3, rf 275), (4, iv (x4 + 7))]) rfl h
        · replace h := h.2 c17
          refine i_aload_n (a := 275) r_276_658 (n_276_658 _) rfl ?_
          refine i_iconst r_276_659 (n_276_659 _) ?_
          refine i_laload (a := 275) (j := 0) r_276_660 (n_276_660 _) lf_275 ⟨by omega, by omega⟩ (by omega) (by omega) ?_
          refine i_iload (x := y12) r_276_661 (n_276_661 _) rfl ?_
          refine i_i2l r_276_663 (n_276_663 _) ?_
          refine i_lcmp r_276_664 (n_276_664 _) ?_
          refine i_if (t := 670) r_276_665 (n_276_665 _) rfl (T_eq (zcmp_rng _ _) ⟨by omega, by omega⟩) (fun c18 => ?_) (fun c18 => ?_)
          · replace h := h.1 c18
            refine i_goto (t := 2908) r_276_670 (n_276_670 _) rfl ?_
            refine i_iinc (x := x4) (l' := [(0, rf 0), (1, rf 2), (2, rf 252), (3, rf 275), (4, iv (x4 + 7)), (5, iv y7), (6, iv y12)]) r_276_2908 (n_276_2908 _) (by decide) rfl rfl ?_
            refine i_goto (t := 23) r_276_2911 (n_276_2911 _) rfl ?_
            exact wp_pr (l' := [(0, rf 0), (1, rf 2), (2, rf 252), (3, rf 275), (4, iv (x4 + 7))]) rfl h
          · replace h := h.2 c18
            refine i_iconst r_276_668 (n_276_668 _) ?_
            exact i_zreturn r_276_669 (n_276_669 _) rfl (by decide) h
      · replace h := h.2 c16
        refine i_iconst r_276_651 (n_276_651 _) ?_
        exact i_zreturn r_276_652 (n_276_652 _) rfl (by decide) h
    · skip
      exact h.elim
  · skip
    exact h.elim
theorem v_Law_law_673 {S : Option (Nat × (Nat → Int32))} {L : Nat} {xs : Nat → Int32} (hS : S = some (L, xs)) {s : zSt} {Q : Option Value ⊕ Nat → zSt → Prop} {x4 : Int} 
    (h : (0 ≤ (x4 + 1) ∧ (x4 + 1) < (L : Int) ∧ rng (x4 + 1)) ∧ (wp S 70 0 [(0, rf 2), (1, iv ((xs (x4 + 1).toNat).toInt)), (2, rf 275)] [] s (fun o3 s3 => zkI (fun y3 => wp S 214 0 [(0, rf 252), (1, iv ((xs (x4 + 1).toNat).toInt))] [] s3 (fun o6 s6 => zkI (fun y6 => ((zI s6 252 3) = y3 → (y3 ≠ 0 → wp S 276 23 [(0, rf 0), (1, rf 2), (2, rf 252), (3, rf 275), (4, iv (x4 + 7))] [] s6 Q) ∧ (y3 = 0 → ((zcmp (zL s6 275 0) (zi2l y6)) = 0 → wp S 276 23 [(0, rf 0), (1, rf 2), (2, rf 252), (3, rf 275), (4, iv (x4 + 7))] [] s6 Q) ∧ ((zcmp (zL s6 275 0) (zi2l y6)) ≠ 0 → Q (rI 0) s6))) ∧ ((zI s6 252 3) ≠ y3 → Q (rI 0) s6)) (fun e6 => False) o6)) (fun e3 => False) o3))) :
    wp S 276 673 [(0, rf 0), (1, rf 2), (2, rf 252), (3, rf 275), (4, iv x4)] [] s Q := by
  refine i_aload_n (a := 2) r_276_673 rfl rfl ?_
  refine i_aload_n (a := 0) r_276_674 (n_276_674 _) rfl ?_
  refine i_iload (x := x4) r_276_675 (n_276_675 _) rfl ?_
  refine i_iconst r_276_677 (n_276_677 _) ?_
  refine i_iadd r_276_678 (n_276_678 _) ?_
  obtain ⟨g1, h⟩ := h
  refine i_script hS r_276_679 (n_276_679 _) g1.2.2 g1.1 g1.2.1 (fun q2 => ?_)
  refine i_aload_n (a := 275) r_276_680 (n_276_680 _) rfl ?_
  refine wp_stat (rest := []) (Ls := [(0, rf 2), (1, iv ((xs (x4 + 1).toNat).toInt)), (2, rf 275)]) r_276_681 (n_276_681 _) rfl ⟨rfl, by decide, by decide, by decide⟩ rfl rfl ⟨rfl, Nat.le_of_ble_eq_true rfl, Nat.le_of_ble_eq_true rfl⟩ rfl h ?_
  intro o3 s3 h
  rcases h with ⟨y3, q4, rfl, h⟩ | ⟨e3, rfl, h⟩
  · refine .inl ⟨some (iv y3), rfl, ?_⟩
    show wp S 276 684 [(0, rf 0), (1, rf 2), (2, rf 252), (3, rf 275), (4, iv x4)] [iv y3] s3 Q
    refine i_istore (l' := [(0, rf 0), (1, rf 2), (2, rf 252), (3, rf 275), (4, iv x4), (5, iv y3)]) r_276_684 (n_276_684 _) (by decide) rfl ?_
    refine i_aload_n (a := 252) r_276_686 (n_276_686 _) rfl ?_
    refine i_aload_n (a := 0) r_276_687 (n_276_687 _) rfl ?_
    refine i_iload (x := x4) r_276_688 (n_276_688 _) rfl ?_
    refine i_iconst r_276_690 (n_276_690 _) ?_
    refine i_iadd r_276_691 (n_276_691 _) ?_
    refine i_script hS r_276_692 (n_276_692 _) g1.2.2 g1.1 g1.2.1 (fun q5 => ?_)
    refine wp_virt (b := 252) (rest := []) (Ls := [(0, rf 252), (1, iv ((xs (x4 + 1).toNat).toInt))]) r_276_693 (n_276_693 _) rfl ⟨rfl, rfl, by decide, by decide⟩ rfl rfl lf_252 ⟨rfl, Nat.le_of_ble_eq_true rfl, Nat.le_of_ble_eq_true rfl⟩ rfl h ?_
    intro o6 s6 h
    rcases h with ⟨y6, q7, rfl, h⟩ | ⟨e6, rfl, h⟩
    · refine .inl ⟨some (iv y6), rfl, ?_⟩
      show wp S 276 696 [(0, rf 0), (1, rf 2), (2, rf 252), (3, rf 275), (4, iv x4), (5, iv y3)] [iv y6] s6 Q
      refine i_istore (l' := [(0, rf 0), (1, rf 2), (2, rf 252), (3, rf 275), (4, iv x4), (5, iv y3), (6, iv y6)]) r_276_696 (n_276_696 _) (by decide) rfl ?_
      refine i_aload_n (a := 252) r_276_698 (n_276_698 _) rfl ?_
      refine wp_virt (b := 252) (rest := []) (Ls := [(0, rf 252)]) r_276_699 (n_276_699 _) rfl ⟨rfl, rfl, by decide, by decide⟩ rfl rfl lf_252 ⟨rfl, Nat.le_of_ble_eq_true rfl, Nat.le_of_ble_eq_true rfl⟩ rfl K_Model_thrown ?_
      rintro _ _ ⟨rfl, rfl⟩
      refine .inl ⟨some (iv (zI s6 252 3)), rfl, ?_⟩
      show wp S 276 702 [(0, rf 0), (1, rf 2), (2, rf 252), (3, rf 275), (4, iv x4), (5, iv y3), (6, iv y6)] [iv (zI s6 252 3)] s6 Q
      refine wp_rd (a := 252) (j := 3) (fun q9 => ?_)
      refine i_iload (x := y3) r_276_702 (n_276_702 _) rfl ?_
      refine i_icmp (t := 709) r_276_704 (n_276_704 _) rfl (T_eq q9 q4) (fun c10 => ?_) (fun c10 => ?_)
      · replace h := h.1 c10
        refine i_iload (x := y3) r_276_709 (n_276_709 _) rfl ?_
        refine i_if (t := 726) r_276_711 (n_276_711 _) rfl (T_ne q4 ⟨by omega, by omega⟩) (fun c11 => ?_) (fun c11 => ?_)
        · replace h := h.1 c11
          refine i_goto (t := 2908) r_276_726 (n_276_726 _) rfl ?_
          refine i_iinc (x := x4) (l' := [(0, rf 0), (1, rf 2), (2, rf 252), (3, rf 275), (4, iv (x4 + 7)), (5, iv y3), (6, iv y6)]) r_276_2908 (n_276_2908 _) (by decide) rfl rfl ?_
          refine i_goto (t := 23) r_276_2911 (n_276_2911 _) rfl ?_
          exact wp_pr (l' := [(0, rf 0), (1, rf 2), (2, rf 252), (3, rf 275), (4, iv (x4 + 7))]) rfl h
        · replace h := h.2 c11
          refine i_aload_n (a := 275) r_276_714 (n_276_714 _) rfl ?_
          refine i_iconst r_276_715 (n_276_715 _) ?_
          refine i_laload (a := 275) (j := 0) r_276_716 (n_276_716 _) lf_275 ⟨by omega, by omega⟩ (by omega) (by omega) ?_
          refine i_iload (x := y6) r_276_717 (n_276_717 _) rfl ?_
          refine i_i2l r_276_719 (n_276_719 _) ?_
          refine i_lcmp r_276_720 (n_276_720 _) ?_
          refine i_if (t := 726) r_276_721 (n_276_721 _) rfl (T_eq (zcmp_rng _ _) ⟨by omega, by omega⟩) (fun c12 => ?_) (fun c12 => ?_)
          · replace h := h.1 c12
            refine i_goto (t := 2908) r_276_726 (n_276_726 _) rfl ?_
            refine i_iinc (x := x4) (l' := [(0, rf 0), (1, rf 2), (2, rf 252), (3, rf 275), (4, iv (x4 + 7)), (5, iv y3), (6, iv y6)]) r_276_2908 (n_276_2908 _) (by decide) rfl rfl ?_
            refine i_goto (t := 23) r_276_2911 (n_276_2911 _) rfl ?_
            exact wp_pr (l' := [(0, rf 0), (1, rf 2), (2, rf 252), (3, rf 275), (4, iv (x4 + 7))]) rfl h
          · replace h := h.2 c12
            refine i_iconst r_276_724 (n_276_724 _) ?_
            exact i_zreturn r_276_725 (n_276_725 _) rfl (by decide) h
      · replace h := h.2 c10
        refine i_iconst r_276_707 (n_276_707 _) ?_
        exact i_zreturn r_276_708 (n_276_708 _) rfl (by decide) h
    · skip
      exact h.elim
  · skip
    exact h.elim
theorem v_Law_law_729 {S : Option (Nat × (Nat → Int32))} {L : Nat} {xs : Nat → Int32} (hS : S = some (L, xs)) {s : zSt} {Q : Option Value ⊕ Nat → zSt → Prop} {x4 : Int} 
    (h : (0 ≤ (x4 + 1) ∧ (x4 + 1) < (L : Int) ∧ rng (x4 + 1)) ∧ (wp S 74 0 [(0, rf 2), (1, iv ((xs (x4 + 1).toNat).toInt)), (2, rf 275)] [] s (fun o3 s3 => zkI (fun y3 => wp S 215 0 [(0, rf 252), (1, iv ((xs (x4 + 1).toNat).toInt))] [] s3 (fun o6 s6 => zkI (fun y6 => ((zI s6 252 3) = y3 → (y3 ≠ 0 → wp S 276 23 [(0, rf 0), (1, rf 2), (2, rf 252), (3, rf 275), (4, iv (x4 + 7))] [] s6 Q) ∧ (y3 = 0 → ((zcmp (zL s6 275 0) (zi2l y6)) = 0 → wp S 276 23 [(0, rf 0), (1, rf 2), (2, rf 252), (3, rf 275), (4, iv (x4 + 7))] [] s6 Q) ∧ ((zcmp (zL s6 275 0) (zi2l y6)) ≠ 0 → Q (rI 0) s6))) ∧ ((zI s6 252 3) ≠ y3 → Q (rI 0) s6)) (fun e6 => False) o6)) (fun e3 => False) o3))) :
    wp S 276 729 [(0, rf 0), (1, rf 2), (2, rf 252), (3, rf 275), (4, iv x4)] [] s Q := by
  refine i_aload_n (a := 2) r_276_729 rfl rfl ?_
  refine i_aload_n (a := 0) r_276_730 (n_276_730 _) rfl ?_
  refine i_iload (x := x4) r_276_731 (n_276_731 _) rfl ?_
  refine i_iconst r_276_733 (n_276_733 _) ?_
  refine i_iadd r_276_734 (n_276_734 _) ?_
  obtain ⟨g1, h⟩ := h
  refine i_script hS r_276_735 (n_276_735 _) g1.2.2 g1.1 g1.2.1 (fun q2 => ?_)
  refine i_aload_n (a := 275) r_276_736 (n_276_736 _) rfl ?_
  refine wp_stat (rest := []) (Ls := [(0, rf 2), (1, iv ((xs (x4 + 1).toNat).toInt)), (2, rf 275)]) r_276_737 (n_276_737 _) rfl ⟨rfl, by decide, by decide, by decide⟩ rfl rfl ⟨rfl, Nat.le_of_ble_eq_true rfl, Nat.le_of_ble_eq_true rfl⟩ rfl h ?_
  intro o3 s3 h
  rcases h with ⟨y3, q4, rfl, h⟩ | ⟨e3, rfl, h⟩
  · refine .inl ⟨some (iv y3), rfl, ?_⟩
    show wp S 276 740 [(0, rf 0), (1, rf 2), (2, rf 252), (3, rf 275), (4, iv x4)] [iv y3] s3 Q
    refine i_istore (l' := [(0, rf 0), (1, rf 2), (2, rf 252), (3, rf 275), (4, iv x4), (5, iv y3)]) r_276_740 (n_276_740 _) (by decide) rfl ?_
    refine i_aload_n (a := 252) r_276_742 (n_276_742 _) rfl ?_
    refine i_aload_n (a := 0) r_276_743 (n_276_743 _) rfl ?_
    refine i_iload (x := x4) r_276_744 (n_276_744 _) rfl ?_
    refine i_iconst r_276_746 (n_276_746 _) ?_
    refine i_iadd r_276_747 (n_276_747 _) ?_
    refine i_script hS r_276_748 (n_276_748 _) g1.2.2 g1.1 g1.2.1 (fun q5 => ?_)
    refine wp_virt (b := 252) (rest := []) (Ls := [(0, rf 252), (1, iv ((xs (x4 + 1).toNat).toInt))]) r_276_749 (n_276_749 _) rfl ⟨rfl, rfl, by decide, by decide⟩ rfl rfl lf_252 ⟨rfl, Nat.le_of_ble_eq_true rfl, Nat.le_of_ble_eq_true rfl⟩ rfl h ?_
    intro o6 s6 h
    rcases h with ⟨y6, q7, rfl, h⟩ | ⟨e6, rfl, h⟩
    · refine .inl ⟨some (iv y6), rfl, ?_⟩
      show wp S 276 752 [(0, rf 0), (1, rf 2), (2, rf 252), (3, rf 275), (4, iv x4), (5, iv y3)] [iv y6] s6 Q
      refine i_istore (l' := [(0, rf 0), (1, rf 2), (2, rf 252), (3, rf 275), (4, iv x4), (5, iv y3), (6, iv y6)]) r_276_752 (n_276_752 _) (by decide) rfl ?_
      refine i_aload_n (a := 252) r_276_754 (n_276_754 _) rfl ?_
      refine wp_virt (b := 252) (rest := []) (Ls := [(0, rf 252)]) r_276_755 (n_276_755 _) rfl ⟨rfl, rfl, by decide, by decide⟩ rfl rfl lf_252 ⟨rfl, Nat.le_of_ble_eq_true rfl, Nat.le_of_ble_eq_true rfl⟩ rfl K_Model_thrown ?_
      rintro _ _ ⟨rfl, rfl⟩
      refine .inl ⟨some (iv (zI s6 252 3)), rfl, ?_⟩
      show wp S 276 758 [(0, rf 0), (1, rf 2), (2, rf 252), (3, rf 275), (4, iv x4), (5, iv y3), (6, iv y6)] [iv (zI s6 252 3)] s6 Q
      refine wp_rd (a := 252) (j := 3) (fun q9 => ?_)
      refine i_iload (x := y3) r_276_758 (n_276_758 _) rfl ?_
      refine i_icmp (t := 765) r_276_760 (n_276_760 _) rfl (T_eq q9 q4) (fun c10 => ?_) (fun c10 => ?_)
      · replace h := h.1 c10
        refine i_iload (x := y3) r_276_765 (n_276_765 _) rfl ?_
        refine i_if (t := 782) r_276_767 (n_276_767 _) rfl (T_ne q4 ⟨by omega, by omega⟩) (fun c11 => ?_) (fun c11 => ?_)
        · replace h := h.1 c11
          refine i_goto (t := 2908) r_276_782 (n_276_782 _) rfl ?_
          refine i_iinc (x := x4) (l' := [(0, rf 0), (1, rf 2), (2, rf 252), (3, rf 275), (4, iv (x4 + 7)), (5, iv y3), (6, iv y6)]) r_276_2908 (n_276_2908 _) (by decide) rfl rfl ?_
          refine i_goto (t := 23) r_276_2911 (n_276_2911 _) rfl ?_
          exact wp_pr (l' := [(0, rf 0), (1, rf 2), (2, rf 252), (3, rf 275), (4, iv (x4 + 7))]) rfl h
        · replace h := h.2 c11
          refine i_aload_n (a := 275) r_276_770 (n_276_770 _) rfl ?_
          refine i_iconst r_276_771 (n_276_771 _) ?_
          refine i_laload (a := 275) (j := 0) r_276_772 (n_276_772 _) lf_275 ⟨by omega, by omega⟩ (by omega) (by omega) ?_
          refine i_iload (x := y6) r_276_773 (n_276_773 _) rfl ?_
          refine i_i2l r_276_775 (n_276_775 _) ?_
          refine i_lcmp r_276_776 (n_276_776 _) ?_
          refine i_if (t := 782) r_276_777 (n_276_777 _) rfl (T_eq (zcmp_rng _ _) ⟨by omega, by omega⟩) (fun c12 => ?_) (fun c12 => ?_)
          · replace h := h.1 c12
            refine i_goto (t := 2908) r_276_782 (n_276_782 _) rfl ?_
            refine i_iinc (x := x4) (l' := [(0, rf 0), (1, rf 2), (2, rf 252), (3, rf 275), (4, iv (x4 + 7)), (5, iv y3), (6, iv y6)]) r_276_2908 (n_276_2908 _) (by decide) rfl rfl ?_
            refine i_goto (t := 23) r_276_2911 (n_276_2911 _) rfl ?_
            exact wp_pr (l' := [(0, rf 0), (1, rf 2), (2, rf 252), (3, rf 275), (4, iv (x4 + 7))]) rfl h
          · replace h := h.2 c12
            refine i_iconst r_276_780 (n_276_780 _) ?_
            exact i_zreturn r_276_781 (n_276_781 _) rfl (by decide) h
      · replace h := h.2 c10
        refine i_iconst r_276_763 (n_276_763 _) ?_
        exact i_zreturn r_276_764 (n_276_764 _) rfl (by decide) h
    · skip
      exact h.elim
  · skip
    exact h.elim
theorem v_Law_law_785 {S : Option (Nat × (Nat → Int32))} {L : Nat} {xs : Nat → Int32} (hS : S = some (L, xs)) {s : zSt} {Q : Option Value ⊕ Nat → zSt → Prop} {x4 : Int} 
    (h : (0 ≤ (x4 + 1) ∧ (x4 + 1) < (L : Int) ∧ rng (x4 + 1)) ∧ ((0 ≤ (x4 + 2) ∧ (x4 + 2) < (L : Int) ∧ rng (x4 + 2)) ∧ (wp S 85 0 [(0, rf 2), (1, iv ((xs (x4 + 1).toNat).toInt)), (2, iv ((xs (x4 + 2).toNat).toInt)), (3, rf 275)] [] s (fun o5 s5 => zkI (fun y5 => wp S 219 0 [(0, rf 252), (1, iv ((xs (x4 + 1).toNat).toInt)), (2, iv ((xs (x4 + 2).toNat).toInt))] [] s5 (fun o9 s9 => zkI (fun y9 => ((zI s9 252 3) = y5 → (y5 ≠ 0 → wp S 276 23 [(0, rf 0), (1, rf 2), (2, rf 252), (3, rf 275), (4, iv (x4 + 7))] [] s9 Q) ∧ (y5 = 0 → ((zcmp (zL s9 275 0) (zi2l y9)) = 0 → wp S 276 23 [(0, rf 0), (1, rf 2), (2, rf 252), (3, rf 275), (4, iv (x4 + 7))] [] s9 Q) ∧ ((zcmp (zL s9 275 0) (zi2l y9)) ≠ 0 → Q (rI 0) s9))) ∧ ((zI s9 252 3) ≠ y5 → Q (rI 0) s9)) (fun e9 => False) o9)) (fun e5 => False) o5)))) :
    wp S 276 785 [(0, rf 0), (1, rf 2), (2, rf 252), (3, rf 275), (4, iv x4)] [] s Q := by
  refine i_aload_n (a := 2) r_276_785 rfl rfl ?_
  refine i_aload_n (a := 0) r_276_786 (n_276_786 _) rfl ?_
  refine i_iload (x := x4) r_276_787 (n_276_787 _) rfl ?_
  refine i_iconst r_276_789 (n_276_789 _) ?_
  refine i_iadd r_276_790 (n_276_790 _) ?_
  obtain ⟨g1, h⟩ := h
  refine i_script hS r_276_791 (n_276_791 _) g1.2.2 g1.1 g1.2.1 (fun q2 => ?_)
  refine i_aload_n (a := 0) r_276_792 (n_276_792 _) rfl ?_
  refine i_iload (x := x4) r_276_793 (n_276_793 _) rfl ?_
  refine i_iconst r_276_795 (n_276_795 _) ?_
  refine i_iadd r_276_796 (n_276_796 _) ?_
  obtain ⟨g3, h⟩ := h
  refine i_script hS r_276_797 (n_276_797 _) g3.2.2 g3.1 g3.2.1 (fun q4 => ?_)
  refine i_aload_n (a := 275) r_276_798 (n_276_798 _) rfl ?_
  refine wp_stat (rest := []) (Ls := [(0, rf 2), (1, iv ((xs (x4 + 1).toNat).toInt)), (2, iv ((xs (x4 + 2).toNat).toInt)), (3, rf 275)]) r_276_799 (n_276_799 _) rfl ⟨rfl, by decide, by decide, by decide⟩ rfl rfl ⟨rfl, Nat.le_of_ble_eq_true rfl, Nat.le_of_ble_eq_true rfl⟩ rfl h ?_
  intro o5 s5 h
  rcases h with ⟨y5, q6, rfl, h⟩ | ⟨e5, rfl, h⟩
  · refine .inl ⟨some (iv y5), rfl, ?_⟩
    show wp S 276 802 [(0, rf 0), (1, rf 2), (2, rf 252), (3, rf 275), (4, iv x4)] [iv y5] s5 Q
    refine i_istore (l' := [(0, rf 0), (1, rf 2), (2, rf 252), (3, rf 275), (4, iv x4), (5, iv y5)]) r_276_802 (n_276_802 _) (by decide) rfl ?_
    refine i_aload_n (a := 252) r_276_804 (n_276_804 _) rfl ?_
    refine i_aload_n (a := 0) r_276_805 (n_276_805 _) rfl ?_
    refine i_iload (x := x4) r_276_806 (n_276_806 _) rfl ?_
    refine i_iconst r_276_808 (n_276_808 _) ?_
    refine i_iadd r_276_809 (n_276_809 _) ?_
    refine i_script hS r_276_810 (n_276_810 _) g1.2.2 g1.1 g1.2.1 (fun q7 => ?_)
    refine i_aload_n (a := 0) r_276_811 (n_276_811 _) rfl ?_
    refine i_iload (x := x4) r_276_812 (n_276_812 _) rfl ?_
    refine i_iconst r_276_814 (n_276_814 _) ?_
    refine i_iadd r_276_815 (n_276_815 _) ?_
    refine i_script hS r_276_816 (n_276_816 _) g3.2.2 g3.1 g3.2.1 (fun q8 => ?_)
    refine wp_virt (b := 252) (rest := []) (Ls := [(0, rf 252), (1, iv ((xs (x4 + 1).toNat).toInt)), (2, iv ((xs (x4 + 2).toNat).toInt))]) r_276_817 (n_276_817 _) rfl ⟨rfl, rfl, by decide, by decide⟩ rfl rfl lf_252 ⟨rfl, Nat.le_of_ble_eq_true rfl, Nat.le_of_ble_eq_true rfl⟩ rfl h ?_
    intro o9 s9 h
    rcases h with ⟨y9, q10, rfl, h⟩ | ⟨e9, rfl, h⟩
    · refine .inl ⟨some (iv y9), rfl, ?_⟩
      show wp S 276 820 [(0, rf 0), (1, rf 2), (2, rf 252), (3, rf 275), (4, iv x4), (5, iv y5)] [iv y9] s9 Q
      refine i_istore (l' := [(0, rf 0), (1, rf 2), (2, rf 252), (3, rf 275), (4, iv x4), (5, iv y5), (6, iv y9)]) r_276_820 (n_276_820 _) (by decide) rfl ?_
      refine i_aload_n (a := 252) r_276_822 (n_276_822 _) rfl ?_
      refine wp_virt (b := 252) (rest := []) (Ls := [(0, rf 252)]) r_276_823 (n_276_823 _) rfl ⟨rfl, rfl, by decide, by decide⟩ rfl rfl lf_252 ⟨rfl, Nat.le_of_ble_eq_true rfl, Nat.le_of_ble_eq_true rfl⟩ rfl K_Model_thrown ?_
      rintro _ _ ⟨rfl, rfl⟩
      refine .inl ⟨some (iv (zI s9 252 3)), rfl, ?_⟩
      show wp S 276 826 [(0, rf 0), (1, rf 2), (2, rf 252), (3, rf 275), (4, iv x4), (5, iv y5), (6, iv y9)] [iv (zI s9 252 3)] s9 Q
      refine wp_rd (a := 252) (j := 3) (fun q12 => ?_)
      refine i_iload (x := y5) r_276_826 (n_276_826 _) rfl ?_
      refine i_icmp (t := 833) r_276_828 (n_276_828 _) rfl (T_eq q12 q6) (fun c13 => ?_) (fun c13 => ?_)
      · replace h := h.1 c13
        refine i_iload (x := y5) r_276_833 (n_276_833 _) rfl ?_
        refine i_if (t := 850) r_276_835 (n_276_835 _) rfl (T_ne q6 ⟨by omega, by omega⟩) (fun c14 => ?_) (fun c14 => ?_)
        · replace h := h.1 c14
          refine i_goto (t := 2908) r_276_850 (n_276_850 _) rfl ?_
          refine i_iinc (x := x4) (l' := [(0, rf 0), (1, rf 2), (2, rf 252), (3, rf 275), (4, iv (x4 + 7)), (5, iv y5), (6, iv y9)]) r_276_2908 (n_276_2908 _) (by decide) rfl rfl ?_
          refine i_goto (t := 23) r_276_2911 (n_276_2911 _) rfl ?_
          exact wp_pr (l' := [(0, rf 0), (1, rf 2), (2, rf 252), (3, rf 275), (4, iv (x4 + 7))]) rfl h
        · replace h := h.2 c14
          refine i_aload_n (a := 275) r_276_838 (n_276_838 _) rfl ?_
          refine i_iconst r_276_839 (n_276_839 _) ?_
          refine i_laload (a := 275) (j := 0) r_276_840 (n_276_840 _) lf_275 ⟨by omega, by omega⟩ (by omega) (by omega) ?_
          refine i_iload (x := y9) r_276_841 (n_276_841 _) rfl ?_
          refine i_i2l r_276_843 (n_276_843 _) ?_
          refine i_lcmp r_276_844 (n_276_844 _) ?_
          refine i_if (t := 850) r_276_845 (n_276_845 _) rfl (T_eq (zcmp_rng _ _) ⟨by omega, by omega⟩) (fun c15 => ?_) (fun c15 => ?_)
          · replace h := h.1 c15
            refine i_goto (t := 2908) r_276_850 (n_276_850 _) rfl ?_
            refine i_iinc (x := x4) (l' := [(0, rf 0), (1, rf 2), (2, rf 252), (3, rf 275), (4, iv (x4 + 7)), (5, iv y5), (6, iv y9)]) r_276_2908 (n_276_2908 _) (by decide) rfl rfl ?_
            refine i_goto (t := 23) r_276_2911 (n_276_2911 _) rfl ?_
            exact wp_pr (l' := [(0, rf 0), (1, rf 2), (2, rf 252), (3, rf 275), (4, iv (x4 + 7))]) rfl h
          · replace h := h.2 c15
            refine i_iconst r_276_848 (n_276_848 _) ?_
            exact i_zreturn r_276_849 (n_276_849 _) rfl (by decide) h
      · replace h := h.2 c13
        refine i_iconst r_276_831 (n_276_831 _) ?_
        exact i_zreturn r_276_832 (n_276_832 _) rfl (by decide) h
    · skip
      exact h.elim
  · skip
    exact h.elim
theorem v_Law_law_853 {S : Option (Nat × (Nat → Int32))} {L : Nat} {xs : Nat → Int32} (hS : S = some (L, xs)) {s : zSt} {Q : Option Value ⊕ Nat → zSt → Prop} {x4 : Int} 
    (h : (0 ≤ (x4 + 1) ∧ (x4 + 1) < (L : Int) ∧ rng (x4 + 1)) ∧ (wp S 87 0 [(0, rf 2), (1, iv ((xs (x4 + 1).toNat).toInt)), (2, rf 275)] [] s (fun o3 s3 => zkI (fun y3 => wp S 220 0 [(0, rf 252), (1, iv ((xs (x4 + 1).toNat).toInt))] [] s3 (fun o6 s6 => zkI (fun y6 => ((zI s6 252 3) = y3 → (y3 ≠ 0 → wp S 276 23 [(0, rf 0), (1, rf 2), (2, rf 252), (3, rf 275), (4, iv (x4 + 7))] [] s6 Q) ∧ (y3 = 0 → ((zcmp (zL s6 275 0) (zi2l y6)) = 0 → wp S 276 23 [(0, rf 0), (1, rf 2), (2, rf 252), (3, rf 275), (4, iv (x4 + 7))] [] s6 Q) ∧ ((zcmp (zL s6 275 0) (zi2l y6)) ≠ 0 → Q (rI 0) s6))) ∧ ((zI s6 252 3) ≠ y3 → Q (rI 0) s6)) (fun e6 => False) o6)) (fun e3 => False) o3))) :
    wp S 276 853 [(0, rf 0), (1, rf 2), (2, rf 252), (3, rf 275), (4, iv x4)] [] s Q := by
  refine i_aload_n (a := 2) r_276_853 rfl rfl ?_
  refine i_aload_n (a := 0) r_276_854 (n_276_854 _) rfl ?_
  refine i_iload (x := x4) r_276_855 (n_276_855 _) rfl ?_
  refine i_iconst r_276_857 (n_276_857 _) ?_
  refine i_iadd r_276_858 (n_276_858 _) ?_
  obtain ⟨g1, h⟩ := h
  refine i_script hS r_276_859 (n_276_859 _) g1.2.2 g1.1 g1.2.1 (fun q2 => ?_)
  refine i_aload_n (a := 275) r_276_860 (n_276_860 _) rfl ?_
  refine wp_stat (rest := []) (Ls := [(0, rf 2), (1, iv ((xs (x4 + 1).toNat).toInt)), (2, rf 275)]) r_276_861 (n_276_861 _) rfl ⟨rfl, by decide, by decide, by decide⟩ rfl rfl ⟨rfl, Nat.le_of_ble_eq_true rfl, Nat.le_of_ble_eq_true rfl⟩ rfl h ?_
  intro o3 s3 h
  rcases h with ⟨y3, q4, rfl, h⟩ | ⟨e3, rfl, h⟩
  · refine .inl ⟨some (iv y3), rfl, ?_⟩
    show wp S 276 864 [(0, rf 0), (1, rf 2), (2, rf 252), (3, rf 275), (4, iv x4)] [iv y3] s3 Q
    refine i_istore (l' := [(0, rf 0), (1, rf 2), (2, rf 252), (3, rf 275), (4, iv x4), (5, iv y3)]) r_276_864 (n_276_864 _) (by decide) rfl ?_
    refine i_aload_n (a := 252) r_276_866 (n_276_866 _) rfl ?_
    refine i_aload_n (a := 0) r_276_867 (n_276_867 _) rfl ?_
    refine i_iload (x := x4) r_276_868 (n_276_868 _) rfl ?_
    refine i_iconst r_276_870 (n_276_870 _) ?_
    refine i_iadd r_276_871 (n_276_871 _) ?_
    refine i_script hS r_276_872 (n_276_872 _) g1.2.2 g1.1 g1.2.1 (fun q5 => ?_)
    refine wp_virt (b := 252) (rest := []) (Ls := [(0, rf 252), (1, iv ((xs (x4 + 1).toNat).toInt))]) r_276_873 (n_276_873 _) rfl ⟨rfl, rfl, by decide, by decide⟩ rfl rfl lf_252 ⟨rfl, Nat.le_of_ble_eq_true rfl, Nat.le_of_ble_eq_true rfl⟩ rfl h ?_
    intro o6 s6 h
    rcases h with ⟨y6, q7, rfl, h⟩ | ⟨e6, rfl, h⟩
    · refine .inl ⟨some (iv y6), rfl, ?_⟩
      show wp S 276 876 [(0, rf 0), (1, rf 2), (2, rf 252), (3, rf 275), (4, iv x4), (5, iv y3)] [iv y6] s6 Q
      refine i_istore (l' := [(0, rf 0), (1, rf 2), (2, rf 252), (3, rf 275), (4, iv x4), (5, iv y3), (6, iv y6)]) r_276_876 (n_276_876 _) (by decide) rfl ?_
      refine i_aload_n (a := 252) r_276_878 (n_276_878 _) rfl ?_
      refine wp_virt (b := 252) (rest := []) (Ls := [(0, rf 252)]) r_276_879 (n_276_879 _) rfl ⟨rfl, rfl, by decide, by decide⟩ rfl rfl lf_252 ⟨rfl, Nat.le_of_ble_eq_true rfl, Nat.le_of_ble_eq_true rfl⟩ rfl K_Model_thrown ?_
      rintro _ _ ⟨rfl, rfl⟩
      refine .inl ⟨some (iv (zI s6 252 3)), rfl, ?_⟩
      show wp S 276 882 [(0, rf 0), (1, rf 2), (2, rf 252), (3, rf 275), (4, iv x4), (5, iv y3), (6, iv y6)] [iv (zI s6 252 3)] s6 Q
      refine wp_rd (a := 252) (j := 3) (fun q9 => ?_)
      refine i_iload (x := y3) r_276_882 (n_276_882 _) rfl ?_
      refine i_icmp (t := 889) r_276_884 (n_276_884 _) rfl (T_eq q9 q4) (fun c10 => ?_) (fun c10 => ?_)
      · replace h := h.1 c10
        refine i_iload (x := y3) r_276_889 (n_276_889 _) rfl ?_
        refine i_if (t := 906) r_276_891 (n_276_891 _) rfl (T_ne q4 ⟨by omega, by omega⟩) (fun c11 => ?_) (fun c11 => ?_)
        · replace h := h.1 c11
          refine i_goto (t := 2908) r_276_906 (n_276_906 _) rfl ?_
          refine i_iinc (x := x4) (l' := [(0, rf 0), (1, rf 2), (2, rf 252), (3, rf 275), (4, iv (x4 + 7)), (5, iv y3), (6, iv y6)]) r_276_2908 (n_276_2908 _) (by decide) rfl rfl ?_
          refine i_goto (t := 23) r_276_2911 (n_276_2911 _) rfl ?_
          exact wp_pr (l' := [(0, rf 0), (1, rf 2), (2, rf 252), (3, rf 275), (4, iv (x4 + 7))]) rfl h
        · replace h := h.2 c11
          refine i_aload_n (a := 275) r_276_894 (n_276_894 _) rfl ?_
          refine i_iconst r_276_895 (n_276_895 _) ?_
          refine i_laload (a := 275) (j := 0) r_276_896 (n_276_896 _) lf_275 ⟨by omega, by omega⟩ (by omega) (by omega) ?_
          refine i_iload (x := y6) r_276_897 (n_276_897 _) rfl ?_
          refine i_i2l r_276_899 (n_276_899 _) ?_
          refine i_lcmp r_276_900 (n_276_900 _) ?_
          refine i_if (t := 906) r_276_901 (n_276_901 _) rfl (T_eq (zcmp_rng _ _) ⟨by omega, by omega⟩) (fun c12 => ?_) (fun c12 => ?_)
          · replace h := h.1 c12
            refine i_goto (t := 2908) r_276_906 (n_276_906 _) rfl ?_
            refine i_iinc (x := x4) (l' := [(0, rf 0), (1, rf 2), (2, rf 252), (3, rf 275), (4, iv (x4 + 7)), (5, iv y3), (6, iv y6)]) r_276_2908 (n_276_2908 _) (by decide) rfl rfl ?_
            refine i_goto (t := 23) r_276_2911 (n_276_2911 _) rfl ?_
            exact wp_pr (l' := [(0, rf 0), (1, rf 2), (2, rf 252), (3, rf 275), (4, iv (x4 + 7))]) rfl h
          · replace h := h.2 c12
            refine i_iconst r_276_904 (n_276_904 _) ?_
            exact i_zreturn r_276_905 (n_276_905 _) rfl (by decide) h
      · replace h := h.2 c10
        refine i_iconst r_276_887 (n_276_887 _) ?_
        exact i_zreturn r_276_888 (n_276_888 _) rfl (by decide) h
    · skip
      exact h.elim
  · skip
    exact h.elim
theorem v_Law_law_909 {S : Option (Nat × (Nat → Int32))} {L : Nat} {xs : Nat → Int32} (hS : S = some (L, xs)) {s : zSt} {Q : Option Value ⊕ Nat → zSt → Prop} {x4 : Int} 
    (h : wp S 11 0 [(0, rf 2)] [] s (fun o1 s1 => zkI (fun y1 => wp S 221 0 [(0, rf 252)] [] s1 (fun o3 s3 => zkI (fun y3 => (y1 = y3 → wp S 276 23 [(0, rf 0), (1, rf 2), (2, rf 252), (3, rf 275), (4, iv (x4 + 7))] [] s3 Q) ∧ (y1 ≠ y3 → Q (rI 0) s3)) (fun e3 => False) o3)) (fun e1 => False) o1)) :
    wp S 276 909 [(0, rf 0), (1, rf 2), (2, rf 252), (3, rf 275), (4, iv x4)] [] s Q := by
  refine i_aload_n (a := 2) r_276_909 rfl rfl ?_
  refine wp_virt (b := 2) (rest := []) (Ls := [(0, rf 2)]) r_276_910 (n_276_910 _) rfl ⟨rfl, rfl, by decide, by decide⟩ rfl rfl lf_2 ⟨rfl, Nat.le_of_ble_eq_true rfl, Nat.le_of_ble_eq_true rfl⟩ rfl h ?_
  intro o1 s1 h
  rcases h with ⟨y1, q2, rfl, h⟩ | ⟨e1, rfl, h⟩
  · refine .inl ⟨some (iv y1), rfl, ?_⟩
    show wp S 276 913 [(0, rf 0), (1, rf 2), (2, rf 252), (3, rf 275), (4, iv x4)] [iv y1] s1 Q
    refine i_aload_n (a := 252) r_276_913 (n_276_913 _) rfl ?_
    refine wp_virt (b := 252) (rest := [iv y1]) (Ls := [(0, rf 252)]) r_276_914 (n_276_914 _) rfl ⟨rfl, rfl, by decide, by decide⟩ rfl rfl lf_252 ⟨rfl, Nat.le_of_ble_eq_true rfl, Nat.le_of_ble_eq_true rfl⟩ rfl h ?_
    intro o3 s3 h
    rcases h with ⟨y3, q4, rfl, h⟩ | ⟨e3, rfl, h⟩
    · refine .inl ⟨some (iv y3), rfl, ?_⟩
      show wp S 276 917 [(0, rf 0), (1, rf 2), (2, rf 252), (3, rf 275), (4, iv x4)] [iv y3, iv y1] s3 Q
      refine i_icmp (t := 2908) r_276_917 (n_276_917 _) rfl (T_eq q2 q4) (fun c5 => ?_) (fun c5 => ?_)
      · replace h := h.1 c5
        refine i_iinc (x := x4) (l' := [(0, rf 0), (1, rf 2), (2, rf 252), (3, rf 275), (4, iv (x4 + 7))]) r_276_2908 (n_276_2908 _) (by decide) rfl rfl ?_
        refine i_goto (t := 23) r_276_2911 (n_276_2911 _) rfl ?_
        exact wp_pr (l' := [(0, rf 0), (1, rf 2), (2, rf 252), (3, rf 275), (4, iv (x4 + 7))]) rfl h
      · replace h := h.2 c5
        refine i_iconst r_276_920 (n_276_920 _) ?_
        exact i_zreturn r_276_921 (n_276_921 _) rfl (by decide) h
    · skip
      exact h.elim
  · skip
    exact h.elim
theorem v_Law_law_922 {S : Option (Nat × (Nat → Int32))} {L : Nat} {xs : Nat → Int32} (hS : S = some (L, xs)) {s : zSt} {Q : Option Value ⊕ Nat → zSt → Prop} {x4 : Int} 
    (h : (0 ≤ (x4 + 1) ∧ (x4 + 1) < (L : Int) ∧ rng (x4 + 1)) ∧ (wp S 90 0 [(0, rf 2), (1, iv ((xs (x4 + 1).toNat).toInt)), (2, rf 275)] [] s (fun o3 s3 => zkI (fun y3 => wp S 222 0 [(0, rf 252), (1, iv ((xs (x4 + 1).toNat).toInt))] [] s3 (fun o6 s6 => zkI (fun y6 => ((zI s6 252 3) = y3 → (y3 ≠ 0 → wp S 276 23 [(0, rf 0), (1, rf 2), (2, rf 252), (3, rf 275), (4, iv (x4 + 7))] [] s6 Q) ∧ (y3 = 0 → ((zcmp (zL s6 275 0) (zi2l y6)) = 0 → wp S 276 23 [(0, rf 0), (1, rf 2), (2, rf 252), (3, rf 275), (4, iv (x4 + 7))] [] s6 Q) ∧ ((zcmp (zL s6 275 0) (zi2l y6)) ≠ 0 → Q (rI 0) s6))) ∧ ((zI s6 252 3) ≠ y3 → Q (rI 0) s6)) (fun e6 => False) o6)) (fun e3 => False) o3))) :
    wp S 276 922 [(0, rf 0), (1, rf 2), (2, rf 252), (3, rf 275), (4, iv x4)] [] s Q := by
  refine i_aload_n (a := 2) r_276_922 rfl rfl ?_
  refine i_aload_n (a := 0) r_276_923 (n_276_923 _) rfl ?_
  refine i_iload (x := x4) r_276_924 (n_276_924 _) rfl ?_
  refine i_iconst r_276_926 (n_276_926 _) ?_
  refine i_iadd r_276_927 (n_276_927 _) ?_
  obtain ⟨g1, h⟩ := h
  refine i_script hS r_276_928 (n_276_928 _) g1.2.2 g1.1 g1.2.1 (fun q2 => ?_)
  refine i_aload_n (a := 275) r_276_929 (n_276_929 _) rfl ?_
  refine wp_stat (rest := []) (Ls := [(0, rf 2), (1, iv ((xs (x4 + 1).toNat).toInt)), (2, rf 275)]) r_276_930 (n_276_930 _) rfl ⟨rfl, by decide, by decide, by decide⟩ rfl rfl ⟨rfl, Nat.le_of_ble_eq_true rfl, Nat.le_of_ble_eq_true rfl⟩ rfl h ?_
  intro o3 s3 h
  rcases h with ⟨y3, q4, rfl, h⟩ | ⟨e3, rfl, h⟩
  · refine .inl ⟨some (iv y3), rfl, ?_⟩
    show wp S 276 933 [(0, rf 0), (1, rf 2), (2, rf 252), (3, rf 275), (4, iv x4)] [iv y3] s3 Q
    refine i_istore (l' := [(0, rf 0), (1, rf 2), (2, rf 252), (3, rf 275), (4, iv x4), (5, iv y3)]) r_276_933 (n_276_933 _) (by decide) rfl ?_
    refine i_aload_n (a := 252) r_276_935 (n_276_935 _) rfl ?_
    refine i_aload_n (a := 0) r_276_936 (n_276_936 _) rfl ?_
    refine i_iload (x := x4) r_276_937 (n_276_937 _) rfl ?_
    refine i_iconst r_276_939 (n_276_939 _) ?_
    refine i_iadd r_276_940 (n_276_940 _) ?_
    refine i_script hS r_276_941 (n_276_941 _) g1.2.2 g1.1 g1.2.1 (fun q5 => ?_)
    refine wp_virt (b := 252) (rest := []) (Ls := [(0, rf 252), (1, iv ((xs (x4 + 1).toNat).toInt))]) r_276_942 (n_276_942 _) rfl ⟨rfl, rfl, by decide, by decide⟩ rfl rfl lf_252 ⟨rfl, Nat.le_of_ble_eq_true rfl, Nat.le_of_ble_eq_true rfl⟩ rfl h ?_
    intro o6 s6 h
    rcases h with ⟨y6, q7, rfl, h⟩ | ⟨e6, rfl, h⟩
    · refine .inl ⟨some (iv y6), rfl, ?_⟩
      show wp S 276 945 [(0, rf 0), (1, rf 2), (2, rf 252), (3, rf 275), (4, iv x4), (5, iv y3)] [iv y6] s6 Q
      refine i_istore (l' := [(0, rf 0), (1, rf 2), (2, rf 252), (3, rf 275), (4, iv x4), (5, iv y3), (6, iv y6)]) r_276_945 (n_276_945 _) (by decide) rfl ?_
      refine i_aload_n (a := 252) r_276_947 (n_276_947 _) rfl ?_
      refine wp_virt (b := 252) (rest := []) (Ls := [(0, rf 252)]) r_276_948 (n_276_948 _) rfl ⟨rfl, rfl, by decide, by decide⟩ rfl rfl lf_252 ⟨rfl, Nat.le_of_ble_eq_true rfl, Nat.le_of_ble_eq_true rfl⟩ rfl K_Model_thrown ?_
      rintro _ _ ⟨rfl, rfl⟩
      refine .inl ⟨some (iv (zI s6 252 3)), rfl, ?_⟩
      show wp S 276 951 [(0, rf 0), (1, rf 2), (2, rf 252), (3, rf 275), (4, iv x4), (5, iv y3), (6, iv y6)] [iv (zI s6 252 3)] s6 Q
      refine wp_rd (a := 252) (j := 3) (fun q9 => ?_)
      refine i_iload (x := y3) r_276_951 (n_276_951 _) rfl ?_
      refine i_icmp (t := 958) r_276_953 (n_276_953 _) rfl (T_eq q9 q4) (fun c10 => ?_) (fun c10 => ?_)
      · replace h := h.1 c10
        refine i_iload (x := y3) r_276_958 (n_276_958 _) rfl ?_
        refine i_if (t := 975) r_276_960 (n_276_960 _) rfl (T_ne q4 ⟨by omega, by omega⟩) (fun c11 => ?_) (fun c11 => ?_)
        · replace h := h.1 c11
          refine i_goto (t := 2908) r_276_975 (n_276_975 _) rfl ?_
          refine i_iinc (x := x4) (l' := [(0, rf 0), (1, rf 2), (2, rf 252), (3, rf 275), (4, iv (x4 + 7)), (5, iv y3), (6, iv y6)]) r_276_2908 (n_276_2908 _) (by decide) rfl rfl ?_
          refine i_goto (t := 23) r_276_2911 (n_276_2911 _) rfl ?_
          exact wp_pr (l' := [(0, rf 0), (1, rf 2), (2, rf 252), (3, rf 275), (4, iv (x4 + 7))]) rfl h
        · replace h := h.2 c11
          refine i_aload_n (a := 275) r_276_963 (n_276_963 _) rfl ?_
          refine i_iconst r_276_964 (n_276_964 _) ?_
          refine i_laload (a := 275) (j := 0) r_276_965 (n_276_965 _) lf_275 ⟨by omega, by omega⟩ (by omega) (by omega) ?_
          refine i_iload (x := y6) r_276_966 (n_276_966 _) rfl ?_
          refine i_i2l r_276_968 (n_276_968 _) ?_
          refine i_lcmp r_276_969 (n_276_969 _) ?_
          refine i_if (t := 975) r_276_970 (n_276_970 _) rfl (T_eq (zcmp_rng _ _) ⟨by omega, by omega⟩) (fun c12 => ?_) (fun c12 => ?_)
          · replace h := h.1 c12
            refine i_goto (t := 2908) r_276_975 (n_276_975 _) rfl ?_
            refine i_iinc (x := x4) (l' := [(0, rf 0), (1, rf 2), (2, rf 252), (3, rf 275), (4, iv (x4 + 7)), (5, iv y3), (6, iv y6)]) r_276_2908 (n_276_2908 _) (by decide) rfl rfl ?_
            refine i_goto (t := 23) r_276_2911 (n_276_2911 _) rfl ?_
            exact wp_pr (l' := [(0, rf 0), (1, rf 2), (2, rf 252), (3, rf 275), (4, iv (x4 + 7))]) rfl h
          · replace h := h.2 c12
            refine i_iconst r_276_973 (n_276_973 _) ?_
            exact i_zreturn r_276_974 (n_276_974 _) rfl (by decide) h
      · replace h := h.2 c10
        refine i_iconst r_276_956 (n_276_956 _) ?_
        exact i_zreturn r_276_957 (n_276_957 _) rfl (by decide) h
    · skip
      exact h.elim
  · skip
    exact h.elim
theorem v_Law_law_978 {S : Option (Nat × (Nat → Int32))} {L : Nat} {xs : Nat → Int32} (hS : S = some (L, xs)) {s : zSt} {Q : Option Value ⊕ Nat → zSt → Prop} {x4 : Int} 
    (h : (0 ≤ (x4 + 1) ∧ (x4 + 1) < (L : Int) ∧ rng (x4 + 1)) ∧ ((0 ≤ (x4 + 2) ∧ (x4 + 2) < (L : Int) ∧ rng (x4 + 2)) ∧ ((0 ≤ (x4 + 3) ∧ (x4 + 3) < (L : Int) ∧ rng (x4 + 3)) ∧ ((0 ≤ (x4 + 4) ∧ (x4 + 4) < (L : Int) ∧ rng (x4 + 4)) ∧ (wp S 101 0 [(0, rf 2), (1, iv ((xs (x4 + 1).toNat).toInt)), (2, iv ((xs (x4 + 2).toNat).toInt)), (3, iv ((xs (x4 + 3).toNat).toInt)), (4, iv ((xs (x4 + 4).toNat).toInt)), (5, rf 275)] [] s (fun o9 s9 => zkI (fun y9 => wp S 228 0 [(0, rf 252), (1, iv ((xs (x4 + 1).toNat).toInt)), (2, iv ((xs (x4 + 2).toNat).toInt)), (3, iv ((xs (x4 + 3).toNat).toInt)), (4, iv ((xs (x4 + 4).toNat).toInt))] [] s9 (fun o15 s15 => zkI (fun y15 => ((zI s15 252 3) = y9 → (y9 ≠ 0 → wp S 276 23 [(0, rf 0), (1, rf 2), (2, rf 252), (3, rf 275), (4, iv (x4 + 7))] [] s15 Q) ∧ (y9 = 0 → ((zcmp (zL s15 275 0) (zi2l y15)) = 0 → wp S 276 23 [(0, rf 0), (1, rf 2), (2, rf 252), (3, rf 275), (4, iv (x4 + 7))] [] s15 Q) ∧ ((zcmp (zL s15 275 0) (zi2l y15)) ≠ 0 → Q (rI 0) s15))) ∧ ((zI s15 252 3) ≠ y9 → Q (rI 0) s15)) (fun e15 => False) o15)) (fun e9 => False) o9)))))) :
    wp S 276 978 [(0, rf 0), (1, rf 2), (2, rf 252), (3, rf 275), (4, iv x4)] [] s Q := by
  refine i_aload_n (a := 2) r_276_978 rfl rfl ?_
  refine i_aload_n (a := 0) r_276_979 (n_276_979 _) rfl ?_
  refine i_iload (x := x4) r_276_980 (n_276_980 _) rfl ?_
  refine i_iconst r_276_982 (n_276_982 _) ?_
  refine i_iadd r_276_983 (n_276_983 _) ?_
  obtain ⟨g1, h⟩ := h
  refine i_script hS r_276_984 (n_276_984 _) g1.2.2 g1.1 g1.2.1 (fun q2 => ?_)
  refine i_aload_n (a := 0) r_276_985 (n_276_985 _) rfl ?_
  refine i_iload (x := x4) r_276_986 (n_276_986 _) rfl ?_
  refine i_iconst r_276_988 (n_276_988 _) ?_
  refine i_iadd r_276_989 (n_276_989 _) ?_
  obtain ⟨g3, h⟩ := h
  refine i_script hS r_276_990 (n_276_990 _) g3.2.2 g3.1 g3.2.1 (fun q4 => ?_)
  refine i_aload_n (a := 0) r_276_991 (n_276_991 _) rfl ?_
  refine i_iload (x := x4) r_276_992 (n_276_992 _) rfl ?_
  refine i_iconst r_276_994 (n_276_994 _) ?_
  refine i_iadd r_276_995 (n_276_995 _) ?_
  obtain ⟨g5, h⟩ := h
  refine i_script hS r_276_996 (n_276_996 _) g5.2.2 g5.1 g5.2.1 (fun q6 => ?_)
  refine i_aload_n (a := 0) r_276_997 (n_276_997 _) rfl ?_
  refine i_iload (x := x4) r_276_998 (n_276_998 _) rfl ?_
  refine i_iconst r_276_1000 (n_276_1000 _) ?_
  refine i_iadd r_276_1001 (n_276_1001 _) ?_
  obtain ⟨g7, h⟩ := h
  refine i_script hS r_276_1002 (n_276_1002 _) g7.2.2 g7.1 g7.2.1 (fun q8 => ?_)
  refine i_aload_n (a := 275) r_276_1003 (n_276_1003 _) rfl ?_
  refine wp_stat (rest := []) (Ls := [(0, rf 2), (1, iv ((xs (x4 + 1).toNat).toInt)), (2, iv ((xs (x4 + 2).toNat).toInt)), (3, iv ((xs (x4 + 3).toNat).toInt)), (4, iv ((xs (x4 + 4).toNat).toInt)), (5, rf 275)]) r_276_1004 (n_276_1004 _) rfl ⟨rfl, by decide, by decide, by decide⟩ rfl rfl ⟨rfl, Nat.le_of_ble_eq_true rfl, Nat.le_of_ble_eq_true rfl⟩ rfl h ?_
  intro o9 s9 h
  rcases h with ⟨y9, q10, rfl, h⟩ | ⟨e9, rfl, h⟩
  · refine .inl ⟨some (iv y9), rfl, ?_⟩
    show wp S 276 1007 [(0, rf 0), (1, rf 2), (2, rf 252), (3, rf 275), (4, iv x4)] [iv y9] s9 Q
    refine i_istore (l' := [(0, rf 0), (1, rf 2), (2, rf 252), (3, rf 275), (4, iv x4), (5, iv y9)]) r_276_1007 (n_276_1007 _) (by decide) rfl ?_
    refine i_aload_n (a := 252) r_276_1009 (n_276_1009 _) rfl ?_
    refine i_aload_n (a := 0) r_276_1010 (n_276_1010 _) rfl ?_
    refine i_iload (x := x4) r_276_1011 (n_276_1011 _) rfl ?_
    refine i_iconst r_276_1013 (n_276_1013 _) ?_
    refine i_iadd r_276_1014 (n_276_1014 _) ?_
    refine i_script hS r_276_1015 (n_276_1015 _) g1.2.2 g1.1 g1.2.1 (fun q11 => ?_)
    refine i_aload_n (a := 0) r_276_1016 (n_276_1016 _) rfl ?_
    refine i_iload (x := x4) r_276_1017 (n_276_1017 _) rfl ?_
    refine i_iconst r_276_1019 (n_276_1019 _) ?_
    refine i_iadd r_276_1020 (n_276_1020 _) ?_
    refine i_script hS r_276_1021 (n_276_1021 _) g3.2.2 g3.1 g3.2.1 (fun q12 => ?_)
    refine i_aload_n (a := 0) r_276_1022 (n_276_1022 _) rfl ?_
    refine i_iload (x := x4) r_276_1023 (n_276_1023 _) rfl ?_
    refine i_iconst r_276_1025 (n_276_1025 _) ?_
    refine i_iadd r_276_1026 (n_276_1026 _) ?_
    refine i_script hS r_276_1027 (n_276_1027 _) g5.2.2 g5.1 g5.2.1 (fun q13 => ?_)
    refine i_aload_n (a := 0) r_276_1028 (n_276_1028 _) rfl ?_
    refine i_iload (x := x4) r_276_1029 (n_276_1029 _) rfl ?_
    refine i_iconst r_276_1031 (n_276_1031 _) ?_
    refine i_iadd r_276_1032 (n_276_1032 _) ?_
    refine i_script hS r_276_1033 (n_276_1033 _) g7.2.2 g7.1 g7.2.1 (fun q14 => ?_)
    refine wp_virt (b := 252) (rest := []) (Ls := [(0, rf 252), (1, iv ((xs (x4 + 1).toNat).toInt)), (2, iv ((xs (x4 + 2).toNat).toInt)), (3, iv ((xs (x4 + 3).toNat).toInt)), (4, iv ((xs (x4 + 4).toNat).toInt))]) r_276_1034 (n_276_1034 _) rfl ⟨rfl, rfl, by decide, by decide⟩ rfl rfl lf_252 ⟨rfl, Nat.le_of_ble_eq_true rfl, Nat.le_of_ble_eq_true rfl⟩ rfl h ?_
    intro o15 s15 h
    rcases h with ⟨y15, q16, rfl, h⟩ | ⟨e15, rfl, h⟩
    · refine .inl ⟨some (iv y15), rfl, ?_⟩
      show wp S 276 1037 [(0, rf 0), (1, rf 2), (2, rf 252), (3, rf 275), (4, iv x4), (5, iv y9)] [iv y15] s15 Q
      refine i_istore (l' := [(0, rf 0), (1, rf 2), (2, rf 252), (3, rf 275), (4, iv x4), (5, iv y9), (6, iv y15)]) r_276_1037 (n_276_1037 _) (by decide) rfl ?_
      refine i_aload_n (a := 252) r_276_1039 (n_276_1039 _) rfl ?_
      refine wp_virt (b := 252) (rest := []) (Ls := [(0, rf 252)]) r_276_1040 (n_276_1040 _) rfl ⟨rfl, rfl, by decide, by decide⟩ rfl rfl lf_252 ⟨rfl, Nat.le_of_ble_eq_true rfl, Nat.le_of_ble_eq_true rfl⟩ rfl K_Model_thrown ?_
      rintro _ _ ⟨rfl, rfl⟩
      refine .inl ⟨some (iv (zI s15 252 3)), rfl, ?_⟩
      show wp S 276 1043 [(0, rf 0), (1, rf 2), (2, rf 252), (3, rf 275), (4, iv x4), (5, iv y9), (6, iv y15)] [iv (zI s15 252 3)] s15 Q
      refine wp_rd (a := 252) (j := 3) (fun q18 => ?_)
      refine i_iload (x := y9) r_276_1043 (n_276_1043 _) rfl ?_
      refine i_icmp (t := 1050) r_276_1045 (n_276_1045 _) rfl (T_eq q18 q10) (fun c19 => ?_) (fun c19 => ?_)
      · replace h := h.1 c19
        refine i_iload (x := y9) r_276_1050 (n_276_1050 _) rfl ?_
        refine i_if (t := 1067) r_276_1052 (n_276_1052 _) rfl (T_ne q10 ⟨by omega, by omega⟩) (fun c20 => ?_) (fun c20 => ?_)
        · replace h := h.1 c20
          refine i_goto (t := 2908) r_276_1067 (n_276_1067 _) rfl ?_
          refine i_iinc (x := x4) (l' := [(0, rf 0), (1, rf 2), (2, rf 252), (3, rf 275), (4, iv (x4 + 7)), (5, iv y9), (6, iv y15)]) r_276_2908 (n_276_2908 _) (by decide) rfl rfl ?_
          refine i_goto (t := 23) r_276_2911 (n_276_2911 _) rfl ?_
          exact wp_pr (l' := [(0, rf 0), (1, rf 2), (2, rf 252), (3, rf 275), (4, iv (x4 + 7))]) rfl h
        · replace h := h.2 c20
          refine i_aload_n (a := 275) r_276_1055 (n_276_1055 _) rfl ?_
          refine i_iconst r_276_1056 (n_276_1056 _) ?_
          refine i_laload (a := 275) (j := 0) r_276_1057 (n_276_1057 _) lf_275 ⟨by omega, by omega⟩ (by omega) (by omega) ?_
          refine i_iload (x := y15) r_276_1058 (n_276_1058 _) rfl ?_
          refine i_i2l r_276_1060 (n_276_1060 _) ?_
          refine i_lcmp r_276_1061 (n_276_1061 _) ?_
          refine i_if (t := 1067) r_276_1062 (n_276_1062 _) rfl (T_eq (zcmp_rng _ _) ⟨by omega, by omega⟩) (fun c21 => ?_) (fun c21 => ?_)
          · replace h := h.1 c21
            refine i_goto (t := 2908) r_276_1067 (n_276_1067 _) rfl ?_
            refine i_iinc (x := x4) (l' := [(0, rf 0), (1, rf 2), (2, rf 252), (3, rf 275), (4, iv (x4 + 7)), (5, iv y9), (6, iv y15)]) r_276_2908 (n_276_2908 _) (by decide) rfl rfl ?_
            refine i_goto (t := 23) r_276_2911 (n_276_2911 _) rfl ?_
            exact wp_pr (l' := [(0, rf 0), (1, rf 2), (2, rf 252), (3, rf 275), (4, iv (x4 + 7))]) rfl h
          · replace h := h.2 c21
            refine i_iconst r_276_1065 (n_276_1065 _) ?_
            exact i_zreturn r_276_1066 (n_276_1066 _) rfl (by decide) h
      · replace h := h.2 c19
        refine i_iconst r_276_1048 (n_276_1048 _) ?_
        exact i_zreturn r_276_1049 (n_276_1049 _) rfl (by decide) h
    · skip
      exact h.elim
  · skip
    exact h.elim
theorem v_Law_law_1070 {S : Option (Nat × (Nat → Int32))} {L : Nat} {xs : Nat → Int32} (hS : S = some (L, xs)) {s : zSt} {Q : Option Value ⊕ Nat → zSt → Prop} {x4 : Int} 
    (h : (0 ≤ (x4 + 1) ∧ (x4 + 1) < (L : Int) ∧ rng (x4 + 1)) ∧ (wp S 110 0 [(0, rf 2), (1, iv ((xs (x4 + 1).toNat).toInt)), (2, rf 275)] [] s (fun o3 s3 => zkI (fun y3 => wp S 238 0 [(0, rf 252), (1, iv ((xs (x4 + 1).toNat).toInt))] [] s3 (fun o6 s6 => zkI (fun y6 => ((zI s6 252 3) = y3 → (y3 ≠ 0 → wp S 276 23 [(0, rf 0), (1, rf 2), (2, rf 252), (3, rf 275), (4, iv (x4 + 7))] [] s6 Q) ∧ (y3 = 0 → ((zcmp (zL s6 275 0) (zi2l y6)) = 0 → wp S 276 23 [(0, rf 0), (1, rf 2), (2, rf 252), (3, rf 275), (4, iv (x4 + 7))] [] s6 Q) ∧ ((zcmp (zL s6 275 0) (zi2l y6)) ≠ 0 → Q (rI 0) s6))) ∧ ((zI s6 252 3) ≠ y3 → Q (rI 0) s6)) (fun e6 => False) o6)) (fun e3 => False) o3))) :
    wp S 276 1070 [(0, rf 0), (1, rf 2), (2, rf 252), (3, rf 275), (4, iv x4)] [] s Q := by
  refine i_aload_n (a := 2) r_276_1070 rfl rfl ?_
  refine i_aload_n (a := 0) r_276_1071 (n_276_1071 _) rfl ?_
  refine i_iload (x := x4) r_276_1072 (n_276_1072 _) rfl ?_
  refine i_iconst r_276_1074 (n_276_1074 _) ?_
  refine i_iadd r_276_1075 (n_276_1075 _) ?_
  obtain ⟨g1, h⟩ := h
  refine i_script hS r_276_1076 (n_276_1076 _) g1.2.2 g1.1 g1.2.1 (fun q2 => ?_)
  refine i_aload_n (a := 275) r_276_1077 (n_276_1077 _) rfl ?_
  refine wp_stat (rest := []) (Ls := [(0, rf 2), (1, iv ((xs (x4 + 1).toNat).toInt)), (2, rf 275)]) r_276_1078 (n_276_1078 _) rfl ⟨rfl, by decide, by decide, by decide⟩ rfl rfl ⟨rfl, Nat.le_of_ble_eq_true rfl, Nat.le_of_ble_eq_true rfl⟩ rfl h ?_
  intro o3 s3 h
  rcases h with ⟨y3, q4, rfl, h⟩ | ⟨e3, rfl, h⟩
  · refine .inl ⟨some (iv y3), rfl, ?_⟩
    show wp S 276 1081 [(0, rf 0), (1, rf 2), (2, rf 252), (3, rf 275), (4, iv x4)] [iv y3] s3 Q
    refine i_istore (l' := [(0, rf 0), (1, rf 2), (2, rf 252), (3, rf 275), (4, iv x4), (5, iv y3)]) r_276_1081 (n_276_1081 _) (by decide) rfl ?_
    refine i_aload_n (a := 252) r_276_1083 (n_276_1083 _) rfl ?_
    refine i_aload_n (a := 0) r_276_1084 (n_276_1084 _) rfl ?_
    refine i_iload (x := x4) r_276_1085 (n_276_1085 _) rfl ?_
    refine i_iconst r_276_1087 (n_276_1087 _) ?_
    refine i_iadd r_276_1088 (n_276_1088 _) ?_
    refine i_script hS r_276_1089 (n_276_1089 _) g1.2.2 g1.1 g1.2.1 (fun q5 => ?_)
    refine wp_virt (b := 252) (rest := []) (Ls := [(0, rf 252), (1, iv ((xs (x4 + 1).toNat).toInt))]) r_276_1090 (n_276_1090 _) rfl ⟨rfl, rfl, by decide, by decide⟩ rfl rfl lf_252 ⟨rfl, Nat.le_of_ble_eq_true rfl, Nat.le_of_ble_eq_true rfl⟩ rfl h ?_
    intro o6 s6 h
    rcases h with ⟨y6, q7, rfl, h⟩ | ⟨e6, rfl, h⟩
    · refine .inl ⟨some (iv y6), rfl, ?_⟩
      show wp S 276 1093 [(0, rf 0), (1, rf 2), (2, rf 252), (3, rf 275), (4, iv x4), (5, iv y3)] [iv y6] s6 Q
      refine i_istore (l' := [(0, rf 0), (1, rf 2), (2, rf 252), (3, rf 275), (4, iv x4), (5, iv y3), (6, iv y6)]) r_276_1093 (n_276_1093 _) (by decide) rfl ?_
      refine i_aload_n (a := 252) r_276_1095 (n_276_1095 _) rfl ?_
      refine wp_virt (b := 252) (rest := []) (Ls := [(0, rf 252)]) r_276_1096 (n_276_1096 _) rfl ⟨rfl, rfl, by decide, by decide⟩ rfl rfl lf_252 ⟨rfl, Nat.le_of_ble_eq_true rfl, Nat.le_of_ble_eq_true rfl⟩ rfl K_Model_thrown ?_
      rintro _ _ ⟨rfl, rfl⟩
      refine .inl ⟨some (iv (zI s6 252 3)), rfl, ?_⟩
      show wp S 276 1099 [(0, rf 0), (1, rf 2), (2, rf 252), (3, rf 275), (4, iv x4), (5, iv y3), (6, iv y6)] [iv (zI s6 252 3)] s6 Q
      refine wp_rd (a := 252) (j := 3) (fun q9 => ?_)
      refine i_iload (x := y3) r_276_1099 (n_276_1099 _) rfl ?_
      refine i_icmp (t := 1106) r_276_1101 (n_276_1101 _) rfl (T_eq q9 q4) (fun c10 => ?_) (fun c10 => ?_)
      · replace h := h.1 c10
        refine i_iload (x := y3) r_276_1106 (n_276_1106 _) rfl ?_
        refine i_if (t := 1123) r_276_1108 (n_276_1108 _) rfl (T_ne q4 ⟨by omega, by omega⟩) (fun c11 => ?_) (fun c11 => ?_)
        · replace h := h.1 c11
          refine i_goto (t := 2908) r_276_1123 (n_276_1123 _) rfl ?_
          refine i_iinc (x := x4) (l' := [(0, rf 0), (1, rf 2), (2, rf 252), (3, rf 275), (4, iv (x4 + 7)), (5, iv y3), (6, iv y6)]) r_276_2908 (n_276_2908 _) (by decide) rfl rfl ?_
          refine i_goto (t := 23) r_276_2911 (n_276_2911 _) rfl ?_
          exact wp_pr (l' := [(0, rf 0), (1, rf 2), (2, rf 252), (3, rf 275), (4, iv (x4 + 7))]) rfl h
        · replace h := h.2 c11
          refine i_aload_n (a := 275) r_276_1111 (n_276_1111 _) rfl ?_
          refine i_iconst r_276_1112 (n_276_1112 _) ?_
          refine i_laload (a := 275) (j := 0) r_276_1113 (n_276_1113 _) lf_275 ⟨by omega, by omega⟩ (by omega) (by omega) ?_
          refine i_iload (x := y6) r_276_1114 (n_276_1114 _) rfl ?_
          refine i_i2l r_276_1116 (n_276_1116 _) ?_
          refine i_lcmp r_276_1117 (n_276_1117 _) ?_
          refine i_if (t := 1123) r_276_1118 (n_276_1118 _) rfl (T_eq (zcmp_rng _ _) ⟨by omega, by omega⟩) (fun c12 => ?_) (fun c12 => ?_)
          · replace h := h.1 c12
            refine i_goto (t := 2908) r_276_1123 (n_276_1123 _) rfl ?_
            refine i_iinc (x := x4) (l' := [(0, rf 0), (1, rf 2), (2, rf 252), (3, rf 275), (4, iv (x4 + 7)), (5, iv y3), (6, iv y6)]) r_276_2908 (n_276_2908 _) (by decide) rfl rfl ?_
            refine i_goto (t := 23) r_276_2911 (n_276_2911 _) rfl ?_
            exact wp_pr (l' := [(0, rf 0), (1, rf 2), (2, rf 252), (3, rf 275), (4, iv (x4 + 7))]) rfl h
          · replace h := h.2 c12
            refine i_iconst r_276_1121 (n_276_1121 _) ?_
            exact i_zreturn r_276_1122 (n_276_1122 _) rfl (by decide) h
      · replace h := h.2 c10
        refine i_iconst r_276_1104 (n_276_1104 _) ?_
        exact i_zreturn r_276_1105 (n_276_1105 _) rfl (by decide) h
    · skip
      exact h.elim
  · skip
    exact h.elim
theorem v_Law_law_1126 {S : Option (Nat × (Nat → Int32))} {L : Nat} {xs : Nat → Int32} (hS : S = some (L, xs)) {s : zSt} {Q : Option Value ⊕ Nat → zSt → Prop} {x4 : Int} 
    (h : wp S 12 0 [(0, rf 2)] [] s (fun o1 s1 => zkI (fun y1 => wp S 239 0 [(0, rf 252)] [] s1 (fun o3 s3 => zkI (fun y3 => (y1 = y3 → wp S 276 23 [(0, rf 0), (1, rf 2), (2, rf 252), (3, rf 275), (4, iv (x4 + 7))] [] s3 Q) ∧ (y1 ≠ y3 → Q (rI 0) s3)) (fun e3 => False) o3)) (fun e1 => False) o1)) :
    wp S 276 1126 [(0, rf 0), (1, rf 2), (2, rf 252), (3, rf 275), (4, iv x4)] [] s Q := by
  refine i_aload_n (a := 2) r_276_1126 rfl rfl ?_
  refine wp_virt (b := 2) (rest := []) (Ls := [(0, rf 2)]) r_276_1127 (n_276_1127 _) rfl ⟨rfl, rfl, by decide, by decide⟩ rfl rfl lf_2 ⟨rfl, Nat.le_of_ble_eq_true rfl, Nat.le_of_ble_eq_true rfl⟩ rfl h ?_
  intro o1 s1 h
  rcases h with ⟨y1, q2, rfl, h⟩ | ⟨e1, rfl, h⟩
  · refine .inl ⟨some (iv y1), rfl, ?_⟩
    show wp S 276 1130 [(0, rf 0), (1, rf 2), (2, rf 252), (3, rf 275), (4, iv x4)] [iv y1] s1 Q
    refine i_aload_n (a := 252) r_276_1130 (n_276_1130 _) rfl ?_
    refine wp_virt (b := 252) (rest := [iv y1]) (Ls := [(0, rf 252)]) r_276_1131 (n_276_1131 _) rfl ⟨rfl, rfl, by decide, by decide⟩ rfl rfl lf_252 ⟨rfl, Nat.le_of_ble_eq_true rfl, Nat.le_of_ble_eq_true rfl⟩ rfl h ?_
    intro o3 s3 h
    rcases h with ⟨y3, q4, rfl, h⟩ | ⟨e3, rfl, h⟩
    · refine .inl ⟨some (iv y3), rfl, ?_⟩
      show wp S 276 1134 [(0, rf 0), (1, rf 2), (2, rf 252), (3, rf 275), (4, iv x4)] [iv y3, iv y1] s3 Q
      refine i_icmp (t := 2908) r_276_1134 (n_276_1134 _) rfl (T_eq q2 q4) (fun c5 => ?_) (fun c5 => ?_)
      · replace h := h.1 c5
        refine i_iinc (x := x4) (l' := [(0, rf 0), (1, rf 2), (2, rf 252), (3, rf 275), (4, iv (x4 + 7))]) r_276_2908 (n_276_2908 _) (by decide) rfl rfl ?_
        refine i_goto (t := 23) r_276_2911 (n_276_2911 _) rfl ?_
        exact wp_pr (l' := [(0, rf 0), (1, rf 2), (2, rf 252), (3, rf 275), (4, iv (x4 + 7))]) rfl h
      · replace h := h.2 c5
        refine i_iconst r_276_1137 (n_276_1137 _) ?_
        exact i_zreturn r_276_1138 (n_276_1138 _) rfl (by decide) h
    · skip
      exact h.elim
  · skip
    exact h.elim
theorem v_Law_law_1139 {S : Option (Nat × (Nat → Int32))} {L : Nat} {xs : Nat → Int32} (hS : S = some (L, xs)) {s : zSt} {Q : Option Value ⊕ Nat → zSt → Prop} {x4 : Int} 
    (h : (0 ≤ (x4 + 1) ∧ (x4 + 1) < (L : Int) ∧ rng (x4 + 1)) ∧ ((0 ≤ (x4 + 2) ∧ (x4 + 2) < (L : Int) ∧ rng (x4 + 2)) ∧ (wp S 113 0 [(0, rf 2), (1, iv ((xs (x4 + 1).toNat).toInt)), (2, iv ((xs (x4 + 2).toNat).toInt)), (3, rf 275)] [] s (fun o5 s5 => zkI (fun y5 => wp S 241 0 [(0, rf 252), (1, iv ((xs (x4 + 1).toNat).toInt)), (2, iv ((xs (x4 + 2).toNat).toInt))] [] s5 (fun o9 s9 => zkI (fun y9 => ((zI s9 252 3) = y5 → (y5 ≠ 0 → wp S 276 23 [(0, rf 0), (1, rf 2), (2, rf 252), (3, rf 275), (4, iv (x4 + 7))] [] s9 Q) ∧ (y5 = 0 → ((zcmp (zL s9 275 0) (zi2l y9)) = 0 → wp S 276 23 [(0, rf 0), (1, rf 2), (2, rf 252), (3, rf 275), (4, iv (x4 + 7))] [] s9 Q) ∧ ((zcmp (zL s9 275 0) (zi2l y9)) ≠ 0 → Q (rI 0) s9))) ∧ ((zI s9 252 3) ≠ y5 → Q (rI 0) s9)) (fun e9 => False) o9)) (fun e5 => False) o5)))) :
    wp S 276 1139 [(0, rf 0), (1, rf 2), (2, rf 252), (3, rf 275), (4, iv x4)] [] s Q := by
  refine i_aload_n (a := 2) r_276_1139 rfl rfl ?_
  refine i_aload_n (a := 0) r_276_1140 (n_276_1140 _) rfl ?_
  refine i_iload (x := x4) r_276_1141 (n_276_1141 _) rfl ?_
  refine i_iconst r_276_1143 (n_276_1143 _) ?_
  refine i_iadd r_276_1144 (n_276_1144 _) ?_
  obtain ⟨g1, h⟩ := h
  refine i_script hS r_276_1145 (n_276_1145 _) g1.2.2 g1.1 g1.2.1 (fun q2 => ?_)
  refine i_aload_n (a := 0) r_276_1146 (n_276_1146 _) rfl ?_
  refine i_iload (x := x4) r_276_1147 (n_276_1147 _) rfl ?_
  refine i_iconst r_276_1149 (n_276_1149 _) ?_
  refine i_iadd r_276_1150 (n_276_1150 _) ?_
  obtain ⟨g3, h⟩ := h
  refine i_script hS r_276_1151 (n_276_1151 _) g3.2.2 g3.1 g3.2.1 (fun q4 => ?_)
  refine i_aload_n (a := 275) r_276_1152 (n_276_1152 _) rfl ?_
  refine wp_stat (rest := []) (Ls := [(0, rf 2), (1, iv ((xs (x4 + 1).toNat).toInt)), (2, iv ((xs (x4 + 2).toNat).toInt)), (3, rf 275)]) r_276_1153 (n_276_1153 _) rfl ⟨rfl, by decide, by decide, by decide⟩ rfl rfl ⟨rfl, Nat.le_of_ble_eq_true rfl, Nat.le_of_ble_eq_true rfl⟩ rfl h ?_
  intro o5 s5 h
  rcases h with ⟨y5, q6, rfl, h⟩ | ⟨e5, rfl, h⟩
  · refine .inl ⟨some (iv y5), rfl, ?_⟩
    show wp S 276 1156 [(0, rf 0), (1, rf 2), (2, rf 252), (3, rf 275), (4, iv x4)] [iv y5] s5 Q
    refine i_istore (l' := [(0, rf 0), (1, rf 2), (2, rf 252), (3, rf 275), (4, iv x4), (5, iv y5)]) r_276_1156 (n_276_1156 _) (by decide) rfl ?_
    refine i_aload_n (a := 252) r_276_1158 (n_276_1158 _) rfl ?_
    refine i_aload_n (a := 0) r_276_1159 (n_276_1159 _) rfl ?_
    refine i_iload (x := x4) r_276_1160 (n_276_1160 _) rfl ?_
    refine i_iconst r_276_1162 (n_276_1162 _) ?_
    refine i_iadd r_276_1163 (n_276_1163 _) ?_
    refine i_script hS r_276_1164 (n_276_1164 _) g1.2.2 g1.1 g1.2.1 (fun q7 => ?_)
    refine i_aload_n (a := 0) r_276_1165 (n_276_1165 _) rfl ?_
    refine i_iload (x := x4) r_276_1166 (n_276_1166 _) rfl ?_
    refine i_iconst r_276_1168 (n_276_1168 _) ?_
    refine i_iadd r_276_1169 (n_276_1169 _) ?_
    refine i_script hS r_276_1170 (n_276_1170 _) g3.2.2 g3.1 g3.2.1 (fun q8 => ?_)
    refine wp_virt (b := 252) (rest := []) (Ls := [(0, rf 252), (1, iv ((xs (x4 + 1).toNat).toInt)), (2, iv ((xs (x4 + 2).toNat).toInt))]) r_276_1171 (n_276_1171 _) rfl ⟨rfl, rfl, by decide, by decide⟩ rfl rfl lf_252 ⟨rfl, Nat.le_of_ble_eq_true rfl, Nat.le_of_ble_eq_true rfl⟩ rfl h ?_
    intro o9 s9 h
    rcases h with ⟨y9, q10, rfl, h⟩ | ⟨e9, rfl, h⟩
    · refine .inl ⟨some (iv y9), rfl, ?_⟩
      show wp S 276 1174 [(0, rf 0), (1, rf 2), (2, rf 252), (3, rf 275), (4, iv x4), (5, iv y5)] [iv y9] s9 Q
      refine i_istore (l' := [(0, rf 0), (1, rf 2), (2, rf 252), (3, rf 275), (4, iv x4), (5, iv y5), (6, iv y9)]) r_276_1174 (n_276_1174 _) (by decide) rfl ?_
      refine i_aload_n (a := 252) r_276_1176 (n_276_1176 _) rfl ?_
      refine wp_virt (b := 252) (rest := []) (Ls := [(0, rf 252)]) r_276_1177 (n_276_1177 _) rfl ⟨rfl, rfl, by decide, by decide⟩ rfl rfl lf_252 ⟨rfl, Nat.le_of_ble_eq_true rfl, Nat.le_of_ble_eq_true rfl⟩ rfl K_Model_thrown ?_
      rintro _ _ ⟨rfl, rfl⟩
      refine .inl ⟨some (iv (zI s9 252 3)), rfl, ?_⟩
      show wp S 276 1180 [(0, rf 0), (1, rf 2), (2, rf 252), (3, rf 275), (4, iv x4), (5, iv y5), (6, iv y9)] [iv (zI s9 252 3)] s9 Q
      refine wp_rd (a := 252) (j := 3) (fun q12 => ?_)
      refine i_iload (x := y5) r_276_1180 (n_276_1180 _) rfl ?_
      refine i_icmp (t := 1187) r_276_1182 (n_276_1182 _) rfl (T_eq q12 q6) (fun c13 => ?_) (fun c13 => ?_)
      · replace h := h.1 c13
        refine i_iload (x := y5) r_276_1187 (n_276_1187 _) rfl ?_
        refine i_if (t := 1204) r_276_1189 (n_276_1189 _) rfl (T_ne q6 ⟨by omega, by omega⟩) (fun c14 => ?_) (fun c14 => ?_)
        · replace h := h.1 c14
          refine i_goto (t := 2908) r_276_1204 (n_276_1204 _) rfl ?_
          refine i_iinc (x := x4) (l' := [(0, rf 0), (1, rf 2), (2, rf 252), (3, rf 275), (4, iv (x4 + 7)), (5, iv y5), (6, iv y9)]) r_276_2908 (n_276_2908 _) (by decide) rfl rfl ?_
          refine i_goto (t := 23) r_276_2911 (n_276_2911 _) rfl ?_
          exact wp_pr (l' := [(0, rf 0), (1, rf 2), (2, rf 252), (3, rf 275), (4, iv (x4 + 7))]) rfl h
        · replace h := h.2 c14
          refine i_aload_n (a := 275) r_276_1192 (n_276_1192 _) rfl ?_
          refine i_iconst r_276_1193 (n_276_1193 _) ?_
          refine i_laload (a := 275) (j := 0) r_276_1194 (n_276_1194 _) lf_275 ⟨by omega, by omega⟩ (by omega) (by omega) ?_
          refine i_iload (x := y9) r_276_1195 (n_276_1195 _) rfl ?_
          refine i_i2l r_276_1197 (n_276_1197 _) ?_
          refine i_lcmp r_276_1198 (n_276_1198 _) ?_
          refine i_if (t := 1204) r_276_1199 (n_276_1199 _) rfl (T_eq (zcmp_rng _ _) ⟨by omega, by omega⟩) (fun c15 => ?_) (fun c15 => ?_)
          · replace h := h.1 c15
            refine i_goto (t := 2908) r_276_1204 (n_276_1204 _) rfl ?_
            refine i_iinc (x := x4) (l' := [(0, rf 0), (1, rf 2), (2, rf 252), (3, rf 275), (4, iv (x4 + 7)), (5, iv y5), (6, iv y9)]) r_276_2908 (n_276_2908 _) (by decide) rfl rfl ?_
            refine i_goto (t := 23) r_276_2911 (n_276_2911 _) rfl ?_
            exact wp_pr (l' := [(0, rf 0), (1, rf 2), (2, rf 252), (3, rf 275), (4, iv (x4 + 7))]) rfl h
          · replace h := h.2 c15
            refine i_iconst r_276_1202 (n_276_1202 _) ?_
            exact i_zreturn r_276_1203 (n_276_1203 _) rfl (by decide) h
      · replace h := h.2 c13
        refine i_iconst r_276_1185 (n_276_1185 _) ?_
        exact i_zreturn r_276_1186 (n_276_1186 _) rfl (by decide) h
    · skip
      exact h.elim
  · skip
    exact h.elim
theorem v_Law_law_1207 {S : Option (Nat × (Nat → Int32))} {L : Nat} {xs : Nat → Int32} (hS : S = some (L, xs)) {s : zSt} {Q : Option Value ⊕ Nat → zSt → Prop} {x4 : Int} 
    (h : (0 ≤ (x4 + 1) ∧ (x4 + 1) < (L : Int) ∧ rng (x4 + 1)) ∧ ((0 ≤ (x4 + 2) ∧ (x4 + 2) < (L : Int) ∧ rng (x4 + 2)) ∧ ((0 ≤ (x4 + 3) ∧ (x4 + 3) < (L : Int) ∧ rng (x4 + 3)) ∧ (wp S 115 0 [(0, rf 2), (1, iv ((xs (x4 + 1).toNat).toInt)), (2, iv ((xs (x4 + 2).toNat).toInt)), (3, iv ((xs (x4 + 3).toNat).toInt)), (4, rf 275)] [] s (fun o7 s7 => zkI (fun y7 => wp S 242 0 [(0, rf 252), (1, iv ((xs (x4 + 1).toNat).toInt)), (2, iv ((xs (x4 + 2).toNat).toInt)), (3, iv ((xs (x4 + 3).toNat).toInt))] [] s7 (fun o12 s12 => zkI (fun y12 => ((zI s12 252 3) = y7 → (y7 ≠ 0 → wp S 276 23 [(0, rf 0), (1, rf 2), (2, rf 252), (3, rf 275), (4, iv (x4 + 7))] [] s12 Q) ∧ (y7 = 0 → ((zcmp (zL s12 275 0) (zi2l y12)) = 0 → wp S 276 23 [(0, rf 0), (1, rf 2), (2, rf 252), (3, rf 275), (4, iv (x4 + 7))] [] s12 Q) ∧ ((zcmp (zL s12 275 0) (zi2l y12)) ≠ 0 → Q (rI 0) s12))) ∧ ((zI s12 252 3) ≠ y7 → Q (rI 0) s12)) (fun e12 => False) o12)) (fun e7 => False) o7))))) :
    wp S 276 1207 [(0, rf 0), (1, rf 2), (2, rf 252), (3, rf 275), (4, iv x4)] [] s Q := by
  refine i_aload_n (a := 2) r_276_1207 rfl rfl ?_
  refine i_aload_n (a := 0) r_276_1208 (n_276_1208 _) rfl ?_
  refine i_iload (x := x4) r_276_1209 (n_276_1209 _) rfl ?_
  refine i_iconst r_276_1211 (n_276_1211 _) ?_
  refine i_iadd r_276_1212 (n_276_1212 _) ?_
  obtain ⟨g1, h⟩ := h
  refine i_script hS r_276_1213 (n_276_1213 _) g1.2.2 g1.1 g1.2.1 (fun q2 => ?_)
  refine i_aload_n (a := 0) r_276_1214 (n_276_1214 _) rfl ?_
  refine i_iload (x := x4) r_276_1215 (n_276_1215 _) rfl ?_
  refine i_iconst r_276_1217 (n_276_1217 _) ?_
  refine i_iadd r_276_1218 (n_276_1218 _) ?_
  obtain ⟨g3, h⟩ := h
  refine i_script hS r_276_1219 (n_276_1219 _) g3.2.2 g3.1 g3.2.1 (fun q4 => ?_)
  refine i_aload_n (a := 0) r_276_1220 (n_276_1220 _) rfl ?_
  refine i_iload (x := x4) r_276_1221 (n_276_1221 _) rfl ?_
  refine i_iconst r_276_1223 (n_276_1223 _) ?_
  refine i_iadd r_276_1224 (n_276_1224 _) ?_
  obtain ⟨g5, h⟩ := h
  refine i_script hS r_276_1225 (n_276_1225 _) g5.2.2 g5.1 g5.2.1 (fun q6 => ?_)
  refine i_aload_n (a := 275) r_276_1226 (n_276_1226 _) rfl ?_
  refine wp_stat (rest := []) (Ls := [(0, rf 2), (1, iv ((xs (x4 + 1).toNat).toInt)), (2, iv ((xs (x4 + 2).toNat).toInt)), (3, iv ((xs (x4 + 3).toNat).toInt)), (4, rf 275)]) r_276_1227 (n_276_1227 _) rfl ⟨rfl, by decide, by decide, by decide⟩ rfl rfl ⟨rfl, Nat.le_of_ble_eq_true rfl, Nat.le_of_ble_eq_true rfl⟩ rfl h ?_
  intro o7 s7 h
  rcases h with ⟨y7, q8, rfl, h⟩ | ⟨e7, rfl, h⟩
  · refine .inl ⟨some (iv y7), rfl, ?_⟩
    show wp S 276 1230 [(0, rf 0), (1, rf 2), (2, rf 252), (3, rf 275), (4, iv x4)] [iv y7] s7 Q
    refine i_istore (l' := [(0, rf 0), (1, rf 2), (2, rf 252), (3, rf 275), (4, iv x4), (5, iv y7)]) r_276_1230 (n_276_1230 _) (by decide) rfl ?_
    refine i_aload_n (a := 252) r_276_1232 (n_276_1232 _) rfl ?_
    refine i_aload_n (a := 0) r_276_1233 (n_276_1233 _) rfl ?_
    refine i_iload (x := x4) r_276_1234 (n_276_1234 _) rfl ?_
    refine i_iconst r_276_1236 (n_276_1236 _) ?_
    refine i_iadd r_276_1237 (n_276_1237 _) ?_
    refine i_script hS r_276_1238 (n_276_1238 _) g1.2.2 g1.1 g1.2.1 (fun q9 => ?_)
    refine i_aload_n (a := 0) r_276_1239 (n_276_1239 _) rfl ?_
    refine i_iload (x := x4) r_276_1240 (n_276_1240 _) rfl ?_
    refine i_iconst r_276_1242 (n_276_1242 _) ?_
    refine i_iadd r_276_1243 (n_276_1243 _) ?_
    refine i_script hS r_276_1244 (n_276_1244 _) g3.2.2 g3.1 g3.2.1 (fun q10 => ?_)
    refine i_aload_n (a := 0) r_276_1245 (n_276_1245 _) rfl ?_
    refine i_iload (x := x4) r_276_1246 (n_276_1246 _) rfl ?_
    refine i_iconst r_276_1248 (n_276_1248 _) ?_
    refine i_iadd r_276_1249 (n_276_1249 _) ?_
    refine i_script hS r_276_1250 (n_276_1250 _) g5.2.2 g5.1 g5.2.1 (fun q11 => ?_)
    refine wp_virt (b := 252) (rest := []) (Ls := [(0, rf 252), (1, iv ((xs (x4 + 1).toNat).toInt)), (2, iv ((xs (x4 + 2).toNat).toInt)), (3, iv ((xs (x4 + 3).toNat).toInt))]) r_276_1251 (n_276_1251 _) rfl ⟨rfl, rfl, by decide, by decide⟩ rfl rfl lf_252 ⟨rfl, Nat.le_of_ble_eq_true rfl, Nat.le_of_ble_eq_true rfl⟩ rfl h ?_
    intro o12 s12 h
    rcases h with ⟨y12, q13, rfl, h⟩ | ⟨e12, rfl, h⟩
    · refine .inl ⟨some (iv y12), rfl, ?_⟩
      show wp S 276 1254 [(0, rf 0), (1, rf 2), (2, rf 252), (3, rf 275), (4, iv x4), (5, iv y7)] [iv y12] s12 Q
      refine i_istore (l' := [(0, rf 0), (1, rf 2), (2, rf 252), (3, rf 275), (4, iv x4), (5, iv y7), (6, iv y12)]) r_276_1254 (n_276_1254 _) (by decide) rfl ?_
      refine i_aload_n (a := 252) r_276_1256 (n_276_1256 _) rfl ?_
      refine wp_virt (b := 252) (rest := []) (Ls := [(0, rf 252)]) r_276_1257 (n_276_1257 _) rfl ⟨rfl, rfl, by decide, by decide⟩ rfl rfl lf_252 ⟨rfl, Nat.le_of_ble_eq_true rfl, Nat.le_of_ble_eq_true rfl⟩ rfl K_Model_thrown ?_
      rintro _ _ ⟨rfl, rfl⟩
      refine .inl ⟨some (iv (zI s12 252 3)), rfl, ?_⟩
      show wp S 276 1260 [(0, rf 0), (1, rf 2), (2, rf 252), (3, rf 275), (4, iv x4), (5, iv y7), (6, iv y12)] [iv (zI s12 252 3)] s12 Q
      refine wp_rd (a := 252) (j := 3) (fun q15 => ?_)
      refine i_iload (x := y7) r_276_1260 (n_276_1260 _) rfl ?_
      refine i_icmp (t := 1267) r_276_1262 (n_276_1262 _) rfl (T_eq q15 q8) (fun c16 => ?_) (fun c16 => ?_)
      · replace h := h.1 c16
        refine i_iload (x := y7) r_276_1267 (n_276_1267 _) rfl ?_
        refine i_if (t := 1284) r_276_1269 (n_276_1269 _) rfl (T_ne q8 ⟨by omega, by omega⟩) (fun c17 => ?_) (fun c17 => ?_)
        · replace h := h.1 c17
          refine i_goto (t := 2908) r_276_1284 (n_276_1284 _) rfl ?_
          refine i_iinc (x := x4) (l' := [(0, rf 0), (1, rf 2), (2, rf 252), (3, rf 275), (4, iv (x4 + 7)), (5, iv y7), (6, iv y12)]) r_276_2908 (n_276_2908 _) (by decide) rfl rfl ?_
          refine i_goto (t := 23) r_276_2911 (n_276_2911 _) rfl ?_
          exact wp_pr (l' := [(0, rf 0), (1, rf 2), (2, rf 252), (3, rf 275), (4, iv (x4 + 7))]) rfl h
        · replace h := h.2 c17
          refine i_aload_n (a := 275) r_276_1272 (n_276_1272 _) rfl ?_
          refine i_iconst r_276_1273 (n_276_1273 _) ?_
          refine i_laload (a := 275) (j := 0) r_276_1274 (n_276_1274 _) lf_275 ⟨by omega, by omega⟩ (by omega) (by omega) ?_
          refine i_iload (x := y12) r_276_1275 (n_276_1275 _) rfl ?_
          refine i_i2l r_276_1277 (n_276_1277 _) ?_
          refine i_lcmp r_276_1278 (n_276_1278 _) ?_
          refine i_if (t := 1284) r_276_1279 (n_276_1279 _) rfl (T_eq (zcmp_rng _ _) ⟨by omega, by omega⟩) (fun c18 => ?_) (fun c18 => ?_)
          · replace h := h.1 c18
            refine i_goto (t := 2908) r_276_1284 (n_276_1284 _) rfl ?_
            refine i_iinc (x := x4) (l' := [(0, rf 0), (1, rf 2), (2, rf 252), (3, rf 275), (4, iv (x4 + 7)), (5, iv y7), (6, iv y12)]) r_276_2908 (n_276_2908 _) (by decide) rfl rfl ?_
            refine i_goto (t := 23) r_276_2911 (n_276_2911 _) rfl ?_
            exact wp_pr (l' := [(0, rf 0), (1, rf 2), (2, rf 252), (3, rf 275), (4, iv (x4 + 7))]) rfl h
          · replace h := h.2 c18
            refine i_iconst r_276_1282 (n_276_1282 _) ?_
            exact i_zreturn r_276_1283 (n_276_1283 _) rfl (by decide) h
      · replace h := h.2 c16
        refine i_iconst r_276_1265 (n_276_1265 _) ?_
        exact i_zreturn r_276_1266 (n_276_1266 _) rfl (by decide) h
    · skip
      exact h.elim
  · skip
    exact h.elim
theorem v_Law_law_1287 {S : Option (Nat × (Nat → Int32))} {L : Nat} {xs : Nat → Int32} (hS : S = some (L, xs)) {s : zSt} {Q : Option Value ⊕ Nat → zSt → Prop} {x4 : Int} 
    (h : (0 ≤ (x4 + 1) ∧ (x4 + 1) < (L : Int) ∧ rng (x4 + 1)) ∧ ((0 ≤ (x4 + 2) ∧ (x4 + 2) < (L : Int) ∧ rng (x4 + 2)) ∧ ((0 ≤ (x4 + 3) ∧ (x4 + 3) < (L : Int) ∧ rng (x4 + 3)) ∧ (wp S 124 0 [(0, rf 2), (1, iv ((xs (x4 + 1).toNat).toInt)), (2, iv ((xs (x4 + 2).toNat).toInt)), (3, iv ((xs (x4 + 3).toNat).toInt)), (4, rf 275)] [] s (fun o7 s7 => zkI (fun y7 => wp S 247 0 [(0, rf 252), (1, iv ((xs (x4 + 1).toNat).toInt)), (2, iv ((xs (x4 + 2).toNat).toInt)), (3, iv ((xs (x4 + 3).toNat).toInt))] [] s7 (fun o12 s12 => zkL (fun y12 => ((zI s12 252 3) = y7 → (y7 ≠ 0 → wp S 276 23 [(0, rf 0), (1, rf 2), (2, rf 252), (3, rf 275), (4, iv (x4 + 7))] [] s12 Q) ∧ (y7 = 0 → ((zcmp (zL s12 275 0) y12) = 0 → wp S 276 23 [(0, rf 0), (1, rf 2), (2, rf 252), (3, rf 275), (4, iv (x4 + 7))] [] s12 Q) ∧ ((zcmp (zL s12 275 0) y12) ≠ 0 → Q (rI 0) s12))) ∧ ((zI s12 252 3) ≠ y7 → Q (rI 0) s12)) (fun e12 => False) o12)) (fun e7 => False) o7))))) :
    wp S 276 1287 [(0, rf 0), (1, rf 2), (2, rf 252), (3, rf 275), (4, iv x4)] [] s Q := by
  refine i_aload_n (a := 2) r_276_1287 rfl rfl ?_
  refine i_aload_n (a := 0) r_276_1288 (n_276_1288 _) rfl ?_
  refine i_iload (x := x4) r_276_1289 (n_276_1289 _) rfl ?_
  refine i_iconst r_276_1291 (n_276_1291 _) ?_
  refine i_iadd r_276_1292 (n_276_1292 _) ?_
  obtain ⟨g1, h⟩ := h
  refine i_script hS r_276_1293 (n_276_1293 _) g1.2.2 g1.1 g1.2.1 (fun q2 => ?_)
  refine i_aload_n (a := 0) r_276_1294 (n_276_1294 _) rfl ?_
  refine i_iload (x := x4) r_276_1295 (n_276_1295 _) rfl ?_
  refine i_iconst r_276_1297 (n_276_1297 _) ?_
  refine i_iadd r_276_1298 (n_276_1298 _) ?_
  obtain ⟨g3, h⟩ := h
  refine i_script hS r_276_1299 (n_276_1299 _) g3.2.2 g3.1 g3.2.1 (fun q4 => ?_)
  refine i_aload_n (a := 0) r_276_1300 (n_276_1300 _) rfl ?_
  refine i_iload (x := x4) r_276_1301 (n_276_1301 _) rfl ?_
  refine i_iconst r_276_1303 (n_276_1303 _) ?_
  refine i_iadd r_276_1304 (n_276_1304 _) ?_
  obtain ⟨g5, h⟩ := h
  refine i_script hS r_276_1305 (n_276_1305 _) g5.2.2 g5.1 g5.2.1 (fun q6 => ?_)
  refine i_aload_n (a := 275) r_276_1306 (n_276_1306 _) rfl ?_
  refine wp_stat (rest := []) (Ls := [(0, rf 2), (1, iv ((xs (x4 + 1).toNat).toInt)), (2, iv ((xs (x4 + 2).toNat).toInt)), (3, iv ((xs (x4 + 3).toNat).toInt)), (4, rf 275)]) r_276_1307 (n_276_1307 _) rfl ⟨rfl, by decide, by decide, by decide⟩ rfl rfl ⟨rfl, Nat.le_of_ble_eq_true rfl, Nat.le_of_ble_eq_true rfl⟩ rfl h ?_
  intro o7 s7 h
  rcases h with ⟨y7, q8, rfl, h⟩ | ⟨e7, rfl, h⟩
  · refine .inl ⟨some (iv y7), rfl, ?_⟩
    show wp S 276 1310 [(0, rf 0), (1, rf 2), (2, rf 252), (3, rf 275), (4, iv x4)] [iv y7] s7 Q
    refine i_istore (l' := [(0, rf 0), (1, rf 2), (2, rf 252), (3, rf 275), (4, iv x4), (5, iv y7)]) r_276_1310 (n_276_1310 _) (by decide) rfl ?_
    refine i_aload_n (a := 252) r_276_1312 (n_276_1312 _) rfl ?_
    refine i_aload_n (a := 0) r_276_1313 (n_276_1313 _) rfl ?_
    refine i_iload (x := x4) r_276_1314 (n_276_1314 _) rfl ?_
    refine i_iconst r_276_1316 (n_276_1316 _) ?_
    refine i_iadd r_276_1317 (n_276_1317 _) ?_
    refine i_script hS r_276_1318 (n_276_1318 _) g1.2.2 g1.1 g1.2.1 (fun q9 => ?_)
    refine i_aload_n (a := 0) r_276_1319 (n_276_1319 _) rfl ?_
    refine i_iload (x := x4) r_276_1320 (n_276_1320 _) rfl ?_
    refine i_iconst r_276_1322 (n_276_1322 _) ?_
    refine i_iadd r_276_1323 (n_276_1323 _) ?_
    refine i_script hS r_276_1324 (n_276_1324 _) g3.2.2 g3.1 g3.2.1 (fun q10 => ?_)
    refine i_aload_n (a := 0) r_276_1325 (n_276_1325 _) rfl ?_
    refine i_iload (x := x4) r_276_1326 (n_276_1326 _) rfl ?_
    refine i_iconst r_276_1328 (n_276_1328 _) ?_
    refine i_iadd r_276_1329 (n_276_1329 _) ?_
    refine i_script hS r_276_1330 (n_276_1330 _) g5.2.2 g5.1 g5.2.1 (fun q11 => ?_)
    refine wp_virt (b := 252) (rest := []) (Ls := [(0, rf 252), (1, iv ((xs (x4 + 1).toNat).toInt)), (2, iv ((xs (x4 + 2).toNat).toInt)), (3, iv ((xs (x4 + 3).toNat).toInt))]) r_276_1331 (n_276_1331 _) rfl ⟨rfl, rfl, by decide, by decide⟩ rfl rfl lf_252 ⟨rfl, Nat.le_of_ble_eq_true rfl, Nat.le_of_ble_eq_true rfl⟩ rfl h ?_
    intro o12 s12 h
    rcases h with ⟨y12, rfl, h⟩ | ⟨e12, rfl, h⟩
    · refine .inl ⟨some (.long y12), rfl, ?_⟩
      show wp S 276 1334 [(0, rf 0), (1, rf 2), (2, rf 252), (3, rf 275), (4, iv x4), (5, iv y7)] [.long y12] s12 Q
      refine i_lstore (l' := [(0, rf 0), (1, rf 2), (2, rf 252), (3, rf 275), (4, iv x4), (5, iv y7), (6, .long y12)]) r_276_1334 (n_276_1334 _) (by decide) rfl ?_
      refine i_aload_n (a := 252) r_276_1336 (n_276_1336 _) rfl ?_
      refine wp_virt (b := 252) (rest := []) (Ls := [(0, rf 252)]) r_276_1337 (n_276_1337 _) rfl ⟨rfl, rfl, by decide, by decide⟩ rfl rfl lf_252 ⟨rfl, Nat.le_of_ble_eq_true rfl, Nat.le_of_ble_eq_true rfl⟩ rfl K_Model_thrown ?_
      rintro _ _ ⟨rfl, rfl⟩
      refine .inl ⟨some (iv (zI s12 252 3)), rfl, ?_⟩
      show wp S 276 1340 [(0, rf 0), (1, rf 2), (2, rf 252), (3, rf 275), (4, iv x4), (5, iv y7), (6, .long y12)] [iv (zI s12 252 3)] s12 Q
      refine wp_rd (a := 252) (j := 3) (fun q15 => ?_)
      refine i_iload (x := y7) r_276_1340 (n_276_1340 _) rfl ?_
      refine i_icmp (t := 1347) r_276_1342 (n_276_1342 _) rfl (T_eq q15 q8) (fun c16 => ?_) (fun c16 => ?_)
      · replace h := h.1 c16
        refine i_iload (x := y7) r_276_1347 (n_276_1347 _) rfl ?_
        refine i_if (t := 1363) r_276_1349 (n_276_1349 _) rfl (T_ne q8 ⟨by omega, by omega⟩) (fun c17 => ?_) (fun c17 => ?_)
        · replace h := h.1 c17
          refine i_goto (t := 2908) r_276_1363 (n_276_1363 _) rfl ?_
          refine i_iinc (x := x4) (l' := [(0, rf 0), (1, rf 2), (2, rf 252), (3, rf 275), (4, iv (x4 + 7)), (5, iv y7), (6, .long y12)]) r_276_2908 (n_276_2908 _) (by decide) rfl rfl ?_
          refine i_goto (t := 23) r_276_2911 (n_276_2911 _) rfl ?_
          exact wp_pr (l' := [(0, rf 0), (1, rf 2), (2, rf 252), (3, rf 275), (4, iv (x4 + 7))]) rfl h
        · replace h := h.2 c17
          refine i_aload_n (a := 275) r_276_1352 (n_276_1352 _) rfl ?_
          refine i_iconst r_276_1353 (n_276_1353 _) ?_
          refine i_laload (a := 275) (j := 0) r_276_1354 (n_276_1354 _) lf_275 ⟨by omega, by omega⟩ (by omega) (by omega) ?_
          refine i_lload (u := y12) r_276_1355 (n_276_1355 _) rfl ?_
          refine i_lcmp r_276_1357 (n_276_1357 _) ?_
          refine i_if (t := 1363) r_276_1358 (n_276_1358 _) rfl (T_eq (zcmp_rng _ _) ⟨by omega, by omega⟩) (fun c18 => ?_) (fun c18 => ?_)
          · replace h := h.1 c18
            refine i_goto (t := 2908) r_276_1363 (n_276_1363 _) rfl ?_
            refine i_iinc (x := x4) (l' := [(0, rf 0), (1, rf 2), (2, rf 252), (3, rf 275), (4, iv (x4 + 7)), (5, iv y7), (6, .long y12)]) r_276_2908 (n_276_2908 _) (by decide) rfl rfl ?_
            refine i_goto (t := 23) r_276_2911 (n_276_2911 _) rfl ?_
            exact wp_pr (l' := [(0, rf 0), (1, rf 2), (2, rf 252), (3, rf 275), (4, iv (x4 + 7))]) rfl h
          · replace h := h.2 c18
            refine i_iconst r_276_1361 (n_276_1361 _) ?_
            exact i_zreturn r_276_1362 (n_276_1362 _) rfl (by decide) h
      · replace h := h.2 c16
        refine i_iconst r_276_1345 (n_276_1345 _) ?_
        exact i_zreturn r_276_1346 (n_276_1346 _) rfl (by decide) h
    · skip
      exact h.elim
  · skip
    exact h.elim
theorem v_Law_law_1366 {S : Option (Nat × (Nat → Int32))} {L : Nat} {xs : Nat → Int32} (hS : S = some (L, xs)) {s : zSt} {Q : Option Value ⊕ Nat → zSt → Prop} {x4 : Int} 
    (h : (0 ≤ (x4 + 1) ∧ (x4 + 1) < (L : Int) ∧ rng (x4 + 1)) ∧ ((0 ≤ (x4 + 2) ∧ (x4 + 2) < (L : Int) ∧ rng (x4 + 2)) ∧ ((0 ≤ (x4 + 3) ∧ (x4 + 3) < (L : Int) ∧ rng (x4 + 3)) ∧ ((0 ≤ (x4 + 4) ∧ (x4 + 4) < (L : Int) ∧ rng (x4 + 4)) ∧ ((0 ≤ (x4 + 5) ∧ (x4 + 5) < (L : Int) ∧ rng (x4 + 5)) ∧ (wp S 129 0 [(0, rf 2), (1, iv ((xs (x4 + 1).toNat).toInt)), (2, iv ((xs (x4 + 2).toNat).toInt)), (3, iv ((xs (x4 + 3).toNat).toInt)), (4, .long ((zshlL (zi2l ((xs (x4 + 4).toNat).toInt)) 32) ||| ((zi2l ((xs (x4 + 5).toNat).toInt)) &&& 4294967295))), (6, rf 275)] [] s (fun o11 s11 => zkI (fun y11 => wp S 251 0 [(0, rf 252), (1, iv ((xs (x4 + 1).toNat).toInt)), (2, iv ((xs (x4 + 2).toNat).toInt)), (3, iv ((xs (x4 + 3).toNat).toInt)), (4, .long ((zshlL (zi2l ((xs (x4 + 4).toNat).toInt)) 32) ||| ((zi2l ((xs (x4 + 5).toNat).toInt)) &&& 4294967295)))] [] s11 (fun o18 s18 => zkL (fun y18 => ((zI s18 252 3) = y11 → (y11 ≠ 0 → wp S 276 23 [(0, rf 0), (1, rf 2), (2, rf 252), (3, rf 275), (4, iv (x4 + 7))] [] s18 Q) ∧ (y11 = 0 → ((zcmp (zL s18 275 0) y18) = 0 → wp S 276 23 [(0, rf 0), (1, rf 2), (2, rf 252), (3, rf 275), (4, iv (x4 + 7))] [] s18 Q) ∧ ((zcmp (zL s18 275 0) y18) ≠ 0 → Q (rI 0) s18))) ∧ ((zI s18 252 3) ≠ y11 → Q (rI 0) s18)) (fun e18 => False) o18)) (fun e11 => False) o11))))))) :
    wp S 276 1366 [(0, rf 0), (1, rf 2), (2, rf 252), (3, rf 275), (4, iv x4)] [] s Q := by
  refine i_aload_n (a := 2) r_276_1366 rfl rfl ?_
  refine i_aload_n (a := 0) r_276_1367 (n_276_1367 _) rfl ?_
  refine i_iload (x := x4) r_276_1368 (n_276_1368 _) rfl ?_
  refine i_iconst r_276_1370 (n_276_1370 _) ?_
  refine i_iadd r_276_1371 (n_276_1371 _) ?_
  obtain ⟨g1, h⟩ := h
  refine i_script hS r_276_1372 (n_276_1372 _) g1.2.2 g1.1 g1.2.1 (fun q2 => ?_)
  refine i_aload_n (a := 0) r_276_1373 (n_276_1373 _) rfl ?_
  refine i_iload (x := x4) r_276_1374 (n_276_1374 _) rfl ?_
  refine i_iconst r_276_1376 (n_276_1376 _) ?_
  refine i_iadd r_276_1377 (n_276_1377 _) ?_
  obtain ⟨g3, h⟩ := h
  refine i_script hS r_276_1378 (n_276_1378 _) g3.2.2 g3.1 g3.2.1 (fun q4 => ?_)
  refine i_aload_n (a := 0) r_276_1379 (n_276_1379 _) rfl ?_
  refine i_iload (x := x4) r_276_1380 (n_276_1380 _) rfl ?_
  refine i_iconst r_276_1382 (n_276_1382 _) ?_
  refine i_iadd r_276_1383 (n_276_1383 _) ?_
  obtain ⟨g5, h⟩ := h
  refine i_script hS r_276_1384 (n_276_1384 _) g5.2.2 g5.1 g5.2.1 (fun q6 => ?_)
  refine i_aload_n (a := 0) r_276_1385 (n_276_1385 _) rfl ?_
  refine i_iload (x := x4) r_276_1386 (n_276_1386 _) rfl ?_
  refine i_iconst r_276_1388 (n_276_1388 _) ?_
  refine i_iadd r_276_1389 (n_276_1389 _) ?_
  obtain ⟨g7, h⟩ := h
  refine i_script hS r_276_1390 (n_276_1390 _) g7.2.2 g7.1 g7.2.1 (fun q8 => ?_)
  refine i_i2l r_276_1391 (n_276_1391 _) ?_
  refine i_bipush r_276_1392 (n_276_1392 _) rfl ?_
  refine i_lshl r_276_1394 (n_276_1394 _) ?_
  refine i_aload_n (a := 0) r_276_1395 (n_276_1395 _) rfl ?_
  refine i_iload (x := x4) r_276_1396 (n_276_1396 _) rfl ?_
  refine i_iconst r_276_1398 (n_276_1398 _) ?_
  refine i_iadd r_276_1399 (n_276_1399 _) ?_
  obtain ⟨g9, h⟩ := h
  refine i_script hS r_276_1400 (n_276_1400 _) g9.2.2 g9.1 g9.2.1 (fun q10 => ?_)
  refine i_i2l r_276_1401 (n_276_1401 _) ?_
  refine i_ldc2 r_276_1402 (n_276_1402 _) rfl ?_
  refine i_land r_276_1405 (n_276_1405 _) ?_
  refine i_lor r_276_1406 (n_276_1406 _) ?_
  refine i_aload_n (a := 275) r_276_1407 (n_276_1407 _) rfl ?_
  refine wp_stat (rest := []) (Ls := [(0, rf 2), (1, iv ((xs (x4 + 1).toNat).toInt)), (2, iv ((xs (x4 + 2).toNat).toInt)), (3, iv ((xs (x4 + 3).toNat).toInt)), (4, .long ((zshlL (zi2l ((xs (x4 + 4).toNat).toInt)) 32) ||| ((zi2l ((xs (x4 + 5).toNat).toInt)) &&& 4294967295))), (6, rf 275)]) r_276_1408 (n_276_1408 _) rfl ⟨rfl, by decide, by decide, by decide⟩ rfl rfl ⟨rfl, Nat.le_of_ble_eq_true rfl, Nat.le_of_ble_eq_true rfl⟩ rfl h ?_
  intro o11 s11 h
  rcases h with ⟨y11, q12, rfl, h⟩ | ⟨e11, rfl, h⟩
  · refine .inl ⟨some (iv y11), rfl, ?_⟩
    show wp S 276 1411 [(0, rf 0), (1, rf 2), (2, rf 252), (3, rf 275), (4, iv x4)] [iv y11] s11 Q
    refine i_istore (l' := [(0, rf 0), (1, rf 2), (2, rf 252), (3, rf 275), (4, iv x4), (5, iv y11)]) r_276_1411 (n_276_1411 _) (by decide) rfl ?_
    refine i_aload_n (a := 252) r_276_1413 (n_276_1413 _) rfl ?_
    refine i_aload_n (a := 0) r_276_1414 (n_276_1414 _) rfl ?_
    refine i_iload (x := x4) r_276_1415 (n_276_1415 _) rfl ?_
    refine i_iconst r_276_1417 (n_276_1417 _) ?_
    refine i_iadd r_276_1418 (n_276_1418 _) ?_
    refine i_script hS r_276_1419 (n_276_1419 _) g1.2.2 g1.1 g1.2.1 (fun q13 => ?_)
    refine i_aload_n (a := 0) r_276_1420 (n_276_1420 _) rfl ?_
    refine i_iload (x := x4) r_276_1421 (n_276_1421 _) rfl ?_
    refine i_iconst r_276_1423 (n_276_1423 _) ?_
    refine i_iadd r_276_1424 (n_276_1424 _) ?_
    refine i_script hS r_276_1425 (n_276_1425 _) g3.2.2 g3.1 g3.2.1 (fun q14 => ?_)
    refine i_aload_n (a := 0) r_276_1426 (n_276_1426 _) rfl ?_
    refine i_iload (x := x4) r_276_1427 (n_276_1427 _) rfl ?_
    refine i_iconst r_276_1429 (n_276_1429 _) ?_
    refine i_iadd r_276_1430 (n_276_1430 _) ?_
    refine i_script hS r_276_1431 (n_276_1431 _) g5.2.2 g5.1 g5.2.1 (fun q15 => ?_)
    refine i_aload_n (a := 0) r_276_1432 (n_276_1432 _) rfl ?_
    refine i_iload (x := x4) r_276_1433 (n_276_1433 _) rfl ?_
    refine i_iconst r_276_1435 (n_276_1435 _) ?_
    refine i_iadd r_276_1436 (n_276_1436 _) ?_
    refine i_script hS r_276_1437 (n_276_1437 _) g7.2.2 g7.1 g7.2.1 (fun q16 => ?_)
    refine i_i2l r_276_1438 (n_276_1438 _) ?_
    refine i_bipush r_276_1439 (n_276_1439 _) rfl ?_
    refine i_lshl r_276_1441 (n_276_1441 _) ?_
    refine i_aload_n (a := 0) r_276_1442 (n_276_1442 _) rfl ?_
    refine i_iload (x := x4) r_276_1443 (n_276_1443 _) rfl ?_
    refine i_iconst r_276_1445 (n_276_1445 _) ?_
    refine i_iadd r_276_1446 (n_276_1446 _) ?_
    refine i_script hS r_276_1447 (n_276_1447 _) g9.2.2 g9.1 g9.2.1 (fun q17 => ?_)
    refine i_i2l r_276_1448 (n_276_1448 _) ?_
    refine i_ldc2 r_276_1449 (n_276_1449 _) rfl ?_
    refine i_land r_276_1452 (n_276_1452 _) ?_
    refine i_lor r_276_1453 (n_276_1453 _) ?_
    refine wp_virt (b := 252) (rest := []) (Ls := [(0, rf 252), (1, iv ((xs (x4 + 1).toNat).toInt)), (2, iv ((xs (x4 + 2).toNat).toInt)), (3, iv ((xs (x4 + 3).toNat).toInt)), (4, .long ((zshlL (zi2l ((xs (x4 + 4).toNat).toInt)) 32) ||| ((zi2l ((xs (x4 + 5).toNat).toInt)) &&& 4294967295)))]) r_276_1454 (n_276_1454 _) rfl ⟨rfl, rfl, by decide, by decide⟩ rfl rfl lf_252 ⟨rfl, Nat.le_of_ble_eq_true rfl, Nat.le_of_ble_eq_true rfl⟩ rfl h ?_
    intro o18 s18 h
    rcases h with ⟨y18, rfl, h⟩ | ⟨e18, rfl, h⟩
    · refine .inl ⟨some (.long y18), rfl, ?_⟩
      show wp S 276 1457 [(0, rf 0), (1, rf 2), (2, rf 252), (3, rf 275), (4, iv x4), (5, iv y11)] [.long y18] s18 Q
      refine i_lstore (l' := [(0, rf 0), (1, rf 2), (2, rf 252), (3, rf 275), (4, iv x4), (5, iv y11), (6, .long y18)]) r_276_1457 (n_276_1457 _) (by decide) rfl ?_
      refine i_aload_n (a := 252) r_276_1459 (n_276_1459 _) rfl ?_
      refine wp_virt (b := 252) (rest := []) (Ls := [(0, rf 252)]) r_276_1460 (n_276_1460 _) rfl ⟨rfl, rfl, by decide, by decide⟩ rfl rfl lf_252 ⟨rfl, Nat.le_of_ble_eq_true rfl, Nat.le_of_ble_eq_true rfl⟩ rfl K_Model_thrown ?_
      rintro _ _ ⟨rfl, rfl⟩
      refine .inl ⟨some (iv (zI s18 252 3)), rfl, ?_⟩
      show wp S 276 1463 [(0, rf 0), (1, rf 2), (2, rf 252), (3, rf 275), (4, iv x4), (5, iv y11), (6, .long y18)] [iv (zI s18 252 3)] s18 Q
      refine wp_rd (a := 252) (j := 3) (fun q21 => ?_)
      refine i_iload (x := y11) r_276_1463 (n_276_1463 _) rfl ?_
      refine i_icmp (t := 1470) r_276_1465 (n_276_1465 _) rfl (T_eq q21 q12) (fun c22 => ?_) (fun c22 => ?_)
      · replace h := h.1 c22
        refine i_iload (x := y11) r_276_1470 (n_276_1470 _) rfl ?_
        refine i_if (t := 1486) r_276_1472 (n_276_1472 _) rfl (T_ne q12 ⟨by omega, by omega⟩) (fun c23 => ?_) (fun c23 => ?_)
        · replace h := h.1 c23
          refine i_goto (t := 2908) r_276_1486 (n_276_1486 _) rfl ?_
          refine i_iinc (x := x4) (l' := [(0, rf 0), (1, rf 2), (2, rf 252), (3, rf 275), (4, iv (x4 + 7)), (5, iv y11), (6, .long y18)]) r_276_2908 (n_276_2908 _) (by decide) rfl rfl ?_
          refine i_goto (t := 23) r_276_2911 (n_276_2911 _) rfl ?_
          exact wp_pr (l' := [(0, rf 0), (1, rf 2), (2, rf 252), (3, rf 275), (4, iv (x4 + 7))]) rfl h
        · replace h := h.2 c23
          refine i_aload_n (a := 275) r_276_1475 (n_276_1475 _) rfl ?_
          refine i_iconst r_276_1476 (n_276_1476 _) ?_
          refine i_laload (a := 275) (j := 0) r_276_1477 (n_276_1477 _) lf_275 ⟨by omega, by omega⟩ (by omega) (by omega) ?_
          refine i_lload (u := y18) r_276_1478 (n_276_1478 _) rfl ?_
          refine i_lcmp r_276_1480 (n_276_1480 _) ?_
          refine i_if (t := 1486) r_276_1481 (n_276_1481 _) rfl (T_eq (zcmp_rng _ _) ⟨by omega, by omega⟩) (fun c24 => ?_) (fun c24 => ?_)
          · replace h := h.1 c24
            refine i_goto (t := 2908) r_276_1486 (n_276_1486 _) rfl ?_
            refine i_iinc (x := x4) (l' := [(0, rf 0), (1, rf 2), (2, rf 252), (3, rf 275), (4, iv (x4 + 7)), (5, iv y11), (6, .long y18)]) r_276_2908 (n_276_2908 _) (by decide) rfl rfl ?_
            refine i_goto (t := 23) r_276_2911 (n_276_2911 _) rfl ?_
            exact wp_pr (l' := [(0, rf 0), (1, rf 2), (2, rf 252), (3, rf 275), (4, iv (x4 + 7))]) rfl h
          · replace h := h.2 c24
            refine i_iconst r_276_1484 (n_276_1484 _) ?_
            exact i_zreturn r_276_1485 (n_276_1485 _) rfl (by decide) h
      · replace h := h.2 c22
        refine i_iconst r_276_1468 (n_276_1468 _) ?_
        exact i_zreturn r_276_1469 (n_276_1469 _) rfl (by decide) h
    · skip
      exact h.elim
  · skip
    exact h.elim
theorem v_Law_law_1489 {S : Option (Nat × (Nat → Int32))} {L : Nat} {xs : Nat → Int32} (hS : S = some (L, xs)) {s : zSt} {Q : Option Value ⊕ Nat → zSt → Prop} {x4 : Int} 
    (h : (0 ≤ (x4 + 1) ∧ (x4 + 1) < (L : Int) ∧ rng (x4 + 1)) ∧ (wp S 133 0 [(0, rf 2), (1, iv ((xs (x4 + 1).toNat).toInt)), (2, rf 275)] [] s (fun o3 s3 => zkI (fun y3 => wp S 254 0 [(0, rf 252), (1, iv ((xs (x4 + 1).toNat).toInt))] [] s3 (fun o6 s6 => zkI (fun y6 => ((zI s6 252 3) = y3 → (y3 ≠ 0 → wp S 276 23 [(0, rf 0), (1, rf 2), (2, rf 252), (3, rf 275), (4, iv (x4 + 7))] [] s6 Q) ∧ (y3 = 0 → ((zcmp (zL s6 275 0) (zi2l y6)) = 0 → wp S 276 23 [(0, rf 0), (1, rf 2), (2, rf 252), (3, rf 275), (4, iv (x4 + 7))] [] s6 Q) ∧ ((zcmp (zL s6 275 0) (zi2l y6)) ≠ 0 → Q (rI 0) s6))) ∧ ((zI s6 252 3) ≠ y3 → Q (rI 0) s6)) (fun e6 => False) o6)) (fun e3 => False) o3))) :
    wp S 276 1489 [(0, rf 0), (1, rf 2), (2, rf 252), (3, rf 275), (4, iv x4)] [] s Q := by
  refine i_aload_n (a := 2) r_276_1489 rfl rfl ?_
  refine i_aload_n (a := 0) r_276_1490 (n_276_1490 _) rfl ?_
  refine i_iload (x := x4) r_276_1491 (n_276_1491 _) rfl ?_
  refine i_iconst r_276_1493 (n_276_1493 _) ?_
  refine i_iadd r_276_1494 (n_276_1494 _) ?_
  obtain ⟨g1, h⟩ := h
  refine i_script hS r_276_1495 (n_276_1495 _) g1.2.2 g1.1 g1.2.1 (fun q2 => ?_)
  refine i_aload_n (a := 275) r_276_1496 (n_276_1496 _) rfl ?_
  refine wp_stat (rest := []) (Ls := [(0, rf 2), (1, iv ((xs (x4 + 1).toNat).toInt)), (2, rf 275)]) r_276_1497 (n_276_1497 _) rfl ⟨rfl, by decide, by decide, by decide⟩ rfl rfl ⟨rfl, Nat.le_of_ble_eq_true rfl, Nat.le_of_ble_eq_true rfl⟩ rfl h ?_
  intro o3 s3 h
  rcases h with ⟨y3, q4, rfl, h⟩ | ⟨e3, rfl, h⟩
  · refine .inl ⟨some (iv y3), rfl, ?_⟩
    show wp S 276 1500 [(0, rf 0), (1, rf 2), (2, rf 252), (3, rf 275), (4, iv x4)] [iv y3] s3 Q
    refine i_istore (l' := [(0, rf 0), (1, rf 2), (2, rf 252), (3, rf 275), (4, iv x4), (5, iv y3)]) r_276_1500 (n_276_1500 _) (by decide) rfl ?_
    refine i_aload_n (a := 252) r_276_1502 (n_276_1502 _) rfl ?_
    refine i_aload_n (a := 0) r_276_1503 (n_276_1503 _) rfl ?_
    refine i_iload (x := x4) r_276_1504 (n_276_1504 _) rfl ?_
    refine i_iconst r_276_1506 (n_276_1506 _) ?_
    refine i_iadd r_276_1507 (n_276_1507 _) ?_
    refine i_script hS r_276_1508 (n_276_1508 _) g1.2.2 g1.1 g1.2.1 (fun q5 => ?_)
    refine wp_virt (b := 252) (rest := []) (Ls := [(0, rf 252), (1, iv ((xs (x4 + 1).toNat).toInt))]) r_276_1509 (n_276_1509 _) rfl ⟨rfl, rfl, by decide, by decide⟩ rfl rfl lf_252 ⟨rfl, Nat.le_of_ble_eq_true rfl, Nat.le_of_ble_eq_true rfl⟩ rfl h ?_
    intro o6 s6 h
    rcases h with ⟨y6, q7, rfl, h⟩ | ⟨e6, rfl, h⟩
    · refine .inl ⟨some (iv y6), rfl, ?_⟩
      show wp S 276 1512 [(0, rf 0), (1, rf 2), (2, rf 252), (3, rf 275), (4, iv x4), (5, iv y3)] [iv y6] s6 Q
      refine i_istore (l' := [(0, rf 0), (1, rf 2), (2, rf 252), (3, rf 275), (4, iv x4), (5, iv y3), (6, iv y6)]) r_276_1512 (n_276_1512 _) (by decide) rfl ?_
      refine i_aload_n (a := 252) r_276_1514 (n_276_1514 _) rfl ?_
      refine wp_virt (b := 252) (rest := []) (Ls := [(0, rf 252)]) r_276_1515 (n_276_1515 _) rfl ⟨rfl, rfl, by decide, by decide⟩ rfl rfl lf_252 ⟨rfl, Nat.le_of_ble_eq_true rfl, Nat.le_of_ble_eq_true rfl⟩ rfl K_Model_thrown ?_
      rintro _ _ ⟨rfl, rfl⟩
      refine .inl ⟨some (iv (zI s6 252 3)), rfl, ?_⟩
      show wp S 276 1518 [(0, rf 0), (1, rf 2), (2, rf 252), (3, rf 275), (4, iv x4), (5, iv y3), (6, iv y6)] [iv (zI s6 252 3)] s6 Q
      refine wp_rd (a := 252) (j := 3) (fun q9 => ?_)
      refine i_iload (x := y3) r_276_1518 (n_276_1518 _) rfl ?_
      refine i_icmp (t := 1525) r_276_1520 (n_276_1520 _) rfl (T_eq q9 q4) (fun c10 => ?_) (fun c10 => ?_)
      · replace h := h.1 c10
        refine i_iload (x := y3) r_276_1525 (n_276_1525 _) rfl ?_
        refine i_if (t := 1542) r_276_1527 (n_276_1527 _) rfl (T_ne q4 ⟨by omega, by omega⟩) (fun c11 => ?_) (fun c11 => ?_)
        · replace h := h.1 c11
          refine i_goto (t := 2908) r_276_1542 (n_276_1542 _) rfl ?_
          refine i_iinc (x := x4) (l' := [(0, rf 0), (1, rf 2), (2, rf 252), (3, rf 275), (4, iv (x4 + 7)), (5, iv y3), (6, iv y6)]) r_276_2908 (n_276_2908 _) (by decide) rfl rfl ?_
          refine i_goto (t := 23) r_276_2911 (n_276_2911 _) rfl ?_
          exact wp_pr (l' := [(0, rf 0), (1, rf 2), (2, rf 252), (3, rf 275), (4, iv (x4 + 7))]) rfl h
        · replace h := h.2 c11
          refine i_aload_n (a := 275) r_276_1530 (n_276_1530 _) rfl ?_
          refine i_iconst r_276_1531 (n_276_1531 _) ?_
          refine i_laload (a := 275) (j := 0) r_276_1532 (n_276_1532 _) lf_275 ⟨by omega, by omega⟩ (by omega) (by omega) ?_
          refine i_iload (x := y6) r_276_1533 (n_276_1533 _) rfl ?_
          refine i_i2l r_276_1535 (n_276_1535 _) ?_
          refine i_lcmp r_276_1536 (n_276_1536 _) ?_
          refine i_if (t := 1542) r_276_1537 (n_276_1537 _) rfl (T_eq (zcmp_rng _ _) ⟨by omega, by omega⟩) (fun c12 => ?_) (fun c12 => ?_)
          · replace h := h.1 c12
            refine i_goto (t := 2908) r_276_1542 (n_276_1542 _) rfl ?_
            refine i_iinc (x := x4) (l' := [(0, rf 0), (1, rf 2), (2, rf 252), (3, rf 275), (4, iv (x4 + 7)), (5, iv y3), (6, iv y6)]) r_276_2908 (n_276_2908 _) (by decide) rfl rfl ?_
            refine i_goto (t := 23) r_276_2911 (n_276_2911 _) rfl ?_
            exact wp_pr (l' := [(0, rf 0), (1, rf 2), (2, rf 252), (3, rf 275), (4, iv (x4 + 7))]) rfl h
          · replace h := h.2 c12
            refine i_iconst r_276_1540 (n_276_1540 _) ?_
            exact i_zreturn r_276_1541 (n_276_1541 _) rfl (by decide) h
      · replace h := h.2 c10
        refine i_iconst r_276_1523 (n_276_1523 _) ?_
        exact i_zreturn r_276_1524 (n_276_1524 _) rfl (by decide) h
    · skip
      exact h.elim
  · skip
    exact h.elim
theorem v_Law_law_1545 {S : Option (Nat × (Nat → Int32))} {L : Nat} {xs : Nat → Int32} (hS : S = some (L, xs)) {s : zSt} {Q : Option Value ⊕ Nat → zSt → Prop} {x4 : Int} 
    (h : (0 ≤ (x4 + 1) ∧ (x4 + 1) < (L : Int) ∧ rng (x4 + 1)) ∧ ((0 ≤ (x4 + 2) ∧ (x4 + 2) < (L : Int) ∧ rng (x4 + 2)) ∧ (wp S 136 0 [(0, rf 2), (1, iv ((xs (x4 + 1).toNat).toInt)), (2, iv ((xs (x4 + 2).toNat).toInt)), (3, rf 275)] [] s (fun o5 s5 => zkI (fun y5 => wp S 255 0 [(0, rf 252), (1, iv ((xs (x4 + 1).toNat).toInt)), (2, iv ((xs (x4 + 2).toNat).toInt))] [] s5 (fun o9 s9 => zkI (fun y9 => ((zI s9 252 3) = y5 → (y5 ≠ 0 → wp S 276 23 [(0, rf 0), (1, rf 2), (2, rf 252), (3, rf 275), (4, iv (x4 + 7))] [] s9 Q) ∧ (y5 = 0 → ((zcmp (zL s9 275 0) (zi2l y9)) = 0 → wp S 276 23 [(0, rf 0), (1, rf 2), (2, rf 252), (3, rf 275), (4, iv (x4 + 7))] [] s9 Q) ∧ ((zcmp (zL s9 275 0) (zi2l y9)) ≠ 0 → Q (rI 0) s9))) ∧ ((zI s9 252 3) ≠ y5 → Q (rI 0) s9)) (fun e9 => False) o9)) (fun e5 => False) o5)))) :
    wp S 276 1545 [(0, rf 0), (1, rf 2), (2, rf 252), (3, rf 275), (4, iv x4)] [] s Q := by
  refine i_aload_n (a := 2) r_276_1545 rfl rfl ?_
  refine i_aload_n (a := 0) r_276_1546 (n_276_1546 _) rfl ?_
  refine i_iload (x := x4) r_276_1547 (n_276_1547 _) rfl ?_
  refine i_iconst r_276_1549 (n_276_1549 _) ?_
  refine i_iadd r_276_1550 (n_276_1550 _) ?_
  obtain ⟨g1, h⟩ := h
  refine i_script hS r_276_1551 (n_276_1551 _) g1.2.2 g1.1 g1.2.1 (fun q2 => ?_)
  refine i_aload_n (a := 0) r_276_1552 (n_276_1552 _) rfl ?_
  refine i_iload (x := x4) r_276_1553 (n_276_1553 _) rfl ?_
  refine i_iconst r_276_1555 (n_276_1555 _) ?_
  refine i_iadd r_276_1556 (n_276_1556 _) ?_
  obtain ⟨g3, h⟩ := h
  refine i_script hS r_276_1557 (n_276_1557 _) g3.2.2 g3.1 g3.2.1 (fun q4 => ?_)
  refine i_aload_n (a := 275) r_276_1558 (n_276_1558 _) rfl ?_
  refine wp_stat (rest := []) (Ls := [(0, rf 2), (1, iv ((xs (x4 + 1).toNat).toInt)), (2, iv ((xs (x4 + 2).toNat).toInt)), (3, rf 275)]) r_276_1559 (n_276_1559 _) rfl ⟨rfl, by decide, by decide, by decide⟩ rfl rfl ⟨rfl, Nat.le_of_ble_eq_true rfl, Nat.le_of_ble_eq_true rfl⟩ rfl h ?_
  intro o5 s5 h
  rcases h with ⟨y5, q6, rfl, h⟩ | ⟨e5, rfl, h⟩
  · refine .inl ⟨some (iv y5), rfl, ?_⟩
    show wp S 276 1562 [(0, rf 0), (1, rf 2), (2, rf 252), (3, rf 275), (4, iv x4)] [iv y5] s5 Q
    refine i_istore (l' := [(0, rf 0), (1, rf 2), (2, rf 252), (3, rf 275), (4, iv x4), (5, iv y5)]) r_276_1562 (n_276_1562 _) (by decide) rfl ?_
    refine i_aload_n (a := 252) r_276_1564 (n_276_1564 _) rfl ?_
    refine i_aload_n (a := 0) r_276_1565 (n_276_1565 _) rfl ?_
    refine i_iload (x := x4) r_276_1566 (n_276_1566 _) rfl ?_
    refine i_iconst r_276_1568 (n_276_1568 _) ?_
    refine i_iadd r_276_1569 (n_276_1569 _) ?_
    refine i_script hS r_276_1570 (n_276_1570 _) g1.2.2 g1.1 g1.2.1 (fun q7 => ?_)
    refine i_aload_n (a := 0) r_276_1571 (n_276_1571 _) rfl ?_
    refine i_iload (x := x4) r_276_1572 (n_276_1572 _) rfl ?_
    refine i_iconst r_276_1574 (n_276_1574 _) ?_
    refine i_iadd r_276_1575 (n_276_1575 _) ?_
    refine i_script hS r_276_1576 (n_276_1576 _) g3.2.2 g3.1 g3.2.1 (fun q8 => ?_)
    refine wp_virt (b := 252) (rest := []) (Ls := [(0, rf 252), (1, iv ((xs (x4 + 1).toNat).toInt)), (2, iv ((xs (x4 + 2).toNat).toInt))]) r_276_1577 (n_276_1577 _) rfl ⟨rfl, rfl, by decide, by decide⟩ rfl rfl lf_252 ⟨rfl, Nat.le_of_ble_eq_true rfl, Nat.le_of_ble_eq_true rfl⟩ rfl h ?_
    intro o9 s9 h
    rcases h with ⟨y9, q10, rfl, h⟩ | ⟨e9, rfl, h⟩
    · refine .inl ⟨some (iv y9), rfl, ?_⟩
      show wp S 276 1580 [(0, rf 0), (1, rf 2), (2, rf 252), (3, rf 275), (4, iv x4), (5, iv y5)] [iv y9] s9 Q
      refine i_istore (l' := [(0, rf 0), (1, rf 2), (2, rf 252), (3, rf 275), (4, iv x4), (5, iv y5), (6, iv y9)]) r_276_1580 (n_276_1580 _) (by decide) rfl ?_
      refine i_aload_n (a := 252) r_276_1582 (n_276_1582 _) rfl ?_
      refine wp_virt (b := 252) (rest := []) (Ls := [(0, rf 252)]) r_276_1583 (n_276_1583 _) rfl ⟨rfl, rfl, by decide, by decide⟩ rfl rfl lf_252 ⟨rfl, Nat.le_of_ble_eq_true rfl, Nat.le_of_ble_eq_true rfl⟩ rfl K_Model_thrown ?_
      rintro _ _ ⟨rfl, rfl⟩
      refine .inl ⟨some (iv (zI s9 252 3)), rfl, ?_⟩
      show wp S 276 1586 [(0, rf 0), (1, rf 2), (2, rf 252), (3, rf 275), (4, iv x4), (5, iv y5), (6, iv y9)] [iv (zI s9 252 3)] s9 Q
      refine wp_rd (a := 252) (j := 3) (fun q12 => ?_)
      refine i_iload (x := y5) r_276_1586 (n_276_1586 _) rfl ?_
      refine i_icmp (t := 1593) r_276_1588 (n_276_1588 _) rfl (T_eq q12 q6) (fun c13 => ?_) (fun c13 => ?_)
      · replace h := h.1 c13
        refine i_iload (x := y5) r_276_1593 (n_276_1593 _) rfl ?_
        refine i_if (t := 1610) r_276_1595 (n_276_1595 _) rfl (T_ne q6 ⟨by omega, by omega⟩) (fun c14 => ?_) (fun c14 => ?_)
        · replace h := h.1 c14
          refine i_goto (t := 2908) r_276_1610 (n_276_1610 _) rfl ?_
          refine i_iinc (x := x4) (l' := [(0, rf 0), (1, rf 2), (2, rf 252), (3, rf 275), (4, iv (x4 + 7)), (5, iv y5), (6, iv y9)]) r_276_2908 (n_276_2908 _) (by decide) rfl rfl ?_
          refine i_goto (t := 23) r_276_2911 (n_276_2911 _) rfl ?_
          exact wp_pr (l' := [(0, rf 0), (1, rf 2), (2, rf 252), (3, rf 275), (4, iv (x4 + 7))]) rfl h
        · replace h := h.2 c14
          refine i_aload_n (a := 275) r_276_1598 (n_276_1598 _) rfl ?_
          refine i_iconst r_276_1599 (n_276_1599 _) ?_
          refine i_laload (a := 275) (j := 0) r_276_1600 (n_276_1600 _) lf_275 ⟨by omega, by omega⟩ (by omega) (by omega) ?_
          refine i_iload (x := y9) r_276_1601 (n_276_1601 _) rfl ?_
          refine i_i2l r_276_1603 (n_276_1603 _) ?_
          refine i_lcmp r_276_1604 (n_276_1604 _) ?_
          refine i_if (t := 1610) r_276_1605 (n_276_1605 _) rfl (T_eq (zcmp_rng _ _) ⟨by omega, by omega⟩) (fun c15 => ?_) (fun c15 => ?_)
          · replace h := h.1 c15
            refine i_goto (t := 2908) r_276_1610 (n_276_1610 _) rfl ?_
            refine i_iinc (x := x4) (l' := [(0, rf 0), (1, rf 2), (2, rf 252), (3, rf 275), (4, iv (x4 + 7)), (5, iv y5), (6, iv y9)]) r_276_2908 (n_276_2908 _) (by decide) rfl rfl ?_
            refine i_goto (t := 23) r_276_2911 (n_276_2911 _) rfl ?_
            exact wp_pr (l' := [(0, rf 0), (1, rf 2), (2, rf 252), (3, rf 275), (4, iv (x4 + 7))]) rfl h
          · replace h := h.2 c15
            refine i_iconst r_276_1608 (n_276_1608 _) ?_
            exact i_zreturn r_276_1609 (n_276_1609 _) rfl (by decide) h
      · replace h := h.2 c13
        refine i_iconst r_276_1591 (n_276_1591 _) ?_
        exact i_zreturn r_276_1592 (n_276_1592 _) rfl (by decide) h
    · skip
      exact h.elim
  · skip
    exact h.elim
theorem v_Law_law_1613 {S : Option (Nat × (Nat → Int32))} {L : Nat} {xs : Nat → Int32} (hS : S = some (L, xs)) {s : zSt} {Q : Option Value ⊕ Nat → zSt → Prop} {x4 : Int} 
    (h : (0 ≤ (x4 + 1) ∧ (x4 + 1) < (L : Int) ∧ rng (x4 + 1)) ∧ ((((xs (x4 + 1).toNat).toInt) = 0 → wp S 13 0 [(0, rf 2), (1, iv 0)] [] s (fun o4 s4 => zkI (fun y4 => (((xs (x4 + 1).toNat).toInt) = 0 → wp S 256 0 [(0, rf 252), (1, iv 0)] [] s4 (fun o8 s8 => zkI (fun y8 => (y4 = y8 → wp S 276 23 [(0, rf 0), (1, rf 2), (2, rf 252), (3, rf 275), (4, iv (x4 + 7))] [] s8 Q) ∧ (y4 ≠ y8 → Q (rI 0) s8)) (fun e8 => False) o8)) ∧ (((xs (x4 + 1).toNat).toInt) ≠ 0 → wp S 256 0 [(0, rf 252), (1, iv 1)] [] s4 (fun o11 s11 => zkI (fun y11 => (y4 = y11 → wp S 276 23 [(0, rf 0), (1, rf 2), (2, rf 252), (3, rf 275), (4, iv (x4 + 7))] [] s11 Q) ∧ (y4 ≠ y11 → Q (rI 0) s11)) (fun e11 => False) o11))) (fun e4 => False) o4)) ∧ (((xs (x4 + 1).toNat).toInt) ≠ 0 → wp S 13 0 [(0, rf 2), (1, iv 1)] [] s (fun o14 s14 => zkI (fun y14 => (((xs (x4 + 1).toNat).toInt) = 0 → wp S 256 0 [(0, rf 252), (1, iv 0)] [] s14 (fun o18 s18 => zkI (fun y18 => (y14 = y18 → wp S 276 23 [(0, rf 0), (1, rf 2), (2, rf 252), (3, rf 275), (4, iv (x4 + 7))] [] s18 Q) ∧ (y14 ≠ y18 → Q (rI 0) s18)) (fun e18 => False) o18)) ∧ (((xs (x4 + 1).toNat).toInt) ≠ 0 → wp S 256 0 [(0, rf 252), (1, iv 1)] [] s14 (fun o21 s21 => zkI (fun y21 => (y14 = y21 → wp S 276 23 [(0, rf 0), (1, rf 2), (2, rf 252), (3, rf 275), (4, iv (x4 + 7))] [] s21 Q) ∧ (y14 ≠ y21 → Q (rI 0) s21)) (fun e21 => False) o21))) (fun e14 => False) o14)))) :
    wp S 276 1613 [(0, rf 0), (1, rf 2), (2, rf 252), (3, rf 275), (4, iv x4)] [] s Q := by
  refine i_aload_n (a := 2) r_276_1613 rfl rfl ?_
  refine i_aload_n (a := 0) r_276_1614 (n_276_1614 _) rfl ?_
  refine i_iload (x := x4) r_276_1615 (n_276_1615 _) rfl ?_
  refine i_iconst r_276_1617 (n_276_1617 _) ?_
  refine i_iadd r_276_1618 (n_276_1618 _) ?_
  obtain ⟨g1, h⟩ := h
  refine i_script hS r_276_1619 (n_276_1619 _) g1.2.2 g1.1 g1.2.1 (fun q2 => ?_)
  refine i_if (t := 1627) r_276_1620 (n_276_1620 _) rfl (T_eq q2 ⟨by omega, by omega⟩) (fun c3 => ?_) (fun c3 => ?_)
  · replace h := h.1 c3
    refine i_iconst r_276_1627 (n_276_1627 _) ?_
    refine wp_virt (b := 2) (rest := []) (Ls := [(0, rf 2), (1, iv 0)]) r_276_1628 (n_276_1628 _) rfl ⟨rfl, rfl, by decide, by decide⟩ rfl rfl lf_2 ⟨rfl, Nat.le_of_ble_eq_true rfl, Nat.le_of_ble_eq_true rfl⟩ rfl h ?_
    intro o4 s4 h
    rcases h with ⟨y4, q5, rfl, h⟩ | ⟨e4, rfl, h⟩
    · refine .inl ⟨some (iv y4), rfl, ?_⟩
      show wp S 276 1631 [(0, rf 0), (1, rf 2), (2, rf 252), (3, rf 275), (4, iv x4)] [iv y4] s4 Q
      refine i_aload_n (a := 252) r_276_1631 (n_276_1631 _) rfl ?_
      refine i_aload_n (a := 0) r_276_1632 (n_276_1632 _) rfl ?_
      refine i_iload (x := x4) r_276_1633 (n_276_1633 _) rfl ?_
      refine i_iconst r_276_1635 (n_276_1635 _) ?_
      refine i_iadd r_276_1636 (n_276_1636 _) ?_
      refine i_script hS r_276_1637 (n_276_1637 _) g1.2.2 g1.1 g1.2.1 (fun q6 => ?_)
      refine i_if (t := 1645) r_276_1638 (n_276_1638 _) rfl (T_eq q6 ⟨by omega, by omega⟩) (fun c7 => ?_) (fun c7 => ?_)
      · replace h := h.1 c7
        refine i_iconst r_276_1645 (n_276_1645 _) ?_
        refine wp_virt (b := 252) (rest := [iv y4]) (Ls := [(0, rf 252), (1, iv 0)]) r_276_1646 (n_276_1646 _) rfl ⟨rfl, rfl, by decide, by decide⟩ rfl rfl lf_252 ⟨rfl, Nat.le_of_ble_eq_true rfl, Nat.le_of_ble_eq_true rfl⟩ rfl h ?_
        intro o8 s8 h
        rcases h with ⟨y8, q9, rfl, h⟩ | ⟨e8, rfl, h⟩
        · refine .inl ⟨some (iv y8), rfl, ?_⟩
          show wp S 276 1649 [(0, rf 0), (1, rf 2), (2, rf 252), (3, rf 275), (4, iv x4)] [iv y8, iv y4] s8 Q
          refine i_icmp (t := 2908) r_276_1649 (n_276_1649 _) rfl (T_eq q5 q9) (fun c10 => ?_) (fun c10 => ?_)
          · replace h := h.1 c10
            refine i_iinc (x := x4) (l' := [(0, rf 0), (1, rf 2), (2, rf 252), (3, rf 275), (4, iv (x4 + 7))]) r_276_2908 (n_276_2908 _) (by decide) rfl rfl ?_
            refine i_goto (t := 23) r_276_2911 (n_276_2911 _) rfl ?_
            exact wp_pr (l' := [(0, rf 0), (1, rf 2), (2, rf 252), (3, rf 275), (4, iv (x4 + 7))]) rfl h
          · replace h := h.2 c10
            refine i_iconst r_276_1652 (n_276_1652 _) ?_
            exact i_zreturn r_276_1653 (n_276_1653 _) rfl (by decide) h
        · skip
          exact h.elim
      · replace h := h.2 c7
        refine i_iconst r_276_1641 (n_276_1641 _) ?_
        refine i_goto (t := 1646) r_276_1642 (n_276_1642 _) rfl ?_
        refine wp_virt (b := 252) (rest := [iv y4]) (Ls := [(0, rf 252), (1, iv 1)]) r_276_1646 (n_276_1646 _) rfl ⟨rfl, rfl, by decide, by decide⟩ rfl rfl lf_252 ⟨rfl, Nat.le_of_ble_eq_true rfl, Nat.le_of_ble_eq_true rfl⟩ rfl h ?_
        intro o11 s11 h
        rcases h with ⟨y11, q12, rfl, h⟩ | ⟨e11, rfl, h⟩
        · refine .inl ⟨some (iv y11), rfl, ?_⟩
          show wp S 276 1649 [(0, rf 0), (1, rf 2), (2, rf 252), (3, rf 275), (4, iv x4)] [iv y11, iv y4] s11 Q
          refine i_icmp (t := 2908) r_276_1649 (n_276_1649 _) rfl (T_eq q5 q12) (fun c13 => ?_) (fun c13 => ?_)
          · replace h := h.1 c13
            refine i_iinc (x := x4) (l' := [(0, rf 0), (1, rf 2), (2, rf 252), (3, rf 275), (4, iv (x4 + 7))]) r_276_2908 (n_276_2908 _) (by decide) rfl rfl ?_
            refine i_goto (t := 23) r_276_2911 (n_276_2911 _) rfl ?_
            exact wp_pr (l' := [(0, rf 0), (1, rf 2), (2, rf 252), (3, rf 275), (4, iv (x4 + 7))]) rfl h
          · replace h := h.2 c13
            refine i_iconst r_276_1652 (n_276_1652 _) ?_
            exact i_zreturn r_276_1653 (n_276_1653 _) rfl (by decide) h
        · skip
          exact h.elim
    · skip
      exact h.elim
  · replace h := h.2 c3
    refine i_iconst r_276_1623 (n_276_1623 _) ?_
    refine i_goto (t := 1628) r_276_1624 (n_276_1624 _) rfl ?_
    refine wp_virt (b := 2) (rest := []) (Ls := [(0, rf 2), (1, iv 1)]) r_276_1628 (n_276_1628 _) rfl ⟨rfl, rfl, by decide, by decide⟩ rfl rfl lf_2 ⟨rfl, Nat.le_of_ble_eq_true rfl, Nat.le_of_ble_eq_true rfl⟩ rfl h ?_
    intro o14 s14 h
    rcases h with ⟨y14, q15, rfl, h⟩ | ⟨e14, rfl, h⟩
    · refine .inl ⟨some (iv y14), rfl, ?_⟩
      show wp S 276 1631 [(0, rf 0), (1, rf 2), (2, rf 252), (3, rf 275), (4, iv x4)] [iv y14] s14 Q
      refine i_aload_n (a := 252) r_276_1631 (n_276_1631 _) rfl ?_
      refine i_aload_n (a := 0) r_276_1632 (n_276_1632 _) rfl ?_
      refine i_iload (x := x4) r_276_1633 (n_276_1633 _) rfl ?_
      refine i_iconst r_276_1635 (n_276_1635 _) ?_
      refine i_iadd r_276_1636 (n_276_1636 _) ?_
      refine i_script hS r_276_1637 (n_276_1637 _) g1.2.2 g1.1 g1.2.1 (fun q16 => ?_)
      refine i_if (t := 1645) r_276_1638 (n_276_1638 _) rfl (T_eq q16 ⟨by omega, by omega⟩) (fun c17 => ?_) (fun c17 => ?_)
      · replace h := h.1 c17
        refine i_iconst r_276_1645 (n_276_1645 _) ?_
        refine wp_virt (b := 252) (rest := [iv y14]) (Ls := [(0, rf 252), (1, iv 0)]) r_276_1646 (n_276_1646 _) rfl ⟨rfl, rfl, by decide, by decide⟩ rfl rfl lf_252 ⟨rfl, Nat.le_of_ble_eq_true rfl, Nat.le_of_ble_eq_true rfl⟩ rfl h ?_
        intro o18 s18 h
        rcases h with ⟨y18, q19, rfl, h⟩ | ⟨e18, rfl, h⟩
        · refine .inl ⟨some (iv y18), rfl, ?_⟩
          show wp S 276 1649 [(0, rf 0), (1, rf 2), (2, rf 252), (3, rf 275), (4, iv x4)] [iv y18, iv y14] s18 Q
          refine i_icmp (t := 2908) r_276_1649 (n_276_1649 _) rfl (T_eq q15 q19) (fun c20 => ?_) (fun c20 => ?_)
          · replace h := h.1 c20
            refine i_iinc (x := x4) (l' := [(0, rf 0), (1, rf 2), (2, rf 252), (3, rf 275), (4, iv (x4 + 7))]) r_276_2908 (n_276_2908 _) (by decide) rfl rfl ?_
            refine i_goto (t := 23) r_276_2911 (n_276_2911 _) rfl ?_
            exact wp_pr (l' := [(0, rf 0), (1, rf 2), (2, rf 252), (3, rf 275), (4, iv (x4 + 7))]) rfl h
          · replace h := h.2 c20
            refine i_iconst r_276_1652 (n_276_1652 _) ?_
            exact i_zreturn r_276_1653 (n_276_1653 _) rfl (by decide) h
        · skip
          exact h.elim
      · replace h := h.2 c17
        refine i_iconst r_276_1641 (n_276_1641 _) ?_
        refine i_goto (t := 1646) r_276_1642 (n_276_1642 _) rfl ?_
        refine wp_virt (b := 252) (rest := [iv y14]) (Ls := [(0, rf 252), (1, iv 1)]) r_276_1646 (n_276_1646 _) rfl ⟨rfl, rfl, by decide, by decide⟩ rfl rfl lf_252 ⟨rfl, Nat.le_of_ble_eq_true rfl, Nat.le_of_ble_eq_true rfl⟩ rfl h ?_
        intro o21 s21 h
        rcases h with ⟨y21, q22, rfl, h⟩ | ⟨e21, rfl, h⟩
        · refine .inl ⟨some (iv y21), rfl, ?_⟩
          show wp S 276 1649 [(0, rf 0), (1, rf 2), (2, rf 252), (3, rf 275), (4, iv x4)] [iv y21, iv y14] s21 Q
          refine i_icmp (t := 2908) r_276_1649 (n_276_1649 _) rfl (T_eq q15 q22) (fun c23 => ?_) (fun c23 => ?_)
          · replace h := h.1 c23
            refine i_iinc (x := x4) (l' := [(0, rf 0), (1, rf 2), (2, rf 252), (3, rf 275), (4, iv (x4 + 7))]) r_276_2908 (n_276_2908 _) (by decide) rfl rfl ?_
            refine i_goto (t := 23) r_276_2911 (n_276_2911 _) rfl ?_
            exact wp_pr (l' := [(0, rf 0), (1, rf 2), (2, rf 252), (3, rf 275), (4, iv (x4 + 7))]) rfl h
          · replace h := h.2 c23
            refine i_iconst r_276_1652 (n_276_1652 _) ?_
            exact i_zreturn r_276_1653 (n_276_1653 _) rfl (by decide) h
        · skip
          exact h.elim
    · skip
      exact h.elim
theorem v_Law_law_1654 {S : Option (Nat × (Nat → Int32))} {L : Nat} {xs : Nat → Int32} (hS : S = some (L, xs)) {s : zSt} {Q : Option Value ⊕ Nat → zSt → Prop} {x4 : Int} 
    (h : (0 ≤ (x4 + 1) ∧ (x4 + 1) < (L : Int) ∧ rng (x4 + 1)) ∧ ((0 ≤ (x4 + 2) ∧ (x4 + 2) < (L : Int) ∧ rng (x4 + 2)) ∧ ((0 ≤ (x4 + 3) ∧ (x4 + 3) < (L : Int) ∧ rng (x4 + 3)) ∧ (wp S 138 0 [(0, rf 2), (1, iv ((xs (x4 + 1).toNat).toInt)), (2, iv ((xs (x4 + 2).toNat).toInt)), (3, iv ((xs (x4 + 3).toNat).toInt)), (4, rf 275)] [] s (fun o7 s7 => zkI (fun y7 => wp S 257 0 [(0, rf 252), (1, iv ((xs (x4 + 1).toNat).toInt)), (2, iv ((xs (x4 + 2).toNat).toInt)), (3, iv ((xs (x4 + 3).toNat).toInt))] [] s7 (fun o12 s12 => zkI (fun y12 => ((zI s12 252 3) = y7 → (y7 ≠ 0 → wp S 276 23 [(0, rf 0), (1, rf 2), (2, rf 252), (3, rf 275), (4, iv (x4 + 7))] [] s12 Q) ∧ (y7 = 0 → ((zcmp (zL s12 275 0) (zi2l y12)) = 0 → wp S 276 23 [(0, rf 0), (1, rf 2), (2, rf 252), (3, rf 275), (4, iv (x4 + 7))] [] s12 Q) ∧ ((zcmp (zL s12 275 0) (zi2l y12)) ≠ 0 → Q (rI 0) s12))) ∧ ((zI s12 252 3) ≠ y7 → Q (rI 0) s12)) (fun e12 => False) o12)) (fun e7 => False) o7))))) :
    wp S 276 1654 [(0, rf 0), (1, rf 2), (2, rf 252), (3, rf 275), (4, iv x4)] [] s Q := by
  refine i_aload_n (a := 2) r_276_1654 rfl rfl ?_
  refine i_aload_n (a := 0) r_276_1655 (n_276_1655 _) rfl ?_
  refine i_iload (x := x4) r_276_1656 (n_276_1656 _) rfl ?_
  refine i_iconst r_276_1658 (n_276_1658 _) ?_
  refine i_iadd r_276_1659 (n_276_1659 _) ?_
  obtain ⟨g1, h⟩ := h
  refine i_script hS r_276_1660 (n_276_1660 _) g1.2.2 g1.1 g1.2.1 (fun q2 => ?_)
  refine i_aload_n (a := 0) r_276_1661 (n_276_1661 _) rfl ?_
  refine i_iload (x := x4) r_276_1662 (n_276_1662 _) rfl ?_
  refine i_iconst r_276_1664 (n_276_1664 _) ?_
  refine i_iadd r_276_1665 (n_276_1665 _) ?_
  obtain ⟨g3, h⟩ := h
  refine i_script hS r_276_1666 (n_276_1666 _) g3.2.2 g3.1 g3.2.1 (fun q4 => ?_)
  refine i_aload_n (a := 0) r_276_1667 (n_276_1667 _) rfl ?_
  refine i_iload (x := x4) r_276_1668 (n_276_1668 _) rfl ?_
  refine i_iconst r_276_1670 (n_276_1670 _) ?_
  refine i_iadd r_276_1671 (n_276_1671 _) ?_
  obtain ⟨g5, h⟩ := h
  refine i_script hS r_276_1672 (n_276_1672 _) g5.2.2 g5.1 g5.2.1 (fun q6 => ?_)
  refine i_aload_n (a := 275) r_276_1673 (n_276_1673 _) rfl ?_
  refine wp_stat (rest := []) (Ls := [(0, rf 2), (1, iv ((xs (x4 + 1).toNat).toInt)), (2, iv ((xs (x4 + 2).toNat).toInt)), (3, iv ((xs (x4 + 3).toNat).toInt)), (4, rf 275)]) r_276_1674 (n_276_1674 _) rfl ⟨rfl, by decide, by decide, by decide⟩ rfl rfl ⟨rfl, Nat.le_of_ble_eq_true rfl, Nat.le_of_ble_eq_true rfl⟩ rfl h ?_
  intro o7 s7 h
  rcases h with ⟨y7, q8, rfl, h⟩ | ⟨e7, rfl, h⟩
  · refine .inl ⟨some (iv y7), rfl, ?_⟩
    show wp S 276 1677 [(0, rf 0), (1, rf 2), (2, rf 252), (3, rf 275), (4, iv x4)] [iv y7] s7 Q
    refine i_istore (l' := [(0, rf 0), (1, rf 2), (2, rf 252), (3, rf 275), (4, iv x4), (5, iv y7)]) r_276_1677 (n_276_1677 _) (by decide) rfl ?_
    refine i_aload_n (a := 252) r_276_1679 (n_276_1679 _) rfl ?_
    refine i_aload_n (a := 0) r_276_1680 (n_276_1680 _) rfl ?_
    refine i_iload (x := x4) r_276_1681 (n_276_1681 _) rfl ?_
    refine i_iconst r_276_1683 (n_276_1683 _) ?_
    refine i_iadd r_276_1684 (n_276_1684 _) ?_
    refine i_script hS r_276_1685 (n_276_1685 _) g1.2.2 g1.1 g1.2.1 (fun q9 => ?_)
    refine i_aload_n (a := 0) r_276_1686 (n_276_1686 _) rfl ?_
    refine i_iload (x := x4) r_276_1687 (n_276_1687 _) rfl ?_
    refine i_iconst r_276_1689 (n_276_1689 _) ?_
    refine i_iadd r_276_1690 (n_276_1690 _) ?_
    refine i_script hS r_276_1691 (n_276_1691 _) g3.2.2 g3.1 g3.2.1 (fun q10 => ?_)
    refine i_aload_n (a := 0) r_276_1692 (n_276_1692 _) rfl ?_
    refine i_iload (x := x4) r_276_1693 (n_276_1693 _) rfl ?_
    refine i_iconst r_276_1695 (n_276_1695 _) ?_
    refine i_iadd r_276_1696 (n_276_1696 _) ?_
    refine i_script hS r_276_1697 (n_276_1697 _) g5.2.2 g5.1 g5.2.1 (fun q11 => ?_)
    refine wp_virt (b := 252) (rest := []) (Ls := [(0, rf 252), (1, iv ((xs (x4 + 1).toNat).toInt)), (2, iv ((xs (x4 + 2).toNat).toInt)), (3, iv ((xs (x4 + 3).toNat).toInt))]) r_276_1698 (n_276_1698 _) rfl ⟨rfl, rfl, by decide, by decide⟩ rfl rfl lf_252 ⟨rfl, Nat.le_of_ble_eq_true rfl, Nat.le_of_ble_eq_true rfl⟩ rfl h ?_
    intro o12 s12 h
    rcases h with ⟨y12, q13, rfl, h⟩ | ⟨e12, rfl, h⟩
    · refine .inl ⟨some (iv y12), rfl, ?_⟩
      show wp S 276 1701 [(0, rf 0), (1, rf 2), (2, rf 252), (3, rf 275), (4, iv x4), (5, iv y7)] [iv y12] s12 Q
      refine i_istore (l' := [(0, rf 0), (1, rf 2), (2, rf 252), (3, rf 275), (4, iv x4), (5, iv y7), (6, iv y12)]) r_276_1701 (n_276_1701 _) (by decide) rfl ?_
      refine i_aload_n (a := 252) r_276_1703 (n_276_1703 _) rfl ?_
      refine wp_virt (b := 252) (rest := []) (Ls := [(0, rf 252)]) r_276_1704 (n_276_1704 _) rfl ⟨rfl, rfl, by decide, by decide⟩ rfl rfl lf_252 ⟨rfl, Nat.le_of_ble_eq_true rfl, Nat.le_of_ble_eq_true rfl⟩ rfl K_Model_thrown ?_
      rintro _ _ ⟨rfl, rfl⟩
      refine .inl ⟨some (iv (zI s12 252 3)), rfl, ?_⟩
      show wp S 276 1707 [(0, rf 0), (1, rf 2), (2, rf 252), (3, rf 275), (4, iv x4), (5, iv y7), (6, iv y12)] [iv (zI s12 252 3)] s12 Q
      refine wp_rd (a := 252) (j := 3) (fun q15 => ?_)
      refine i_iload (x := y7) r_276_1707 (n_276_1707 _) rfl ?_
      refine i_icmp (t := 1714) r_276_1709 (n_276_1709 _) rfl (T_eq q15 q8) (fun c16 => ?_) (fun c16 => ?_)
      · replace h := h.1 c16
        refine i_iload (x := y7) r_276_1714 (n_276_1714 _) rfl ?_
        refine i_if (t := 1731) r_276_1716 (n_276_1716 _) rfl (T_ne q8 ⟨by omega, by omega⟩) (fun c17 => ?_) (fun c17 => ?_)
        · replace h := h.1 c17
          refine i_goto (t := 2908) r_276_1731 (n_276_1731 _) rfl ?_
          refine i_iinc (x := x4) (l' := [(0, rf 0), (1, rf 2), (2, rf 252), (3, rf 275), (4, iv (x4 + 7)), (5, iv y7), (6, iv y12)]) r_276_2908 (n_276_2908 _) (by decide) rfl rfl ?_
          refine i_goto (t := 23) r_276_2911 (n_276_2911 _) rfl ?_
          exact wp_pr (l' := [(0, rf 0), (1, rf 2), (2, rf 252), (3, rf 275), (4, iv (x4 + 7))]) rfl h
        · replace h := h.2 c17
          refine i_aload_n (a := 275) r_276_1719 (n_276_1719 _) rfl ?_
          refine i_iconst r_276_1720 (n_276_1720 _) ?_
          refine i_laload (a := 275) (j := 0) r_276_1721 (n_276_1721 _) lf_275 ⟨by omega, by omega⟩ (by omega) (by omega) ?_
          refine i_iload (x := y12) r_276_1722 (n_276_1722 _) rfl ?_
          refine i_i2l r_276_1724 (n_276_1724 _) ?_
          refine i_lcmp r_276_1725 (n_276_1725 _) ?_
          refine i_if (t := 1731) r_276_1726 (n_276_1726 _) rfl (T_eq (zcmp_rng _ _) ⟨by omega, by omega⟩) (fun c18 => ?_) (fun c18 => ?_)
          · replace h := h.1 c18
            refine i_goto (t := 2908) r_276_1731 (n_276_1731 _) rfl ?_
            refine i_iinc (x := x4) (l' := [(0, rf 0), (1, rf 2), (2, rf 252), (3, rf 275), (4, iv (x4 + 7)), (5, iv y7), (6, iv y12)]) r_276_2908 (n_276_2908 _) (by decide) rfl rfl ?_
            refine i_goto (t := 23) r_276_2911 (n_276_2911 _) rfl ?_
            exact wp_pr (l' := [(0, rf 0), (1, rf 2), (2, rf 252), (3, rf 275), (4, iv (x4 + 7))]) rfl h
          · replace h := h.2 c18
            refine i_iconst r_276_1729 (n_276_1729 _) ?_
            exact i_zreturn r_276_1730 (n_276_1730 _) rfl (by decide) h
      · replace h := h.2 c16
        refine i_iconst r_276_1712 (n_276_1712 _) ?_
        exact i_zreturn r_276_1713 (n_276_1713 _) rfl (by decide) h
    · skip
      exact h.elim
  · skip
    exact h.elim
theorem v_Law_law_1734 {S : Option (Nat × (Nat → Int32))} {L : Nat} {xs : Nat → Int32} (hS : S = some (L, xs)) {s : zSt} {Q : Option Value ⊕ Nat → zSt → Prop} {x4 : Int} 
    (h : (0 ≤ (x4 + 1) ∧ (x4 + 1) < (L : Int) ∧ rng (x4 + 1)) ∧ ((0 ≤ (x4 + 2) ∧ (x4 + 2) < (L : Int) ∧ rng (x4 + 2)) ∧ ((0 ≤ (x4 + 3) ∧ (x4 + 3) < (L : Int) ∧ rng (x4 + 3)) ∧ (wp S 143 0 [(0, rf 2), (1, iv ((xs (x4 + 1).toNat).toInt)), (2, iv ((xs (x4 + 2).toNat).toInt)), (3, iv ((xs (x4 + 3).toNat).toInt)), (4, rf 275)] [] s (fun o7 s7 => zkI (fun y7 => wp S 259 0 [(0, rf 252), (1, iv ((xs (x4 + 1).toNat).toInt)), (2, iv ((xs (x4 + 2).toNat).toInt)), (3, iv ((xs (x4 + 3).toNat).toInt))] [] s7 (fun o12 s12 => zkI (fun y12 => ((zI s12 252 3) = y7 → (y7 ≠ 0 → wp S 276 23 [(0, rf 0), (1, rf 2), (2, rf 252), (3, rf 275), (4, iv (x4 + 7))] [] s12 Q) ∧ (y7 = 0 → ((zcmp (zL s12 275 0) (zi2l y12)) = 0 → wp S 276 23 [(0, rf 0), (1, rf 2), (2, rf 252), (3, rf 275), (4, iv (x4 + 7))] [] s12 Q) ∧ ((zcmp (zL s12 275 0) (zi2l y12)) ≠ 0 → Q (rI 0) s12))) ∧ ((zI s12 252 3) ≠ y7 → Q (rI 0) s12)) (fun e12 => False) o12)) (fun e7 => False) o7))))) :
    wp S 276 1734 [(0, rf 0), (1, rf 2), (2, rf 252), (3, rf 275), (4, iv x4)] [] s Q := by
  refine i_aload_n (a := 2) r_276_1734 rfl rfl ?_
  refine i_aload_n (a := 0) r_276_1735 (n_276_1735 _) rfl ?_
  refine i_iload (x := x4) r_276_1736 (n_276_1736 _) rfl ?_
  refine i_iconst r_276_1738 (n_276_1738 _) ?_
  refine i_iadd r_276_1739 (n_276_1739 _) ?_
  obtain ⟨g1, h⟩ := h
  refine i_script hS r_276_1740 (n_276_1740 _) g1.2.2 g1.1 g1.2.1 (fun q2 => ?_)
  refine i_aload_n (a := 0) r_276_1741 (n_276_1741 _) rfl ?_
  refine i_iload (x := x4) r_276_1742 (n_276_1742 _) rfl ?_
  refine i_iconst r_276_1744 (n_276_1744 _) ?_
  refine i_iadd r_276_1745 (n_276_1745 _) ?_
  obtain ⟨g3, h⟩ := h
  refine i_script hS r_276_1746 (n_276_1746 _) g3.2.2 g3.1 g3.2.1 (fun q4 => ?_)
  refine i_aload_n (a := 0) r_276_1747 (n_276_1747 _) rfl ?_
  refine i_iload (x := x4) r_276_1748 (n_276_1748 _) rfl ?_
  refine i_iconst r_276_1750 (n_276_1750 _) ?_
  refine i_iadd r_276_1751 (n_276_1751 _) ?_
  obtain ⟨g5, h⟩ := h
  refine i_script hS r_276_1752 (n_276_1752 _) g5.2.2 g5.1 g5.2.1 (fun q6 => ?_)
  refine i_aload_n (a := 275) r_276_1753 (n_276_1753 _) rfl ?_
  refine wp_stat (rest := []) (Ls := [(0, rf 2), (1, iv ((xs (x4 + 1).toNat).toInt)), (2, iv ((xs (x4 + 2).toNat).toInt)), (3, iv ((xs (x4 + 3).toNat).toInt)), (4, rf 275)]) r_276_1754 (n_276_1754 _) rfl ⟨rfl, by decide, by decide, by decide⟩ rfl rfl ⟨rfl, Nat.le_of_ble_eq_true rfl, Nat.le_of_ble_eq_true rfl⟩ rfl h ?_
  intro o7 s7 h
  rcases h with ⟨y7, q8, rfl, h⟩ | ⟨e7, rfl, h⟩
  · refine .inl ⟨some (iv y7), rfl, ?_⟩
    show wp S 276 1757 [(0, rf 0), (1, rf 2), (2, rf 252), (3, rf 275), (4, iv x4)] [iv y7] s7 Q
    refine i_istore (l' := [(0, rf 0), (1, rf 2), (2, rf 252), (3, rf 275), (4, iv x4), (5, iv y7)]) r_276_1757 (n_276_1757 _) (by decide) rfl ?_
    refine i_aload_n (a := 252) r_276_1759 (n_276_1759 _) rfl ?_
    refine i_aload_n (a := 0) r_276_1760 (n_276_1760 _) rfl ?_
    refine i_iload (x := x4) r_276_1761 (n_276_1761 _) rfl ?_
    refine i_iconst r_276_1763 (n_276_1763 _) ?_
    refine i_iadd r_276_1764 (n_276_1764 _) ?_
    refine i_script hS r_276_1765 (n_276_1765 _) g1.2.2 g1.1 g1.2.1 (fun q9 => ?_)
    refine i_aload_n (a := 0) r_276_1766 (n_276_1766 _) rfl ?_
    refine i_iload (x := x4) r_276_1767 (n_276_1767 _) rfl ?_
    refine i_iconst r_276_1769 (n_276_1769 _) ?_
    refine i_iadd r_276_1770 (n_276_1770 _) ?_
    refine i_script hS r_276_1771 (n_276_1771 _) g3.2.2 g3.1 g3.2.1 (fun q10 => ?_)
    refine i_aload_n (a := 0) r_276_1772 (n_276_1772 _) rfl ?_
    refine i_iload (x := x4) r_276_1773 (n_276_1773 _) rfl ?_
    refine i_iconst r_276_1775 (n_276_1775 _) ?_
    refine i_iadd r_276_1776 (n_276_1776 _) ?_
    refine i_script hS r_276_1777 (n_276_1777 _) g5.2.2 g5.1 g5.2.1 (fun q11 => ?_)
    refine wp_virt (b := 252) (rest := []) (Ls := [(0, rf 252), (1, iv ((xs (x4 + 1).toNat).toInt)), (2, iv ((xs (x4 + 2).toNat).toInt)), (3, iv ((xs (x4 + 3).toNat).toInt))]) r_276_1778 (n_276_1778 _) rfl ⟨rfl, rfl, by decide, by decide⟩ rfl rfl lf_252 ⟨rfl, Nat.le_of_ble_eq_true rfl, Nat.le_of_ble_eq_true rfl⟩ rfl h ?_
    intro o12 s12 h
    rcases h with ⟨y12, q13, rfl, h⟩ | ⟨e12, rfl, h⟩
    · refine .inl ⟨some (iv y12), rfl, ?_⟩
      show wp S 276 1781 [(0, rf 0), (1, rf 2), (2, rf 252), (3, rf 275), (4, iv x4), (5, iv y7)] [iv y12] s12 Q
      refine i_istore (l' := [(0, rf 0), (1, rf 2), (2, rf 252), (3, rf 275), (4, iv x4), (5, iv y7), (6, iv y12)]) r_276_1781 (n_276_1781 _) (by decide) rfl ?_
      refine i_aload_n (a := 252) r_276_1783 (n_276_1783 _) rfl ?_
      refine wp_virt (b := 252) (rest := []) (Ls := [(0, rf 252)]) r_276_1784 (n_276_1784 _) rfl ⟨rfl, rfl, by decide, by decide⟩ rfl rfl lf_252 ⟨rfl, Nat.le_of_ble_eq_true rfl, Nat.le_of_ble_eq_true rfl⟩ rfl K_Model_thrown ?_
      rintro _ _ ⟨rfl, rfl⟩
      refine .inl ⟨some (iv (zI s12 252 3)), rfl, ?_⟩
      show wp S 276 1787 [(0, rf 0), (1, rf 2), (2, rf 252), (3, rf 275), (4, iv x4), (5, iv y7), (6, iv y12)] [iv (zI s12 252 3)] s12 Q
      refine wp_rd (a := 252) (j := 3) (fun q15 => ?_)
      refine i_iload (x := y7) r_276_1787 (n_276_1787 _) rfl ?_
      refine i_icmp (t := 1794) r_276_1789 (n_276_1789 _) rfl (T_eq q15 q8) (fun c16 => ?_) (fun c16 => ?_)
      · replace h := h.1 c16
        refine i_iload (x := y7) r_276_1794 (n_276_1794 _) rfl ?_
        refine i_if (t := 1811) r_276_1796 (n_276_1796 _) rfl (T_ne q8 ⟨by omega, by omega⟩) (fun c17 => ?_) (fun c17 => ?_)
        · replace h := h.1 c17
          refine i_goto (t := 2908) r_276_1811 (n_276_1811 _) rfl ?_
          refine i_iinc (x := x4) (l' := [(0, rf 0), (1, rf 2), (2, rf 252), (3, rf 275), (4, iv (x4 + 7)), (5, iv y7), (6, iv y12)]) r_276_2908 (n_276_2908 _) (by decide) rfl rfl ?_
          refine i_goto (t := 23) r_276_2911 (n_276_2911 _) rfl ?_
          exact wp_pr (l' := [(0, rf 0), (1, rf 2), (2, rf 252), (3, rf 275), (4, iv (x4 + 7))]) rfl h
        · replace h := h.2 c17
          refine i_aload_n (a := 275) r_276_1799 (n_276_1799 _) rfl ?_
          refine i_iconst r_276_1800 (n_276_1800 _) ?_
          refine i_laload (a := 275) (j := 0) r_276_1801 (n_276_1801 _) lf_275 ⟨by omega, by omega⟩ (by omega) (by omega) ?_
          refine i_iload (x := y12) r_276_1802 (n_276_1802 _) rfl ?_
          refine i_i2l r_276_1804 (n_276_1804 _) ?_
          refine i_lcmp r_276_1805 (n_276_1805 _) ?_
          refine i_if (t := 1811) r_276_1806 (n_276_1806 _) rfl (T_eq (zcmp_rng _ _) ⟨by omega, by omega⟩) (fun c18 => ?_) (fun c18 => ?_)
          · replace h := h.1 c18
            refine i_goto (t := 2908) r_276_1811 (n_276_1811 _) rfl ?_
            refine i_iinc (x := x4) (l' := [(0, rf 0), (1, rf 2), (2, rf 252), (3, rf 275), (4, iv (x4 + 7)), (5, iv y7), (6, iv y12)]) r_276_2908 (n_276_2908 _) (by decide) rfl rfl ?_
            refine i_goto (t := 23) r_276_2911 (n_276_2911 _) rfl ?_
            exact wp_pr (l' := [(0, rf 0), (1, rf 2), (2, rf 252), (3, rf 275), (4, iv (x4 + 7))]) rfl h
          · replace h := h.2 c18
            refine i_iconst r_276_1809 (n_276_1809 _) ?_
            exact i_zreturn r_276_1810 (n_276_1810 _) rfl (by decide) h
      · replace h := h.2 c16
        refine i_iconst r_276_1792 (n_276_1792 _) ?_
        exact i_zreturn r_276_1793 (n_276_1793 _) rfl (by decide) h
    · skip
      exact h.elim
  · skip
    exact h.elim
theorem v_Law_law_1814 {S : Option (Nat × (Nat → Int32))} {L : Nat} {xs : Nat → Int32} (hS : S = some (L, xs)) {s : zSt} {Q : Option Value ⊕ Nat → zSt → Prop} {x4 : Int} 
    (h : wp S 17 0 [(0, rf 2)] [] s (fun o1 s1 => zkI (fun y1 => wp S 261 0 [(0, rf 252)] [] s1 (fun o3 s3 => zkI (fun y3 => (y1 = y3 → wp S 276 23 [(0, rf 0), (1, rf 2), (2, rf 252), (3, rf 275), (4, iv (x4 + 7))] [] s3 Q) ∧ (y1 ≠ y3 → Q (rI 0) s3)) (fun e3 => False) o3)) (fun e1 => False) o1)) :
    wp S 276 1814 [(0, rf 0), (1, rf 2), (2, rf 252), (3, rf 275), (4, iv x4)] [] s Q := by
  refine i_aload_n (a := 2) r_276_1814 rfl rfl ?_
  refine wp_virt (b := 2) (rest := []) (Ls := [(0, rf 2)]) r_276_1815 (n_276_1815 _) rfl ⟨rfl, rfl, by decide, by decide⟩ rfl rfl lf_2 ⟨rfl, Nat.le_of_ble_eq_true rfl, Nat.le_of_ble_eq_true rfl⟩ rfl h ?_
  intro o1 s1 h
  rcases h with ⟨y1, q2, rfl, h⟩ | ⟨e1, rfl, h⟩
  · refine .inl ⟨some (iv y1), rfl, ?_⟩
    show wp S 276 1818 [(0, rf 0), (1, rf 2), (2, rf 252), (3, rf 275), (4, iv x4)] [iv y1] s1 Q
    refine i_aload_n (a := 252) r_276_1818 (n_276_1818 _) rfl ?_
    refine wp_virt (b := 252) (rest := [iv y1]) (Ls := [(0, rf 252)]) r_276_1819 (n_276_1819 _) rfl ⟨rfl, rfl, by decide, by decide⟩ rfl rfl lf_252 ⟨rfl, Nat.le_of_ble_eq_true rfl, Nat.le_of_ble_eq_true rfl⟩ rfl h ?_
    intro o3 s3 h
    rcases h with ⟨y3, q4, rfl, h⟩ | ⟨e3, rfl, h⟩
    · refine .inl ⟨some (iv y3), rfl, ?_⟩
      show wp S 276 1822 [(0, rf 0), (1, rf 2), (2, rf 252), (3, rf 275), (4, iv x4)] [iv y3, iv y1] s3 Q
      refine i_icmp (t := 2908) r_276_1822 (n_276_1822 _) rfl (T_eq q2 q4) (fun c5 => ?_) (fun c5 => ?_)
      · replace h := h.1 c5
        refine i_iinc (x := x4) (l' := [(0, rf 0), (1, rf 2), (2, rf 252), (3, rf 275), (4, iv (x4 + 7))]) r_276_2908 (n_276_2908 _) (by decide) rfl rfl ?_
        refine i_goto (t := 23) r_276_2911 (n_276_2911 _) rfl ?_
        exact wp_pr (l' := [(0, rf 0), (1, rf 2), (2, rf 252), (3, rf 275), (4, iv (x4 + 7))]) rfl h
      · replace h := h.2 c5
        refine i_iconst r_276_1825 (n_276_1825 _) ?_
        exact i_zreturn r_276_1826 (n_276_1826 _) rfl (by decide) h
    · skip
      exact h.elim
  · skip
    exact h.elim
theorem v_Law_law_1827 {S : Option (Nat × (Nat → Int32))} {L : Nat} {xs : Nat → Int32} (hS : S = some (L, xs)) {s : zSt} {Q : Option Value ⊕ Nat → zSt → Prop} {x4 : Int} 
    (h : (0 ≤ (x4 + 1) ∧ (x4 + 1) < (L : Int) ∧ rng (x4 + 1)) ∧ ((0 ≤ (x4 + 2) ∧ (x4 + 2) < (L : Int) ∧ rng (x4 + 2)) ∧ ((0 ≤ (x4 + 3) ∧ (x4 + 3) < (L : Int) ∧ rng (x4 + 3)) ∧ ((((xs (x4 + 3).toNat).toInt) = 0 → wp S 145 0 [(0, rf 2), (1, iv ((xs (x4 + 1).toNat).toInt)), (2, iv ((xs (x4 + 2).toNat).toInt)), (3, iv 0), (4, rf 275)] [] s (fun o8 s8 => zkI (fun y8 => (((xs (x4 + 3).toNat).toInt) = 0 → wp S 262 0 [(0, rf 252), (1, iv ((xs (x4 + 1).toNat).toInt)), (2, iv ((xs (x4 + 2).toNat).toInt)), (3, iv 0)] [] s8 (fun o14 s14 => zkI (fun y14 => ((zI s14 252 3) = y8 → (y8 ≠ 0 → wp S 276 23 [(0, rf 0), (1, rf 2), (2, rf 252), (3, rf 275), (4, iv (x4 + 7))] [] s14 Q) ∧ (y8 = 0 → ((zcmp (zL s14 275 0) (zi2l y14)) = 0 → wp S 276 23 [(0, rf 0), (1, rf 2), (2, rf 252), (3, rf 275), (4, iv (x4 + 7))] [] s14 Q) ∧ ((zcmp (zL s14 275 0) (zi2l y14)) ≠ 0 → Q (rI 0) s14))) ∧ ((zI s14 252 3) ≠ y8 → Q (rI 0) s14)) (fun e14 => False) o14)) ∧ (((xs (x4 + 3).toNat).toInt) ≠ 0 → wp S 262 0 [(0, rf 252), (1, iv ((xs (x4 + 1).toNat).toInt)), (2, iv ((xs (x4 + 2).toNat).toInt)), (3, iv 1)] [] s8 (fun o21 s21 => zkI (fun y21 => ((zI s21 252 3) = y8 → (y8 ≠ 0 → wp S 276 23 [(0, rf 0), (1, rf 2), (2, rf 252), (3, rf 275), (4, iv (x4 + 7))] [] s21 Q) ∧ (y8 = 0 → ((zcmp (zL s21 275 0) (zi2l y21)) = 0 → wp S 276 23 [(0, rf 0), (1, rf 2), (2, rf 252), (3, rf 275), (4, iv (x4 + 7))] [] s21 Q) ∧ ((zcmp (zL s21 275 0) (zi2l y21)) ≠ 0 → Q (rI 0) s21))) ∧ ((zI s21 252 3) ≠ y8 → Q (rI 0) s21)) (fun e21 => False) o21))) (fun e8 => False) o8)) ∧ (((xs (x4 + 3).toNat).toInt) ≠ 0 → wp S 145 0 [(0, rf 2), (1, iv ((xs (x4 + 1).toNat).toInt)), (2, iv ((xs (x4 + 2).toNat).toInt)), (3, iv 1), (4, rf 275)] [] s (fun o28 s28 => zkI (fun y28 => (((xs (x4 + 3).toNat).toInt) = 0 → wp S 262 0 [(0, rf 252), (1, iv ((xs (x4 + 1).toNat).toInt)), (2, iv ((xs (x4 + 2).toNat).toInt)), (3, iv 0)] [] s28 (fun o34 s34 => zkI (fun y34 => ((zI s34 252 3) = y28 → (y28 ≠ 0 → wp S 276 23 [(0, rf 0), (1, rf 2), (2, rf 252), (3, rf 275), (4, iv (x4 + 7))] [] s34 Q) ∧ (y28 = 0 → ((zcmp (zL s34 275 0) (zi2l y34)) = 0 → wp S 276 23 [(0, rf 0), (1, rf 2), (2, rf 252), (3, rf 275), (4, iv (x4 + 7))] [] s34 Q) ∧ ((zcmp (zL s34 275 0) (zi2l y34)) ≠ 0 → Q (rI 0) s34))) ∧ ((zI s34 252 3) ≠ y28 → Q (rI 0) s34)) (fun e34 => False) o34)) ∧ (((xs (x4 + 3).toNat).toInt) ≠ 0 → wp S 262 0 [(0, rf 252), (1, iv ((xs (x4 + 1).toNat).toInt)), (2, iv ((xs (x4 + 2).toNat).toInt)), (3, iv 1)] [] s28 (fun o41 s41 => zkI (fun y41 => ((zI s41 252 3) = y28 → (y28 ≠ 0 → wp S 276 23 [(0, rf 0), (1, rf 2), (2, rf 252), (3, rf 275), (4, iv (x4 + 7))] [] s41 Q) ∧ (y28 = 0 → ((zcmp (zL s41 275 0) (zi2l y41)) = 0 → wp S 276 23 [(0, rf 0), (1, rf 2), (2, rf 252), (3, rf 275), (4, iv (x4 + 7))] [] s41 Q) ∧ ((zcmp (zL s41 275 0) (zi2l y41)) ≠ 0 → Q (rI 0) s41))) ∧ ((zI s41 252 3) ≠ y28 → Q (rI 0) s41)) (fun e41 => False) o41))) (fun e28 => False) o28)))))) :
    wp S 276 1827 [(0, rf 0), (1, rf 2), (2, rf 252), (3, rf 275), (4, iv x4)] [] s Q := by
  refine i_aload_n (a := 2) r_276_1827 rfl rfl ?_
  refine i_aload_n (a := 0) r_276_1828 (n_276_1828 _) rfl ?_
  refine i_iload (x := x4) r_276_1829 (n_276_1829 _) rfl ?_
  refine i_iconst r_276_1831 (n_276_1831 _) ?_
  refine i_iadd r_276_1832 (n_276_1832 _) ?_
  obtain ⟨g1, h⟩ := h
  refine i_script hS r_276_1833 (n_276_1833 _) g1.2.2 g1.1 g1.2.1 (fun q2 => ?_)
  refine i_aload_n (a := 0) r_276_1834 (n_276_1834 _) rfl ?_
  refine i_iload (x := x4) r_276_1835 (n_276_1835 _) rfl ?_
  refine i_iconst r_276_1837 (n_276_1837 _) ?_
  refine i_iadd r_276_1838 (n_276_1838 _) ?_
  obtain ⟨g3, h⟩ := h
  refine i_script hS r_276_1839 (n_276_1839 _) g3.2.2 g3.1 g3.2.1 (fun q4 => ?_)
  refine i_aload_n (a := 0) r_276_1840 (n_276_1840 _) rfl ?_
  refine i_iload (x := x4) r_276_1841 (n_276_1841 _) rfl ?_
  refine i_iconst r_276_1843 (n_276_1843 _) ?_
  refine i_iadd r_276_1844 (n_276_1844 _) ?_
  obtain ⟨g5, h⟩ := h
  refine i_script hS r_276_1845 (n_276_1845 _) g5.2.2 g5.1 g5.2.1 (fun q6 => ?_)
  refine i_if (t := 1853) r_276_1846 (n_276_1846 _) rfl (T_eq q6 ⟨by omega, by omega⟩) (fun c7 => ?_) (fun c7 => ?_)
  · replace h := h.1 c7
    refine i_iconst r_276_1853 (n_276_1853 _) ?_
    refine i_aload_n (a := 275) r_276_1854 (n_276_1854 _) rfl ?_
    refine wp_stat (rest := []) (Ls := [(0, rf 2), (1, iv ((xs (x4 + 1).toNat).toInt)), (2, iv ((xs (x4 + 2).toNat).toInt)), (3, iv 0), (4, rf 275)]) r_276_1855 (n_276_1855 _) rfl ⟨rfl, by decide, by decide, by decide⟩ rfl rfl ⟨rfl, Nat.le_of_ble_eq_true rfl, Nat.le_of_ble_eq_true rfl⟩ rfl h ?_
    intro o8 s8 h
    rcases h with ⟨y8, q9, rfl, h⟩ | ⟨e8, rfl, h⟩
    · refine .inl ⟨some (iv y8), rfl, ?_⟩
      show wp S 276 1858 [(0, rf 0), (1, rf 2), (2, rf 252), (3, rf 275), (4, iv x4)] [iv y8] s8 Q
      refine i_istore (l' := [(0, rf 0), (1, rf 2), (2, rf 252), (3, rf 275), (4, iv x4), (5, iv y8)]) r_276_1858 (n_276_1858 _) (by decide) rfl ?_
      refine i_aload_n (a := 252) r_276_1860 (n_276_1860 _) rfl ?_
      refine i_aload_n (a := 0) r_276_1861 (n_276_1861 _) rfl ?_
      refine i_iload (x := x4) r_276_1862 (n_276_1862 _) rfl ?_
      refine i_iconst r_276_1864 (n_276_1864 _) ?_
      refine i_iadd r_276_1865 (n_276_1865 _) ?_
      refine i_script hS r_276_1866 (n_276_1866 _) g1.2.2 g1.1 g1.2.1 (fun q10 => ?_)
      refine i_aload_n (a := 0) r_276_1867 (n_276_1867 _) rfl ?_
      refine i_iload (x := x4) r_276_1868 (n_276_1868 _) rfl ?_
      refine i_iconst r_276_1870 (n_276_1870 _) ?_
      refine i_iadd r_276_1871 (n_276_1871 _) ?_
      refine i_script hS r_276_1872 (n_276_1872 _) g3.2.2 g3.1 g3.2.1 (fun q11 => ?_)
      refine i_aload_n (a := 0) r_276_1873 (n_276_1873 _) rfl ?_
      refine i_iload (x := x4) r_276_1874 (n_276_1874 _) rfl ?_
      refine i_iconst r_276_1876 (n_276_1876 _) ?_
      refine i_iadd r_276_1877 (n_276_1877 _) ?_
      refine i_script hS r_276_1878 (n_276_1878 _) g5.2.2 g5.1 g5.2.1 (fun q12 => ?_)
      refine i_if (t := 1886) r_276_1879 (n_276_1879 _) rfl (T_eq q12 ⟨by omega, by omega⟩) (fun c13 => ?_) (fun c13 => ?_)
      · replace h := h.1 c13
        refine i_iconst r_276_1886 (n_276_1886 _) ?_
        refine wp_virt (b := 252) (rest := []) (Ls := [(0, rf 252), (1, iv ((xs (x4 + 1).toNat).toInt)), (2, iv ((xs (x4 + 2).toNat).toInt)), (3, iv 0)]) r_276_1887 (n_276_1887 _) rfl ⟨rfl, rfl, by decide, by decide⟩ rfl rfl lf_252 ⟨rfl, Nat.le_of_ble_eq_true rfl, Nat.le_of_ble_eq_true rfl⟩ rfl h ?_
        intro o14 s14 h
        rcases h with ⟨y14, q15, rfl, h⟩ | ⟨e14, rfl, h⟩
        · refine .inl ⟨some (iv y14), rfl, ?_⟩
          show wp S 276 1890 [(0, rf 0), (1, rf 2), (2, rf 252), (3, rf 275), (4, iv x4), (5, iv y8)] [iv y14] s14 Q
          refine i_istore (l' := [(0, rf 0), (1, rf 2), (2, rf 252), (3, rf 275), (4, iv x4), (5, iv y8), (6, iv y14)]) r_276_1890 (n_276_1890 _) (by decide) rfl ?_
          refine i_aload_n (a := 252) r_276_1892 (n_276_1892 _) rfl ?_
          refine wp_virt (b := 252) (rest := []) (Ls := [(0, rf 252)]) r_276_1893 (n_276_1893 _) rfl ⟨rfl, rfl, by decide, by decide⟩ rfl rfl lf_252 ⟨rfl, Nat.le_of_ble_eq_true rfl, Nat.le_of_ble_eq_true rfl⟩ rfl K_Model_thrown ?_
          rintro _ _ ⟨rfl, rfl⟩
          refine .inl ⟨some (iv (zI s14 252 3)), rfl, ?_⟩
          show wp S 276 1896 [(0, rf 0), (1, rf 2), (2, rf 252), (3, rf 275), (4, iv x4), (5, iv y8), (6, iv y14)] [iv (zI s14 252 3)] s14 Q
          refine wp_rd (a := 252) (j := 3) (fun q17 => ?_)
          refine i_iload (x := y8) r_276_1896 (n_276_1896 _) rfl ?_
          refine i_icmp (t := 1903) r_276_1898 (n_276_1898 _) rfl (T_eq q17 q9) (fun c18 => ?_) (fun c18 => ?_)
          · replace h := h.1 c18
            refine i_iload (x := y8) r_276_1903 (n_276_1903 _) rfl ?_
            refine i_if (t := 1920) r_276_1905 (n_276_1905 _) rfl (T_ne q9 ⟨by omega, by omega⟩) (fun c19 => ?_) (fun c19 => ?_)
            · replace h := h.1 c19
              refine i_goto (t := 2908) r_276_1920 (n_276_1920 _) rfl ?_
              refine i_iinc (x := x4) (l' := [(0, rf 0), (1, rf 2), (2, rf 252), (3, rf 275), (4, iv (x4 + 7)), (5, iv y8), (6, iv y14)]) r_276_2908 (n_276_2908 _) (by decide) rfl rfl ?_
              refine i_goto (t := 23) r_276_2911 (n_276_2911 _) rfl ?_
              exact wp_pr (l' := [(0, rf 0), (1, rf 2), (2, rf 252), (3, rf 275), (4, iv (x4 + 7))]) rfl h
            · replace h := h.2 c19
              refine i_aload_n (a := 275) r_276_1908 (n_276_1908 _) rfl ?_
              refine i_iconst r_276_1909 (n_276_1909 _) ?_
              refine i_laload (a := 275) (j := 0) r_276_1910 (n_276_1910 _) lf_275 ⟨by omega, by omega⟩ (by omega) (by omega) ?_
              refine i_iload (x := y14) r_276_1911 (n_276_1911 _) rfl ?_
              refine i_i2l r_276_1913 (n_276_1913 _) ?_
              refine i_lcmp r_276_1914 (n_276_1914 _) ?_
              refine i_if (t := 1920) r_276_1915 (n_276_1915 _) rfl (T_eq (zcmp_rng _ _) ⟨by omega, by omega⟩) (fun c20 => ?_) (fun c20 => ?_)
              · replace h := h.1 c20
                refine i_goto (t := 2908) r_276_1920 (n_276_1920 _) rfl ?_
                refine i_iinc (x := x4) (l' := [(0, rf 0), (1, rf 2), (2, rf 252), (3, rf 275), (4, iv (x4 + 7)), (5, iv y8), (6, iv y14)]) r_276_2908 (n_276_2908 _) (by decide) rfl rfl ?_
                refine i_goto (t := 23) r_276_2911 (n_276_2911 _) rfl ?_
                exact wp_pr (l' := [(0, rf 0), (1, rf 2), (2, rf 252), (3, rf 275), (4, iv (x4 + 7))]) rfl h
              · replace h := h.2 c20
                refine i_iconst r_276_1918 (n_276_1918 _) ?_
                exact i_zreturn r_276_1919 (n_276_1919 _) rfl (by decide) h
          · replace h := h.2 c18
            refine i_iconst r_276_1901 (n_276_1901 _) ?_
            exact i_zreturn r_276_1902 (n_276_1902 _) rfl (by decide) h
        · skip
          exact h.elim
      · replace h := h.2 c13
        refine i_iconst r_276_1882 (n_276_1882 _) ?_
        refine i_goto (t := 1887) r_276_1883 (n_276_1883 _) rfl ?_
        refine wp_virt (b := 252) (rest := []) (Ls := [(0, rf 252), (1, iv ((xs (x4 + 1).toNat).toInt)), (2, iv ((xs (x4 + 2).toNat).toInt)), (3, iv 1)]) r_276_1887 (n_276_1887 _) rfl ⟨rfl, rfl, by decide, by decide⟩ rfl rfl lf_252 ⟨rfl, Nat.le_of_ble_eq_true rfl, Nat.le_of_ble_eq_true rfl⟩ rfl h ?_
        intro o21 s21 h
        rcases h with ⟨y21, q22, rfl, h⟩ | ⟨e21, rfl, h⟩
        · refine .inl ⟨some (iv y21), rfl, ?_⟩
          show wp S 276 1890 [(0, rf 0), (1, rf 2), (2, rf 252), (3, rf 275), (4, iv x4), (5, iv y8)] [iv y21] s21 Q
          refine i_istore (l' := [(0, rf 0), (1, rf 2), (2, rf 252), (3, rf 275), (4, iv x4), (5, iv y8), (6, iv y21)]) r_276_1890 (n_276_1890 _) (by decide) rfl ?_
          refine i_aload_n (a := 252) r_276_1892 (n_276_1892 _) rfl ?_
          refine wp_virt (b := 252) (rest := []) (Ls := [(0, rf 252)]) r_276_1893 (n_276_1893 _) rfl ⟨rfl, rfl, by decide, by decide⟩ rfl rfl lf_252 ⟨rfl, Nat.le_of_ble_eq_true rfl, Nat.le_of_ble_eq_true rfl⟩ rfl K_Model_thrown ?_
          rintro _ _ ⟨rfl, rfl⟩
          refine .inl ⟨some (iv (zI s21 252 3)), rfl, ?_⟩
          show wp S 276 1896 [(0, rf 0), (1, rf 2), (2, rf 252), (3, rf 275), (4, iv x4), (5, iv y8), (6, iv y21)] [iv (zI s21 252 3)] s21 Q
          refine wp_rd (a := 252) (j := 3) (fun q24 => ?_)
          refine i_iload (x := y8) r_276_1896 (n_276_1896 _) rfl ?_
          refine i_icmp (t := 1903) r_276_1898 (n_276_1898 _) rfl (T_eq q24 q9) (fun c25 => ?_) (fun c25 => ?_)
          · replace h := h.1 c25
            refine i_iload (x := y8) r_276_1903 (n_276_1903 _) rfl ?_
            refine i_if (t := 1920) r_276_1905 (n_276_1905 _) rfl (T_ne q9 ⟨by omega, by omega⟩) (fun c26 => ?_) (fun c26 => ?_)
            · replace h := h.1 c26
              refine i_goto (t := 2908) r_276_1920 (n_276_1920 _) rfl ?_
              refine i_iinc (x := x4) (l' := [(0, rf 0), (1, rf 2), (2, rf 252), (3, rf 275), (4, iv (x4 + 7)), (5, iv y8), (6, iv y21)]) r_276_2908 (n_276_2908 _) (by decide) rfl rfl ?_
              refine i_goto (t := 23) r_276_2911 (n_276_2911 _) rfl ?_
              exact wp_pr (l' := [(0, rf 0), (1, rf 2), (2, rf 252), (3, rf 275), (4, iv (x4 + 7))]) rfl h
            · replace h := h.2 c26
              refine i_aload_n (a := 275) r_276_1908 (n_276_1908 _) rfl ?_
              refine i_iconst r_276_1909 (n_276_1909 _) ?_
              refine i_laload (a := 275) (j := 0) r_276_1910 (n_276_1910 _) lf_275 ⟨by omega, by omega⟩ (by omega) (by omega) ?_
              refine i_iload (x := y21) r_276_1911 (n_276_1911 _) rfl ?_
              refine i_i2l r_276_1913 (n_276_1913 _) ?_
              refine i_lcmp r_276_1914 (n_276_1914 _) ?_
              refine i_if (t := 1920) r_276_1915 (n_276_1915 _) rfl (T_eq (zcmp_rng _ _) ⟨by omega, by omega⟩) (fun c27 => ?_) (fun c27 => ?_)
              · replace h := h.1 c27
                refine i_goto (t := 2908) r_276_1920 (n_276_1920 _) rfl ?_
                refine i_iinc (x := x4) (l' := [(0, rf 0), (1, rf 2), (2, rf 252), (3, rf 275), (4, iv (x4 + 7)), (5, iv y8), (6, iv y21)]) r_276_2908 (n_276_2908 _) (by decide) rfl rfl ?_
                refine i_goto (t := 23) r_276_2911 (n_276_2911 _) rfl ?_
                exact wp_pr (l' := [(0, rf 0), (1, rf 2), (2, rf 252), (3, rf 275), (4, iv (x4 + 7))]) rfl h
              · replace h := h.2 c27
                refine i_iconst r_276_1918 (n_276_1918 _) ?_
                exact i_zreturn r_276_1919 (n_276_1919 _) rfl (by decide) h
          · replace h := h.2 c25
            refine i_iconst r_276_1901 (n_276_1901 _) ?_
            exact i_zreturn r_276_1902 (n_276_1902 _) rfl (by decide) h
        · skip
          exact h.elim
    · skip
      exact h.elim
  · replace h := h.2 c7
    refine i_iconst r_276_1849 (n_276_1849 _) ?_
    refine i_goto (t := 1854) r_276_1850 (n_276_1850 _) rfl ?_
    refine i_aload_n (a := 275) r_276_1854 (n_276_1854 _) rfl ?_
    refine wp_stat (rest := []) (Ls := [(0, rf 2), (1, iv ((xs (x4 + 1).toNat).toInt)), (2, iv ((xs (x4 + 2).toNat).toInt)), (3, iv 1), (4, rf 275)]) r_276_1855 (n_276_1855 _) rfl ⟨rfl, by decide, by decide, by decide⟩ rfl rfl ⟨rfl, Nat.le_of_ble_eq_true rfl, Nat.le_of_ble_eq_true rfl⟩ rfl h ?_
    intro o28 s28 h
    rcases h with ⟨y28, q29, rfl, h⟩ | ⟨e28, rfl, h⟩
    · refine .inl ⟨some (iv y28), rfl, ?_⟩
      show wp S 276 1858 [(0, rf 0), (1, rf 2), (2, rf 252), (3, rf 275), (4, iv x4)] [iv y28] s28 Q
      refine i_istore (l' := [(0, rf 0), (1, rf 2), (2, rf 252), (3, rf 275), (4, iv x4), (5, iv y28)]) r_276_1858 (n_276_1858 _) (by decide) rfl ?_
      refine i_aload_n (a := 252) r_276_1860 (n_276_1860 _) rfl ?_
      refine i_aload_n (a := 0) r_276_1861 (n_276_1861 _) rfl ?_
      refine i_iload (x := x4) r_276_1862 (n_276_1862 _) rfl ?_
      refine i_iconst r_276_1864 (n_276_1864 _) ?_
      refine i_iadd r_276_1865 (n_276_1865 _) ?_
      refine i_script hS r_276_1866 (n_276_1866 _) g1.2.2 g1.1 g1.2.1 (fun q30 => ?_)
      refine i_aload_n (a := 0) r_276_1867 (n_276_1867 _) rfl ?_
      refine i_iload (x := x4) r_276_1868 (n_276_1868 _) rfl ?_
      refine i_iconst r_276_1870 (n_276_1870 _) ?_
      refine i_iadd r_276_1871 (n_276_1871 _) ?_
      refine i_script hS r_276_1872 (n_276_1872 _) g3.2.2 g3.1 g3.2.1 (fun q31 => ?_)
      refine i_aload_n (a := 0) r_276_1873 (n_276_1873 _) rfl ?_
      refine i_iload (x := x4) r_276_1874 (n_276_1874 _) rfl ?_
      refine i_iconst r_276_1876 (n_276_1876 _) ?_
      refine i_iadd r_276_1877 (n_276_1877 _) ?_
      refine i_script hS r_276_1878 (n_276_1878 _) g5.2.2 g5.1 g5.2.1 (fun q32 => ?_)
      refine i_if (t := 1886) r_276_1879 (n_276_1879 _) rfl (T_eq q32 ⟨by omega, by omega⟩) (fun c33 => ?_) (fun c33 => ?_)
      · replace h := h.1 c33
        refine i_iconst r_276_1886 (n_276_1886 _) ?_
        refine wp_virt (b := 252) (rest := []) (Ls := [(0, rf 252), (1, iv ((xs (x4 + 1).toNat).toInt)), (2, iv ((xs (x4 + 2).toNat).toInt)), (3, iv 0)]) r_276_1887 (n_276_1887 _) rfl ⟨rfl, rfl, by decide, by decide⟩ rfl rfl lf_252 ⟨rfl, Nat.le_of_ble_eq_true rfl, Nat.le_of_ble_eq_true rfl⟩ rfl h ?_
        intro o34 s34 h
        rcases h with ⟨y34, q35, rfl, h⟩ | ⟨e34, rfl, h⟩
        · refine .inl ⟨some (iv y34), rfl, ?_⟩
          show wp S 276 1890 [(0, rf 0), (1, rf 2), (2, rf 252), (3, rf 275), (4, iv x4), (5, iv y28)] [iv y34] s34 Q
          refine i_istore (l' := [(0, rf 0), (1, rf 2), (2, rf 252), (3, rf 275), (4, iv x4), (5, iv y28), (6, iv y34)]) r_276_1890 (n_276_1890 _) (by decide) rfl ?_
          refine i_aload_n (a := 252) r_276_1892 (n_276_1892 _) rfl ?_
          refine wp_virt (b := 252) (rest := []) (Ls := [(0, rf 252)]) r_276_1893 (n_276_1893 _) rfl ⟨rfl, rfl, by decide, by decide⟩ rfl rfl lf_252 ⟨rfl, Nat.le_of_ble_eq_true rfl, Nat.le_of_ble_eq_true rfl⟩ rfl K_Model_thrown ?_
          rintro _ _ ⟨rfl, rfl⟩
          refine .inl ⟨some (iv (zI s34 252 3)), rfl, ?_⟩
          show wp S 276 1896 [(0, rf 0), (1, rf 2), (2, rf 252), (3, rf 275), (4, iv x4), (5, iv y28), (6, iv y34)] [iv (zI s34 252 3)] s34 Q
          refine wp_rd (a := 252) (j := 3) (fun q37 => ?_)
          refine i_iload (x := y28) r_276_1896 (n_276_1896 _) rfl ?_
          refine i_icmp (t := 1903) r_276_1898 (n_276_1898 _) rfl (T_eq q37 q29) (fun c38 => ?_) (fun c38 => ?_)
          · replace h := h.1 c38
            refine i_iload (x := y28) r_276_1903 (n_276_1903 _) rfl ?_
            refine i_if (t := 1920) r_276_1905 (n_276_1905 _) rfl (T_ne q29 ⟨by omega, by omega⟩) (fun c39 => ?_) (fun c39 => ?_)
            · replace h := h.1 c39
              refine i_goto (t := 2908) r_276_1920 (n_276_1920 _) rfl ?_
              refine i_iinc (x := x4) (l' := [(0, rf 0), (1, rf 2), (2, rf 252), (3, rf 275), (4, iv (x4 + 7)), (5, iv y28), (6, iv y34)]) r_276_2908 (n_276_2908 _) (by decide) rfl rfl ?_
              refine i_goto (t := 23) r_276_2911 (n_276_2911 _) rfl ?_
              exact wp_pr (l' := [(0, rf 0), (1, rf 2), (2, rf 252), (3, rf 275), (4, iv (x4 + 7))]) rfl h
            · replace h := h.2 c39
              refine i_aload_n (a := 275) r_276_1908 (n_276_1908 _) rfl ?_
              refine i_iconst r_276_1909 (n_276_1909 _) ?_
              refine i_laload (a := 275) (j := 0) r_276_1910 (n_276_1910 _) lf_275 ⟨by omega, by omega⟩ (by omega) (by omega) ?_
              refine i_iload (x := y34) r_276_1911 (n_276_1911 _) rfl ?_
              refine i_i2l r_276_1913 (n_276_1913 _) ?_
              refine i_lcmp r_276_1914 (n_276_1914 _) ?_
              refine i_if (t := 1920) r_276_1915 (n_276_1915 _) rfl (T_eq (zcmp_rng _ _) ⟨by omega, by omega⟩) (fun c40 => ?_) (fun c40 => ?_)
              · replace h := h.1 c40
                refine i_goto (t := 2908) r_276_1920 (n_276_1920 _) rfl ?_
                refine i_iinc (x := x4) (l' := [(0, rf 0), (1, rf 2), (2, rf 252), (3, rf 275), (4, iv (x4 + 7)), (5, iv y28), (6, iv y34)]) r_276_2908 (n_276_2908 _) (by decide) rfl rfl ?_
                refine i_goto (t := 23) r_276_2911 (n_276_2911 _) rfl ?_
                exact wp_pr (l' := [(0, rf 0), (1, rf 2), (2, rf 252), (3, rf 275), (4, iv (x4 + 7))]) rfl h
              · replace h := h.2 c40
                refine i_iconst r_276_1918 (n_276_1918 _) ?_
                exact i_zreturn r_276_1919 (n_276_1919 _) rfl (by decide) h
          · replace h := h.2 c38
            refine i_iconst r_276_1901 (n_276_1901 _) ?_
            exact i_zreturn r_276_1902 (n_276_1902 _) rfl (by decide) h
        · skip
          exact h.elim
      · replace h := h.2 c33
        refine i_iconst r_276_1882 (n_276_1882 _) ?_
        refine i_goto (t := 1887) r_276_1883 (n_276_1883 _) rfl ?_
        refine wp_virt (b := 252) (rest := []) (Ls := [(0, rf 252), (1, iv ((xs (x4 + 1).toNat).toInt)), (2, iv ((xs (x4 + 2).toNat).toInt)), (3, iv 1)]) r_276_1887 (n_276_1887 _) rfl ⟨rfl, rfl, by decide, by decide⟩ rfl rfl lf_252 ⟨rfl, Nat.le_of_ble_eq_true rfl, Nat.le_of_ble_eq_true rfl⟩ rfl h ?_
        intro o41 s41 h
        rcases h with ⟨y41, q42, rfl, h⟩ | ⟨e41, rfl, h⟩
        · refine .inl ⟨some (iv y41), rfl, ?_⟩
          show wp S 276 1890 [(0, rf 0), (1, rf 2), (2, rf 252), (3, rf 275), (4, iv x4), (5, iv y28)] [iv y41] s41 Q
          refine i_istore (l' := [(0, rf 0), (1, rf 2), (2, rf 252), (3, rf 275), (4, iv x4), (5, iv y28), (6, iv y41)]) r_276_1890 (n_276_1890 _) (by decide) rfl ?_
          refine i_aload_n (a := 252) r_276_1892 (n_276_1892 _) rfl ?_
          refine wp_virt (b := 252) (rest := []) (Ls := [(0, rf 252)]) r_276_1893 (n_276_1893 _) rfl ⟨rfl, rfl, by decide, by decide⟩ rfl rfl lf_252 ⟨rfl, Nat.le_of_ble_eq_true rfl, Nat.le_of_ble_eq_true rfl⟩ rfl K_Model_thrown ?_
          rintro _ _ ⟨rfl, rfl⟩
          refine .inl ⟨some (iv (zI s41 252 3)), rfl, ?_⟩
          show wp S 276 1896 [(0, rf 0), (1, rf 2), (2, rf 252), (3, rf 275), (4, iv x4), (5, iv y28), (6, iv y41)] [iv (zI s41 252 3)] s41 Q
          refine wp_rd (a := 252) (j := 3) (fun q44 => ?_)
          refine i_iload (x := y28) r_276_1896 (n_276_1896 _) rfl ?_
          refine i_icmp (t := 1903) r_276_1898 (n_276_1898 _) rfl (T_eq q44 q29) (fun c45 => ?_) (fun c45 => ?_)
          · replace h := h.1 c45
            refine i_iload (x := y28) r_276_1903 (n_276_1903 _) rfl ?_
            refine i_if (t := 1920) r_276_1905 (n_276_1905 _) rfl (T_ne q29 ⟨by omega, by omega⟩) (fun c46 => ?_) (fun c46 => ?_)
            · replace h := h.1 c46
              refine i_goto (t := 2908) r_276_1920 (n_276_1920 _) rfl ?_
              refine i_iinc (x := x4) (l' := [(0, rf 0), (1, rf 2), (2, rf 252), (3, rf 275), (4, iv (x4 + 7)), (5, iv y28), (6, iv y41)]) r_276_2908 (n_276_2908 _) (by decide) rfl rfl ?_
              refine i_goto (t := 23) r_276_2911 (n_276_2911 _) rfl ?_
              exact wp_pr (l' := [(0, rf 0), (1, rf 2), (2, rf 252), (3, rf 275), (4, iv (x4 + 7))]) rfl h
            · replace h := h.2 c46
              refine i_aload_n (a := 275) r_276_1908 (n_276_1908 _) rfl ?_
              refine i_iconst r_276_1909 (n_276_1909 _) ?_
              refine i_laload (a := 275) (j := 0) r_276_1910 (n_276_1910 _) lf_275 ⟨by omega, by omega⟩ (by omega) (by omega) ?_
              refine i_iload (x := y41) r_276_1911 (n_276_1911 _) rfl ?_
              refine i_i2l r_276_1913 (n_276_1913 _) ?_
              refine i_lcmp r_276_1914 (n_276_1914 _) ?_
              refine i_if (t := 1920) r_276_1915 (n_276_1915 _) rfl (T_eq (zcmp_rng _ _) ⟨by omega, by omega⟩) (fun c47 => ?_) (fun c47 => ?_)
              · replace h := h.1 c47
                refine i_goto (t := 2908) r_276_1920 (n_276_1920 _) rfl ?_
                refine i_iinc (x := x4) (l' := [(0, rf 0), (1, rf 2), (2, rf 252), (3, rf 275), (4, iv (x4 + 7)), (5, iv y28), (6, iv y41)]) r_276_2908 (n_276_2908 _) (by decide) rfl rfl ?_
                refine i_goto (t := 23) r_276_2911 (n_276_2911 _) rfl ?_
                exact wp_pr (l' := [(0, rf 0), (1, rf 2), (2, rf 252), (3, rf 275), (4, iv (x4 + 7))]) rfl h
              · replace h := h.2 c47
                refine i_iconst r_276_1918 (n_276_1918 _) ?_
                exact i_zreturn r_276_1919 (n_276_1919 _) rfl (by decide) h
          · replace h := h.2 c45
            refine i_iconst r_276_1901 (n_276_1901 _) ?_
            exact i_zreturn r_276_1902 (n_276_1902 _) rfl (by decide) h
        · skip
          exact h.elim
    · skip
      exact h.elim
theorem v_Law_law_1923 {S : Option (Nat × (Nat → Int32))} {L : Nat} {xs : Nat → Int32} (hS : S = some (L, xs)) {s : zSt} {Q : Option Value ⊕ Nat → zSt → Prop} {x4 : Int} 
    (h : (0 ≤ (x4 + 1) ∧ (x4 + 1) < (L : Int) ∧ rng (x4 + 1)) ∧ ((0 ≤ (x4 + 2) ∧ (x4 + 2) < (L : Int) ∧ rng (x4 + 2)) ∧ ((0 ≤ (x4 + 3) ∧ (x4 + 3) < (L : Int) ∧ rng (x4 + 3)) ∧ ((0 ≤ (x4 + 4) ∧ (x4 + 4) < (L : Int) ∧ rng (x4 + 4)) ∧ ((0 ≤ (x4 + 5) ∧ (x4 + 5) < (L : Int) ∧ rng (x4 + 5)) ∧ ((0 ≤ (x4 + 6) ∧ (x4 + 6) < (L : Int) ∧ rng (x4 + 6)) ∧ (wp S 149 0 [(0, rf 2), (1, iv ((xs (x4 + 1).toNat).toInt)), (2, iv ((xs (x4 + 2).toNat).toInt)), (3, .long ((zshlL (zi2l ((xs (x4 + 3).toNat).toInt)) 32) ||| ((zi2l ((xs (x4 + 4).toNat).toInt)) &&& 4294967295))), (5, .long ((zshlL (zi2l ((xs (x4 + 5).toNat).toInt)) 32) ||| ((zi2l ((xs (x4 + 6).toNat).toInt)) &&& 4294967295))), (7, rf 275)] [] s (fun o13 s13 => zkI (fun y13 => wp S 263 0 [(0, rf 252), (1, iv ((xs (x4 + 1).toNat).toInt)), (2, iv ((xs (x4 + 2).toNat).toInt)), (3, .long ((zshlL (zi2l ((xs (x4 + 3).toNat).toInt)) 32) ||| ((zi2l ((xs (x4 + 4).toNat).toInt)) &&& 4294967295))), (5, .long ((zshlL (zi2l ((xs (x4 + 5).toNat).toInt)) 32) ||| ((zi2l ((xs (x4 + 6).toNat).toInt)) &&& 4294967295)))] [] s13 (fun o21 s21 => zkI (fun y21 => ((zI s21 252 3) = y13 → (y13 ≠ 0 → wp S 276 23 [(0, rf 0), (1, rf 2), (2, rf 252), (3, rf 275), (4, iv (x4 + 7))] [] s21 Q) ∧ (y13 = 0 → ((zcmp (zL s21 275 0) (zi2l y21)) = 0 → wp S 276 23 [(0, rf 0), (1, rf 2), (2, rf 252), (3, rf 275), (4, iv (x4 + 7))] [] s21 Q) ∧ ((zcmp (zL s21 275 0) (zi2l y21)) ≠ 0 → Q (rI 0) s21))) ∧ ((zI s21 252 3) ≠ y13 → Q (rI 0) s21)) (fun e21 => False) o21)) (fun e13 => False) o13)))))))) :
    wp S 276 1923 [(0, rf 0), (1, rf 2), (2, rf 252), (3, rf 275), (4, iv x4)] [] s Q := by
  refine i_aload_n (a := 2) r_276_1923 rfl rfl ?_
  refine i_aload_n (a := 0) r_276_1924 (n_276_1924 _) rfl ?_
  refine i_iload (x := x4) r_276_1925 (n_276_1925 _) rfl ?_
  refine i_iconst r_276_1927 (n_276_1927 _) ?_
  refine i_iadd r_276_1928 (n_276_1928 _) ?_
  obtain ⟨g1, h⟩ := h
  refine i_script hS r_276_1929 (n_276_1929 _) g1.2.2 g1.1 g1.2.1 (fun q2 => ?_)
  refine i_aload_n (a := 0) r_276_1930 (n_276_1930 _) rfl ?_
  refine i_iload (x := x4) r_276_1931 (n_276_1931 _) rfl ?_
  refine i_iconst r_276_1933 (n_276_1933 _) ?_
  refine i_iadd r_276_1934 (n_276_1934 _) ?_
  obtain ⟨g3, h⟩ := h
  refine i_script hS r_276_1935 (n_276_1935 _) g3.2.2 g3.1 g3.2.1 (fun q4 => ?_)
  refine i_aload_n (a := 0) r_276_1936 (n_276_1936 _) rfl ?_
  refine i_iload (x := x4) r_276_1937 (n_276_1937 _) rfl ?_
  refine i_iconst r_276_1939 (n_276_1939 _) ?_
  refine i_iadd r_276_1940 (n_276_1940 _) ?_
  obtain ⟨g5, h⟩ := h
  refine i_script hS r_276_1941 (n_276_1941 _) g5.2.2 g5.1 g5.2.1 (fun q6 => ?_)
  refine i_i2l r_276_1942 (n_276_1942 _) ?_
  refine i_bipush r_276_1943 (n_276_1943 _) rfl ?_
  refine i_lshl r_276_1945 (n_276_1945 _) ?_
  refine i_aload_n (a := 0) r_276_1946 (n_276_1946 _) rfl ?_
  refine i_iload (x := x4) r_276_1947 (n_276_1947 _) rfl ?_
  refine i_iconst r_276_1949 (n_276_1949 _) ?_
  refine i_iadd r_276_1950 (n_276_1950 _) ?_
  obtain ⟨g7, h⟩ := h
  refine i_script hS r_276_1951 (n_276_1951 _) g7.2.2 g7.1 g7.2.1 (fun q8 => ?_)
  refine i_i2l r_276_1952 (n_276_1952 _) ?_
  refine i_ldc2 r_276_1953 (n_276_1953 _) rfl ?_
  refine i_land r_276_1956 (n_276_1956 _) ?_
  refine i_lor r_276_1957 (n_276_1957 _) ?_
  refine i_aload_n (a := 0) r_276_1958 (n_276_1958 _) rfl ?_
  refine i_iload (x := x4) r_276_1959 (n_276_1959 _) rfl ?_
  refine i_iconst r_276_1961 (n_276_1961 _) ?_
  refine i_iadd r_276_1962 (n_276_1962 _) ?_
  obtain ⟨g9, h⟩ := h
  refine i_script hS r_276_1963 (n_276_1963 _) g9.2.2 g9.1 g9.2.1 (fun q10 => ?_)
  refine i_i2l r_276_1964 (n_276_1964 _) ?_
  refine i_bipush r_276_1965 (n_276_1965 _) rfl ?_
  refine i_lshl r_276_1967 (n_276_1967 _) ?_
  refine i_aload_n (a := 0) r_276_1968 (n_276_1968 _) rfl ?_
  refine i_iload (x := x4) r_276_1969 (n_276_1969 _) rfl ?_
  refine i_bipush r_276_1971 (n_276_1971 _) rfl ?_
  refine i_iadd r_276_1973 (n_276_1973 _) ?_
  obtain ⟨g11, h⟩ := h
  refine i_script hS r_276_1974 (n_276_1974 _) g11.2.2 g11.1 g11.2.1 (fun q12 => ?_)
  refine i_i2l r_276_1975 (n_276_1975 _) ?_
  refine i_ldc2 r_276_1976 (n_276_1976 _) rfl ?_
  refine i_land r_276_1979 (n_276_1979 _) ?_
  refine i_lor r_276_1980 (n_276_1980 _) ?_
  refine i_aload_n (a := 275) r_276_1981 (n_276_1981 _) rfl ?_
  refine wp_stat (rest := []) (Ls := [(0, rf 2), (1, iv ((xs (x4 + 1).toNat).toInt)), (2, iv ((xs (x4 + 2).toNat).toInt)), (3, .long ((zshlL (zi2l ((xs (x4 + 3).toNat).toInt)) 32) ||| ((zi2l ((xs (x4 + 4).toNat).toInt)) &&& 4294967295))), (5, .long ((zshlL (zi2l ((xs (x4 + 5).toNat).toInt)) 32) ||| ((zi2l ((xs (x4 + 6).toNat).toInt)) &&& 4294967295))), (7, rf 275)]) r_276_1982 (n_276_1982 _) rfl ⟨rfl, by decide, by decide, by decide⟩ rfl rfl ⟨rfl, Nat.le_of_ble_eq_true rfl, Nat.le_of_ble_eq_true rfl⟩ rfl h ?_
  intro o13 s13 h
  rcases h with ⟨y13, q14, rfl, h⟩ | ⟨e13, rfl, h⟩
  · refine .inl ⟨some (iv y13), rfl, ?_⟩
    show wp S 276 1985 [(0, rf 0), (1, rf 2), (2, rf 252), (3, rf 275), (4, iv x4)] [iv y13] s13 Q
    refine i_istore (l' := [(0, rf 0), (1, rf 2), (2, rf 252), (3, rf 275), (4, iv x4), (5, iv y13)]) r_276_1985 (n_276_1985 _) (by decide) rfl ?_
    refine i_aload_n (a := 252) r_276_1987 (n_276_1987 _) rfl ?_
    refine i_aload_n (a := 0) r_276_1988 (n_276_1988 _) rfl ?_
    refine i_iload (x := x4) r_276_1989 (n_276_1989 _) rfl ?_
    refine i_iconst r_276_1991 (n_276_1991 _) ?_
    refine i_iadd r_276_1992 (n_276_1992 _) ?_
    refine i_script hS r_276_1993 (n_276_1993 _) g1.2.2 g1.1 g1.2.1 (fun q15 => ?_)
    refine i_aload_n (a := 0) r_276_1994 (n_276_1994 _) rfl ?_
    refine i_iload (x := x4) r_276_1995 (n_276_1995 _) rfl ?_
    refine i_iconst r_276_1997 (n_276_1997 _) ?_
    refine i_iadd r_276_1998 (n_276_1998 _) ?_
    refine i_script hS r_276_1999 (n_276_1999 _) g3.2.2 g3.1 g3.2.1 (fun q16 => ?_)
    refine i_aload_n (a := 0) r_276_2000 (n_276_2000 _) rfl ?_
    refine i_iload (x := x4) r_276_2001 (n_276_2001 _) rfl ?_
    refine i_iconst r_276_2003 (n_276_2003 _) ?_
    refine i_iadd r_276_2004 (n_276_2004 _) ?_
    refine i_script hS r_276_2005 (n_276_2005 _) g5.2.2 g5.1 g5.2.1 (fun q17 => ?_)
    refine i_i2l r_276_2006 (n_276_2006 _) ?_
    refine i_bipush r_276_2007 (n_276_2007 _) rfl ?_
    refine i_lshl r_276_2009 (n_276_2009 _) ?_
    refine i_aload_n (a := 0) r_276_2010 (n_276_2010 _) rfl ?_
    refine i_iload (x := x4) r_276_2011 (n_276_2011 _) rfl ?_
    refine i_iconst r_276_2013 (n_276_2013 _) ?_
    refine i_iadd r_276_2014 (n_276_2014 _) ?_
    refine i_script hS r_276_2015 (n_276_2015 _) g7.2.2 g7.1 g7.2.1 (fun q18 => ?_)
    refine i_i2l r_276_2016 (n_276_2016 _) ?_
    refine i_ldc2 r_276_2017 (n_276_2017 _) rfl ?_
    refine i_land r_276_2020 (n_276_2020 _) ?_
    refine i_lor r_276_2021 (n_276_2021 _) ?_
    refine i_aload_n (a := 0) r_276_2022 (n_276_2022 _) rfl ?_
    refine i_iload (x := x4) r_276_2023 (n_276_2023 _) rfl ?_
    refine i_iconst r_276_2025 (n_276_2025 _) ?_
    refine i_iadd r_276_2026 (n_276_2026 _) ?_
    refine i_script hS r_276_2027 (n_276_2027 _) g9.2.2 g9.1 g9.2.1 (fun q19 => ?_)
    refine i_i2l r_276_2028 (n_276_2028 _) ?_
    refine i_bipush r_276_2029 (n_276_2029 _) rfl ?_
    refine i_lshl r_276_2031 (n_276_2031 _) ?_
    refine i_aload_n (a := 0) r_276_2032 (n_276_2032 _) rfl ?_
    refine i_iload (x := x4) r_276_2033 (n_276_2033 _) rfl ?_
    refine i_bipush r_276_2035 (n_276_2035 _) rfl ?_
    refine i_iadd r_276_2037 (n_276_2037 _) ?_
    refine i_script hS r_276_2038 (n_276_2038 _) g11.2.2 g11.1 g11.2.1 (fun q20 => ?_)
    refine i_i2l r_276_2039 (n_276_2039 _) ?_
    refine i_ldc2 r_276_2040 (n_276_2040 _) rfl ?_
    refine i_land r_276_2043 (n_276_2043 _) ?_
    refine i_lor r_276_2044 (n_276_2044 _) ?_
    refine wp_virt (b := 252) (rest := []) (Ls := [(0, rf 252), (1, iv ((xs (x4 + 1).toNat).toInt)), (2, iv ((xs (x4 + 2).toNat).toInt)), (3, .long ((zshlL (zi2l ((xs (x4 + 3).toNat).toInt)) 32) ||| ((zi2l ((xs (x4 + 4).toNat).toInt)) &&& 4294967295))), (5, .long ((zshlL (zi2l ((xs (x4 + 5).toNat).toInt)) 32) ||| ((zi2l ((xs (x4 + 6).toNat).toInt)) &&& 4294967295)))]) r_276_2045 (n_276_2045 _) rfl ⟨rfl, rfl, by decide, by decide⟩ rfl rfl lf_252 ⟨rfl, Nat.le_of_ble_eq_true rfl, Nat.le_of_ble_eq_true rfl⟩ rfl h ?_
    intro o21 s21 h
    rcases h with ⟨y21, q22, rfl, h⟩ | ⟨e21, rfl, h⟩
    · refine .inl ⟨some (iv y21), rfl, ?_⟩
      show wp S 276 2048 [(0, rf 0), (1, rf 2), (2, rf 252), (3, rf 275), (4, iv x4), (5, iv y13)] [iv y21] s21 Q
      refine i_istore (l' := [(0, rf 0), (1, rf 2), (2, rf 252), (3, rf 275), (4, iv x4), (5, iv y13), (6, iv y21)]) r_276_2048 (n_276_2048 _) (by decide) rfl ?_
      refine i_aload_n (a := 252) r_276_2050 (n_276_2050 _) rfl ?_
      refine wp_virt (b := 252) (rest := []) (Ls := [(0, rf 252)]) r_276_2051 (n_276_2051 _) rfl ⟨rfl, rfl, by decide, by decide⟩ rfl rfl lf_252 ⟨rfl, Nat.le_of_ble_eq_true rfl, Nat.le_of_ble_eq_true rfl⟩ rfl K_Model_thrown ?_
      rintro _ _ ⟨rfl, rfl⟩
      refine .inl ⟨some (iv (zI s21 252 3)), rfl, ?_⟩
      show wp S 276 2054 [(0, rf 0), (1, rf 2), (2, rf 252), (3, rf 275), (4, iv x4), (5, iv y13), (6, iv y21)] [iv (zI s21 252 3)] s21 Q
      refine wp_rd (a := 252) (j := 3) (fun q24 => ?_)
      refine i_iload (x := y13) r_276_2054 (n_276_2054 _) rfl ?_
      refine i_icmp (t := 2061) r_276_2056 (n_276_2056 _) rfl (T_eq q24 q14) (fun c25 => ?_) (fun c25 => ?_)
      · replace h := h.1 c25
        refine i_iload (x := y13) r_276_2061 (n_276_2061 _) rfl ?_
        refine i_if (t := 2078) r_276_2063 (n_276_2063 _) rfl (T_ne q14 ⟨by omega, by omega⟩) (fun c26 => ?_) (fun c26 => ?_)
        · replace h := h.1 c26
          refine i_goto (t := 2908) r_276_2078 (n_276_2078 _) rfl ?_
          refine i_iinc (x := x4) (l' := [(0, rf 0), (1, rf 2), (2, rf 252), (3, rf 275), (4, iv (x4 + 7)), (5, iv y13), (6, iv y21)]) r_276_2908 (n_276_2908 _) (by decide) rfl rfl ?_
          refine i_goto (t := 23) r_276_2911 (n_276_2911 _) rfl ?_
          exact wp_pr (l' := [(0, rf 0), (1, rf 2), (2, rf 252), (3, rf 275), (4, iv (x4 + 7))]) rfl h
        · replace h := h.2 c26
          refine i_aload_n (a := 275) r_276_2066 (n_276_2066 _) rfl ?_
          refine i_iconst r_276_2067 (n_276_2067 _) ?_
          refine i_laload (a := 275) (j := 0) r_276_2068 (n_276_2068 _) lf_275 ⟨by omega, by omega⟩ (by omega) (by omega) ?_
          refine i_iload (x := y21) r_276_2069 (n_276_2069 _) rfl ?_
          refine i_i2l r_276_2071 (n_276_2071 _) ?_
          refine i_lcmp r_276_2072 (n_276_2072 _) ?_
          refine i_if (t := 2078) r_276_2073 (n_276_2073 _) rfl (T_eq (zcmp_rng _ _) ⟨by omega, by omega⟩) (fun c27 => ?_) (fun c27 => ?_)
          · replace h := h.1 c27
            refine i_goto (t := 2908) r_276_2078 (n_276_2078 _) rfl ?_
            refine i_iinc (x := x4) (l' := [(0, rf 0), (1, rf 2), (2, rf 252), (3, rf 275), (4, iv (x4 + 7)), (5, iv y13), (6, iv y21)]) r_276_2908 (n_276_2908 _) (by decide) rfl rfl ?_
            refine i_goto (t := 23) r_276_2911 (n_276_2911 _) rfl ?_
            exact wp_pr (l' := [(0, rf 0), (1, rf 2), (2, rf 252), (3, rf 275), (4, iv (x4 + 7))]) rfl h
          · replace h := h.2 c27
            refine i_iconst r_276_2076 (n_276_2076 _) ?_
            exact i_zreturn r_276_2077 (n_276_2077 _) rfl (by decide) h
      · replace h := h.2 c25
        refine i_iconst r_276_2059 (n_276_2059 _) ?_
        exact i_zreturn r_276_2060 (n_276_2060 _) rfl (by decide) h
    · skip
      exact h.elim
  · skip
    exact h.elim
theorem v_Law_law_2081 {S : Option (Nat × (Nat → Int32))} {L : Nat} {xs : Nat → Int32} (hS : S = some (L, xs)) {s : zSt} {Q : Option Value ⊕ Nat → zSt → Prop} {x4 : Int} 
    (h : (0 ≤ (x4 + 1) ∧ (x4 + 1) < (L : Int) ∧ rng (x4 + 1)) ∧ ((0 ≤ (x4 + 2) ∧ (x4 + 2) < (L : Int) ∧ rng (x4 + 2)) ∧ ((0 ≤ (x4 + 3) ∧ (x4 + 3) < (L : Int) ∧ rng (x4 + 3)) ∧ (wp S 151 0 [(0, rf 2), (1, iv ((xs (x4 + 1).toNat).toInt)), (2, iv ((xs (x4 + 2).toNat).toInt)), (3, iv ((xs (x4 + 3).toNat).toInt)), (4, rf 275)] [] s (fun o7 s7 => zkI (fun y7 => wp S 264 0 [(0, rf 252), (1, iv ((xs (x4 + 1).toNat).toInt)), (2, iv ((xs (x4 + 2).toNat).toInt)), (3, iv ((xs (x4 + 3).toNat).toInt))] [] s7 (fun o12 s12 => zkI (fun y12 => ((zI s12 252 3) = y7 → (y7 ≠ 0 → wp S 276 23 [(0, rf 0), (1, rf 2), (2, rf 252), (3, rf 275), (4, iv (x4 + 7))] [] s12 Q) ∧ (y7 = 0 → ((zcmp (zL s12 275 0) (zi2l y12)) = 0 → wp S 276 23 [(0, rf 0), (1, rf 2), (2, rf 252), (3, rf 275), (4, iv (x4 + 7))] [] s12 Q) ∧ ((zcmp (zL s12 275 0) (zi2l y12)) ≠ 0 → Q (rI 0) s12))) ∧ ((zI s12 252 3) ≠ y7 → Q (rI 0) s12)) (fun e12 => False) o12)) (fun e7 => False) o7))))) :
    wp S 276 2081 [(0, rf 0), (1, rf 2), (2, rf 252), (3, rf 275), (4, iv x4)] [] s Q := by
  refine i_aload_n (a := 2) r_276_2081 rfl rfl ?_
  refine i_aload_n (a := 0) r_276_2082 (n_276_2082 _) rfl ?_
  refine i_iload (x := x4) r_276_2083 (n_276_2083 _) rfl ?_
  refine i_iconst r_276_2085 (n_276_2085 _) ?_
  refine i_iadd r_276_2086 (n_276_2086 _) ?_
  obtain ⟨g1, h⟩ := h
  refine i_script hS r_276_2087 (n_276_2087 _) g1.2.2 g1.1 g1.2.1 (fun q2 => ?_)
  refine i_aload_n (a := 0) r_276_2088 (n_276_2088 _) rfl ?_
  refine i_iload (x := x4) r_276_2089 (n_276_2089 _) rfl ?_
  refine i_iconst r_276_2091 (n_276_2091 _) ?_
  refine i_iadd r_276_2092 (n_276_2092 _) ?_
  obtain ⟨g3, h⟩ := h
  refine i_script hS r_276_2093 (n_276_2093 _) g3.2.2 g3.1 g3.2.1 (fun q4 => ?_)
  refine i_aload_n (a := 0) r_276_2094 (n_276_2094 _) rfl ?_
  refine i_iload (x := x4) r_276_2095 (n_276_2095 _) rfl ?_
  refine i_iconst r_276_2097 (n_276_2097 _) ?_
  refine i_iadd r_276_2098 (n_276_2098 _) ?_
  obtain ⟨g5, h⟩ := h
  refine i_script hS r_276_2099 (n_276_2099 _) g5.2.2 g5.1 g5.2.1 (fun q6 => ?_)
  refine i_aload_n (a := 275) r_276_2100 (n_276_2100 _) rfl ?_
  refine wp_stat (rest := []) (Ls := [(0, rf 2), (1, iv ((xs (x4 + 1).toNat).toInt)), (2, iv ((xs (x4 + 2).toNat).toInt)), (3, iv ((xs (x4 + 3).toNat).toInt)), (4, rf 275)]) r_276_2101 (n_276_2101 _) rfl ⟨rfl, by decide, by decide, by decide⟩ rfl rfl ⟨rfl, Nat.le_of_ble_eq_true rfl, Nat.le_of_ble_eq_true rfl⟩ rfl h ?_
  intro o7 s7 h
  rcases h with ⟨y7, q8, rfl, h⟩ | ⟨e7, rfl, h⟩
  · refine .inl ⟨some (iv y7), rfl, ?_⟩
    show wp S 276 2104 [(0, rf 0), (1, rf 2), (2, rf 252), (3, rf 275), (4, iv x4)] [iv y7] s7 Q
    refine i_istore (l' := [(0, rf 0), (1, rf 2), (2, rf 252), (3, rf 275), (4, iv x4), (5, iv y7)]) r_276_2104 (n_276_2104 _) (by decide) rfl ?_
    refine i_aload_n (a := 252) r_276_2106 (n_276_2106 _) rfl ?_
    refine i_aload_n (a := 0) r_276_2107 (n_276_2107 _) rfl ?_
    refine i_iload (x := x4) r_276_2108 (n_276_2108 _) rfl ?_
    refine i_iconst r_276_2110 (n_276_2110 _) ?_
    refine i_iadd r_276_2111 (n_276_2111 _) ?_
    refine i_script hS r_276_2112 (n_276_2112 _) g1.2.2 g1.1 g1.2.1 (fun q9 => ?_)
    refine i_aload_n (a := 0) r_276_2113 (n_276_2113 _) rfl ?_
    refine i_iload (x := x4) r_276_2114 (n_276_2114 _) rfl ?_
    refine i_iconst r_276_2116 (n_276_2116 _) ?_
    refine i_iadd r_276_2117 (n_276_2117 _) ?_
    refine i_script hS r_276_2118 (n_276_2118 _) g3.2.2 g3.1 g3.2.1 (fun q10 => ?_)
    refine i_aload_n (a := 0) r_276_2119 (n_276_2119 _) rfl ?_
    refine i_iload (x := x4) r_276_2120 (n_276_2120 _) rfl ?_
    refine i_iconst r_276_2122 (n_276_2122 _) ?_
    refine i_iadd r_276_2123 (n_276_2123 _) ?_
    refine i_script hS r_276_2124 (n_276_2124 _) g5.2.2 g5.1 g5.2.1 (fun q11 => ?_)
    refine wp_virt (b := 252) (rest := []) (Ls := [(0, rf 252), (1, iv ((xs (x4 + 1).toNat).toInt)), (2, iv ((xs (x4 + 2).toNat).toInt)), (3, iv ((xs (x4 + 3).toNat).toInt))]) r_276_2125 (n_276_2125 _) rfl ⟨rfl, rfl, by decide, by decide⟩ rfl rfl lf_252 ⟨rfl, Nat.le_of_ble_eq_true rfl, Nat.le_of_ble_eq_true rfl⟩ rfl h ?_
    intro o12 s12 h
    rcases h with ⟨y12, q13, rfl, h⟩ | ⟨e12, rfl, h⟩
    · refine .inl ⟨some (iv y12), rfl, ?_⟩
      show wp S 276 2128 [(0, rf 0), (1, rf 2), (2, rf 252), (3, rf 275), (4, iv x4), (5, iv y7)] [iv y12] s12 Q
      refine i_istore (l' := [(0, rf 0), (1, rf 2), (2, rf 252), (3, rf 275), (4, iv x4), (5, iv y7), (6, iv y12)]) r_276_2128 (n_276_2128 _) (by decide) rfl ?_
      refine i_aload_n (a := 252) r_276_2130 (n_276_2130 _) rfl ?_
      refine wp_virt (b := 252) (rest := []) (Ls := [(0, rf 252)]) r_276_2131 (n_276_2131 _) rfl ⟨rfl, rfl, by decide, by decide⟩ rfl rfl lf_252 ⟨rfl, Nat.le_of_ble_eq_true rfl, Nat.le_of_ble_eq_true rfl⟩ rfl K_Model_thrown ?_
      rintro _ _ ⟨rfl, rfl⟩
      refine .inl ⟨some (iv (zI s12 252 3)), rfl, ?_⟩
      show wp S 276 2134 [(0, rf 0), (1, rf 2), (2, rf 252), (3, rf 275), (4, iv x4), (5, iv y7), (6, iv y12)] [iv (zI s12 252 3)] s12 Q
      refine wp_rd (a := 252) (j := 3) (fun q15 => ?_)
      refine i_iload (x := y7) r_276_2134 (n_276_2134 _) rfl ?_
      refine i_icmp (t := 2141) r_276_2136 (n_276_2136 _) rfl (T_eq q15 q8) (fun c16 => ?_) (fun c16 => ?_)
      · replace h := h.1 c16
        refine i_iload (x := y7) r_276_2141 (n_276_2141 _) rfl ?_
        refine i_if (t := 2158) r_276_2143 (n_276_2143 _) rfl (T_ne q8 ⟨by omega, by omega⟩) (fun c17 => ?_) (fun c17 => ?_)
        · replace h := h.1 c17
          refine i_goto (t := 2908) r_276_2158 (n_276_2158 _) rfl ?_
          refine i_iinc (x := x4) (l' := [(0, rf 0), (1, rf 2), (2, rf 252), (3, rf 275), (4, iv (x4 + 7)), (5, iv y7), (6, iv y12)]) r_276_2908 (n_276_2908 _) (by decide) rfl rfl ?_
          refine i_goto (t := 23) r_276_2911 (n_276_2911 _) rfl ?_
          exact wp_pr (l' := [(0, rf 0), (1, rf 2), (2, rf 252), (3, rf 275), (4, iv (x4 + 7))]) rfl h
        · replace h := h.2 c17
          refine i_aload_n (a := 275) r_276_2146 (n_276_2146 _) rfl ?_
          refine i_iconst r_276_2147 (n_276_2147 _) ?_
          refine i_laload (a := 275) (j := 0) r_276_2148 (n_276_2148 _) lf_275 ⟨by omega, by omega⟩ (by omega) (by omega) ?_
          refine i_iload (x := y12) r_276_2149 (n_276_2149 _) rfl ?_
          refine i_i2l r_276_2151 (n_276_2151 _) ?_
          refine i_lcmp r_276_2152 (n_276_2152 _) ?_
          refine i_if (t := 2158) r_276_2153 (n_276_2153 _) rfl (T_eq (zcmp_rng _ _) ⟨by omega, by omega⟩) (fun c18 => ?_) (fun c18 => ?_)
          · replace h := h.1 c18
            refine i_goto (t := 2908) r_276_2158 (n_276_2158 _) rfl ?_
            refine i_iinc (x := x4) (l' := [(0, rf 0), (1, rf 2), (2, rf 252), (3, rf 275), (4, iv (x4 + 7)), (5, iv y7), (6, iv y12)]) r_276_2908 (n_276_2908 _) (by decide) rfl rfl ?_
            refine i_goto (t := 23) r_276_2911 (n_276_2911 _) rfl ?_
            exact wp_pr (l' := [(0, rf 0), (1, rf 2), (2, rf 252), (3, rf 275), (4, iv (x4 + 7))]) rfl h
          · replace h := h.2 c18
            refine i_iconst r_276_2156 (n_276_2156 _) ?_
            exact i_zreturn r_276_2157 (n_276_2157 _) rfl (by decide) h
      · replace h := h.2 c16
        refine i_iconst r_276_2139 (n_276_2139 _) ?_
        exact i_zreturn r_276_2140 (n_276_2140 _) rfl (by decide) h
    · skip
      exact h.elim
  · skip
    exact h.elim
theorem v_Law_law_2161 {S : Option (Nat × (Nat → Int32))} {L : Nat} {xs : Nat → Int32} (hS : S = some (L, xs)) {s : zSt} {Q : Option Value ⊕ Nat → zSt → Prop} {x4 : Int} 
    (h : (0 ≤ (x4 + 1) ∧ (x4 + 1) < (L : Int) ∧ rng (x4 + 1)) ∧ ((0 ≤ (x4 + 2) ∧ (x4 + 2) < (L : Int) ∧ rng (x4 + 2)) ∧ ((0 ≤ (x4 + 3) ∧ (x4 + 3) < (L : Int) ∧ rng (x4 + 3)) ∧ ((0 ≤ (x4 + 4) ∧ (x4 + 4) < (L : Int) ∧ rng (x4 + 4)) ∧ ((0 ≤ (x4 + 5) ∧ (x4 + 5) < (L : Int) ∧ rng (x4 + 5)) ∧ (wp S 153 0 [(0, rf 2), (1, iv ((xs (x4 + 1).toNat).toInt)), (2, iv ((xs (x4 + 2).toNat).toInt)), (3, iv ((xs (x4 + 3).toNat).toInt)), (4, .long ((zshlL (zi2l ((xs (x4 + 4).toNat).toInt)) 32) ||| ((zi2l ((xs (x4 + 5).toNat).toInt)) &&& 4294967295))), (6, rf 275)] [] s (fun o11 s11 => zkI (fun y11 => wp S 265 0 [(0, rf 252), (1, iv ((xs (x4 + 1).toNat).toInt)), (2, iv ((xs (x4 + 2).toNat).toInt)), (3, iv ((xs (x4 + 3).toNat).toInt)), (4, .long ((zshlL (zi2l ((xs (x4 + 4).toNat).toInt)) 32) ||| ((zi2l ((xs (x4 + 5).toNat).toInt)) &&& 4294967295)))] [] s11 (fun o18 s18 => zkI (fun y18 => ((zI s18 252 3) = y11 → (y11 ≠ 0 → wp S 276 23 [(0, rf 0), (1, rf 2), (2, rf 252), (3, rf 275), (4, iv (x4 + 7))] [] s18 Q) ∧ (y11 = 0 → ((zcmp (zL s18 275 0) (zi2l y18)) = 0 → wp S 276 23 [(0, rf 0), (1, rf 2), (2, rf 252), (3, rf 275), (4, iv (x4 + 7))] [] s18 Q) ∧ ((zcmp (zL s18 275 0) (zi2l y18)) ≠ 0 → Q (rI 0) s18))) ∧ ((zI s18 252 3) ≠ y11 → Q (rI 0) s18)) (fun e18 => False) o18)) (fun e11 => False) o11))))))) :
    wp S 276 2161 [(0, rf 0), (1, rf 2), (2, rf 252), (3, rf 275), (4, iv x4)] [] s Q := by
  refine i_aload_n (a := 2) r_276_2161 rfl rfl ?_
  refine i_aload_n (a := 0) r_276_2162 (n_276_2162 _) rfl ?_
  refine i_iload (x := x4) r_276_2163 (n_276_2163 _) rfl ?_
  refine i_iconst r_276_2165 (n_276_2165 _) ?_
  refine i_iadd r_276_2166 (n_276_2166 _) ?_
  obtain ⟨g1, h⟩ := h
  refine i_script hS r_276_2167 (n_276_2167 _) g1.2.2 g1.1 g1.2.1 (fun q2 => ?_)
  refine i_aload_n (a := 0) r_276_2168 (n_276_2168 _) rfl ?_
  refine i_iload (x := x4) r_276_2169 (n_276_2169 _) rfl ?_
  refine i_iconst r_276_2171 (n_276_2171 _) ?_
  refine i_iadd r_276_2172 (n_276_2172 _) ?_
  obtain ⟨g3, h⟩ := h
  refine i_script hS r_276_2173 (n_276_2173 _) g3.2.2 g3.1 g3.2.1 (fun q4 => ?_)
  refine i_aload_n (a := 0) r_276_2174 (n_276_2174 _) rfl ?_
  refine i_iload (x := x4) r_276_2175 (n_276_2175 _) rfl ?_
  refine i_iconst r_276_2177 (n_276_2177 _) ?_
  refine i_iadd r_276_2178 (n_276_2178 _) ?_
  obtain ⟨g5, h⟩ := h
  refine i_script hS r_276_2179 (n_276_2179 _) g5.2.2 g5.1 g5.2.1 (fun q6 => ?_)
  refine i_aload_n (a := 0) r_276_2180 (n_276_2180 _) rfl ?_
  refine i_iload (x := x4) r_276_2181 (n_276_2181 _) rfl ?_
  refine i_iconst r_276_2183 (n_276_2183 _) ?_
  refine i_iadd r_276_2184 (n_276_2184 _) ?_
  obtain ⟨g7, h⟩ := h
  refine i_script hS r_276_2185 (n_276_2185 _) g7.2.2 g7.1 g7.2.1 (fun q8 => ?_)
  refine i_i2l r_276_2186 (n_276_2186 _) ?_
  refine i_bipush r_276_2187 (n_276_2187 _) rfl ?_
  refine i_lshl r_276_2189 (n_276_2189 _) ?_
  refine i_aload_n (a := 0) r_276_2190 (n_276_2190 _) rfl ?_
  refine i_iload (x := x4) r_276_2191 (n_276_2191 _) rfl ?_
  refine i_iconst r_276_2193 (n_276_2193 _) ?_
  refine i_iadd r_276_2194 (n_276_2194 _) ?_
  obtain ⟨g9, h⟩ := h
  refine i_script hS r_276_2195 (n_276_2195 _) g9.2.2 g9.1 g9.2.1 (fun q10 => ?_)
  refine i_i2l r_276_2196 (n_276_2196 _) ?_
  refine i_ldc2 r_276_2197 (n_276_2197 _) rfl ?_
  refine i_land r_276_2200 (n_276_2200 _) ?_
  refine i_lor r_276_2201 (n_276_2201 _) ?_
  refine i_aload_n (a := 275) r_276_2202 (n_276_2202 _) rfl ?_
  refine wp_stat (rest := []) (Ls := [(0, rf 2), (1, iv ((xs (x4 + 1).toNat).toInt)), (2, iv ((xs (x4 + 2).toNat).toInt)), (3, iv ((xs (x4 + 3).toNat).toInt)), (4, .long ((zshlL (zi2l ((xs (x4 + 4).toNat).toInt)) 32) ||| ((zi2l ((xs (x4 + 5).toNat).toInt)) &&& 4294967295))), (6, rf 275)]) r_276_2203 (n_276_2203 _) rfl ⟨rfl, by decide, by decide, by decide⟩ rfl rfl ⟨rfl, Nat.le_of_ble_eq_true rfl, Nat.le_of_ble_eq_true rfl⟩ rfl h ?_
  intro o11 s11 h
  rcases h with ⟨y11, q12, rfl, h⟩ | ⟨e11, rfl, h⟩
  · refine .inl ⟨some (iv y11), rfl, ?_⟩
    show wp S 276 2206 [(0, rf 0), (1, rf 2), (2, rf 252), (3, rf 275), (4, iv x4)] [iv y11] s11 Q
    refine i_istore (l' := [(0, rf 0), (1, rf 2), (2, rf 252), (3, rf 275), (4, iv x4), (5, iv y11)]) r_276_2206 (n_276_2206 _) (by decide) rfl ?_
    refine i_aload_n (a := 252) r_276_2208 (n_276_2208 _) rfl ?_
    refine i_aload_n (a := 0) r_276_2209 (n_276_2209 _) rfl ?_
    refine i_iload (x := x4) r_276_2210 (n_276_2210 _) rfl ?_
    refine i_iconst r_276_2212 (n_276_2212 _) ?_
    refine i_iadd r_276_2213 (n_276_2213 _) ?_
    refine i_script hS r_276_2214 (n_276_2214 _) g1.2.2 g1.1 g1.2.1 (fun q13 => ?_)
    refine i_aload_n (a := 0) r_276_2215 (n_276_2215 _) rfl ?_
    refine i_iload (x := x4) r_276_2216 (n_276_2216 _) rfl ?_
    refine i_iconst r_276_2218 (n_276_2218 _) ?_
    refine i_iadd r_276_2219 (n_276_2219 _) ?_
    refine i_script hS r_276_2220 (n_276_2220 _) g3.2.2 g3.1 g3.2.1 (fun q14 => ?_)
    refine i_aload_n (a := 0) r_276_2221 (n_276_2221 _) rfl ?_
    refine i_iload (x := x4) r_276_2222 (n_276_2222 _) rfl ?_
    refine i_iconst r_276_2224 (n_276_2224 _) ?_
    refine i_iadd r_276_2225 (n_276_2225 _) ?_
    refine i_script hS r_276_2226 (n_276_2226 _) g5.2.2 g5.1 g5.2.1 (fun q15 => ?_)
    refine i_aload_n (a := 0) r_276_2227 (n_276_2227 _) rfl ?_
    refine i_iload (x := x4) r_276_2228 (n_276_2228 _) rfl ?_
    refine i_iconst r_276_2230 (n_276_2230 _) ?_
    refine i_iadd r_276_2231 (n_276_2231 _) ?_
    refine i_script hS r_276_2232 (n_276_2232 _) g7.2.2 g7.1 g7.2.1 (fun q16 => ?_)
    refine i_i2l r_276_2233 (n_276_2233 _) ?_
    refine i_bipush r_276_2234 (n_276_2234 _) rfl ?_
    refine i_lshl r_276_2236 (n_276_2236 _) ?_
    refine i_aload_n (a := 0) r_276_2237 (n_276_2237 _) rfl ?_
    refine i_iload (x := x4) r_276_2238 (n_276_2238 _) rfl ?_
    refine i_iconst r_276_2240 (n_276_2240 _) ?_
    refine i_iadd r_276_2241 (n_276_2241 _) ?_
    refine i_script hS r_276_2242 (n_276_2242 _) g9.2.2 g9.1 g9.2.1 (fun q17 => ?_)
    refine i_i2l r_276_2243 (n_276_2243 _) ?_
    refine i_ldc2 r_276_2244 (n_276_2244 _) rfl ?_
    refine i_land r_276_2247 (n_276_2247 _) ?_
    refine i_lor r_276_2248 (n_276_2248 _) ?_
    refine wp_virt (b := 252) (rest := []) (Ls := [(0, rf 252), (1, iv ((xs (x4 + 1).toNat).toInt)), (2, iv ((xs (x4 + 2).toNat).toInt)), (3, iv ((xs (x4 + 3).toNat).toInt)), (4, .long ((zshlL (zi2l ((xs (x4 + 4).toNat).toInt)) 32) ||| ((zi2l ((xs (x4 + 5).toNat).toInt)) &&& 4294967295)))]) r_276_2249 (n_276_2249 _) rfl ⟨rfl, rfl, by decide, by decide⟩ rfl rfl lf_252 ⟨rfl, Nat.le_of_ble_eq_true rfl, Nat.le_of_ble_eq_true rfl⟩ rfl h ?_
    intro o18 s18 h
    rcases h with ⟨y18, q19, rfl, h⟩ | ⟨e18, rfl, h⟩
    · refine .inl ⟨some (iv y18), rfl, ?_⟩
      show wp S 276 2252 [(0, rf 0), (1, rf 2), (2, rf 252), (3, rf 275), (4, iv x4), (5, iv y11)] [iv y18] s18 Q
      refine i_istore (l' := [(0, rf 0), (1, rf 2), (2, rf 252), (3, rf 275), (4, iv x4), (5, iv y11), (6, iv y18)]) r_276_2252 (n_276_2252 _) (by decide) rfl ?_
      refine i_aload_n (a := 252) r_276_2254 (n_276_2254 _) rfl ?_
      refine wp_virt (b := 252) (rest := []) (Ls := [(0, rf 252)]) r_276_2255 (n_276_2255 _) rfl ⟨rfl, rfl, by decide, by decide⟩ rfl rfl lf_252 ⟨rfl, Nat.le_of_ble_eq_true rfl, Nat.le_of_ble_eq_true rfl⟩ rfl K_Model_thrown ?_
      rintro _ _ ⟨rfl, rfl⟩
      refine .inl ⟨some (iv (zI s18 252 3)), rfl, ?_⟩
      show wp S 276 2258 [(0, rf 0), (1, rf 2), (2, rf 252), (3, rf 275), (4, iv x4), (5, iv y11), (6, iv y18)] [iv (zI s18 252 3)] s18 Q
      refine wp_rd (a := 252) (j := 3) (fun q21 => ?_)
      refine i_iload (x := y11) r_276_2258 (n_276_2258 _) rfl ?_
      refine i_icmp (t := 2265) r_276_2260 (n_276_2260 _) rfl (T_eq q21 q12) (fun c22 => ?_) (fun c22 => ?_)
      · replace h := h.1 c22
        refine i_iload (x := y11) r_276_2265 (n_276_2265 _) rfl ?_
        refine i_if (t := 2282) r_276_2267 (n_276_2267 _) rfl (T_ne q12 ⟨by omega, by omega⟩) (fun c23 => ?_) (fun c23 => ?_)
        · replace h := h.1 c23
          refine i_goto (t := 2908) r_276_2282 (n_276_2282 _) rfl ?_
          refine i_iinc (x := x4) (l' := [(0, rf 0), (1, rf 2), (2, rf 252), (3, rf 275), (4, iv (x4 + 7)), (5, iv y11), (6, iv y18)]) r_276_2908 (n_276_2908 _) (by decide) rfl rfl ?_
          refine i_goto (t := 23) r_276_2911 (n_276_2911 _) rfl ?_
          exact wp_pr (l' := [(0, rf 0), (1, rf 2), (2, rf 252), (3, rf 275), (4, iv (x4 + 7))]) rfl h
        · replace h := h.2 c23
          refine i_aload_n (a := 275) r_276_2270 (n_276_2270 _) rfl ?_
          refine i_iconst r_276_2271 (n_276_2271 _) ?_
          refine i_laload (a := 275) (j := 0) r_276_2272 (n_276_2272 _) lf_275 ⟨by omega, by omega⟩ (by omega) (by omega) ?_
          refine i_iload (x := y18) r_276_2273 (n_276_2273 _) rfl ?_
          refine i_i2l r_276_2275 (n_276_2275 _) ?_
          refine i_lcmp r_276_2276 (n_276_2276 _) ?_
          refine i_if (t := 2282) r_276_2277 (n_276_2277 _) rfl (T_eq (zcmp_rng _ _) ⟨by omega, by omega⟩) (fun c24 => ?_) (fun c24 => ?_)
          · replace h := h.1 c24
            refine i_goto (t := 2908) r_276_2282 (n_276_2282 _) rfl ?_
            refine i_iinc (x := x4) (l' := [(0, rf 0), (1, rf 2), (2, rf 252), (3, rf 275), (4, iv (x4 + 7)), (5, iv y11), (6, iv y18)]) r_276_2908 (n_276_2908 _) (by decide) rfl rfl ?_
            refine i_goto (t := 23) r_276_2911 (n_276_2911 _) rfl ?_
            exact wp_pr (l' := [(0, rf 0), (1, rf 2), (2, rf 252), (3, rf 275), (4, iv (x4 + 7))]) rfl h
          · replace h := h.2 c24
            refine i_iconst r_276_2280 (n_276_2280 _) ?_
            exact i_zreturn r_276_2281 (n_276_2281 _) rfl (by decide) h
      · replace h := h.2 c22
        refine i_iconst r_276_2263 (n_276_2263 _) ?_
        exact i_zreturn r_276_2264 (n_276_2264 _) rfl (by decide) h
    · skip
      exact h.elim
  · skip
    exact h.elim
theorem v_Law_law_2285 {S : Option (Nat × (Nat → Int32))} {L : Nat} {xs : Nat → Int32} (hS : S = some (L, xs)) {s : zSt} {Q : Option Value ⊕ Nat → zSt → Prop} {x4 : Int} 
    (h : (0 ≤ (x4 + 1) ∧ (x4 + 1) < (L : Int) ∧ rng (x4 + 1)) ∧ ((0 ≤ (x4 + 2) ∧ (x4 + 2) < (L : Int) ∧ rng (x4 + 2)) ∧ ((0 ≤ (x4 + 3) ∧ (x4 + 3) < (L : Int) ∧ rng (x4 + 3)) ∧ ((0 ≤ (x4 + 4) ∧ (x4 + 4) < (L : Int) ∧ rng (x4 + 4)) ∧ ((0 ≤ (x4 + 5) ∧ (x4 + 5) < (L : Int) ∧ rng (x4 + 5)) ∧ (wp S 155 0 [(0, rf 2), (1, iv ((xs (x4 + 1).toNat).toInt)), (2, iv ((xs (x4 + 2).toNat).toInt)), (3, .long ((zshlL (zi2l ((xs (x4 + 3).toNat).toInt)) 32) ||| ((zi2l ((xs (x4 + 4).toNat).toInt)) &&& 4294967295))), (5, iv ((xs (x4 + 5).toNat).toInt)), (6, rf 275)] [] s (fun o11 s11 => zkI (fun y11 => wp S 266 0 [(0, rf 252), (1, iv ((xs (x4 + 1).toNat).toInt)), (2, iv ((xs (x4 + 2).toNat).toInt)), (3, .long ((zshlL (zi2l ((xs (x4 + 3).toNat).toInt)) 32) ||| ((zi2l ((xs (x4 + 4).toNat).toInt)) &&& 4294967295))), (5, iv ((xs (x4 + 5).toNat).toInt))] [] s11 (fun o18 s18 => zkI (fun y18 => ((zI s18 252 3) = y11 → (y11 ≠ 0 → wp S 276 23 [(0, rf 0), (1, rf 2), (2, rf 252), (3, rf 275), (4, iv (x4 + 7))] [] s18 Q) ∧ (y11 = 0 → ((zcmp (zL s18 275 0) (zi2l y18)) = 0 → wp S 276 23 [(0, rf 0), (1, rf 2), (2, rf 252), (3, rf 275), (4, iv (x4 + 7))] [] s18 Q) ∧ ((zcmp (zL s18 275 0) (zi2l y18)) ≠ 0 → Q (rI 0) s18))) ∧ ((zI s18 252 3) ≠ y11 → Q (rI 0) s18)) (fun e18 => False) o18)) (fun e11 => False) o11))))))) :
    wp S 276 2285 [(0, rf 0), (1, rf 2), (2, rf 252), (3, rf 275), (4, iv x4)] [] s Q := by
  refine i_aload_n (a := 2) r_276_2285 rfl rfl ?_
  refine i_aload_n (a := 0) r_276_2286 (n_276_2286 _) rfl ?_
  refine i_iload (x := x4) r_276_2287 (n_276_2287 _) rfl ?_
  refine i_iconst r_276_2289 (n_276_2289 _) ?_
  refine i_iadd r_276_2290 (n_276_2290 _) ?_
  obtain ⟨g1, h⟩ := h
  refine i_script hS r_276_2291 (n_276_2291 _) g1.2.2 g1.1 g1.2.1 (fun q2 => ?_)
  refine i_aload_n (a := 0) r_276_2292 (n_276_2292 _) rfl ?_
  refine i_iload (x := x4) r_276_2293 (n_276_2293 _) rfl ?_
  refine i_iconst r_276_2295 (n_276_2295 _) ?_
  refine i_iadd r_276_2296 (n_276_2296 _) ?_
  obtain ⟨g3, h⟩ := h
  refine i_script hS r_276_2297 (n_276_2297 _) g3.2.2 g3.1 g3.2.1 (fun q4 => ?_)
  refine i_aload_n (a := 0) r_276_2298 (n_276_2298 _) rfl ?_
  refine i_iload (x := x4) r_276_2299 (n_276_2299 _) rfl ?_
  refine i_iconst r_276_2301 (n_276_2301 _) ?_
  refine i_iadd r_276_2302 (n_276_2302 _) ?_
  obtain ⟨g5, h⟩ := h
  refine i_script hS r_276_2303 (n_276_2303 _) g5.2.2 g5.1 g5.2.1 (fun q6 => ?_)
  refine i_i2l r_276_2304 (n_276_2304 _) ?_
  refine i_bipush r_276_2305 (n_276_2305 _) rfl ?_
  refine i_lshl r_276_2307 (n_276_2307 _) ?_
  refine i_aload_n (a := 0) r_276_2308 (n_276_2308 _) rfl ?_
  refine i_iload (x := x4) r_276_2309 (n_276_2309 _) rfl ?_
  refine i_iconst r_276_2311 (n_276_2311 _) ?_
  refine i_iadd r_276_2312 (n_276_2312 _) ?_
  obtain ⟨g7, h⟩ := h
  refine i_script hS r_276_2313 (n_276_2313 _) g7.2.2 g7.1 g7.2.1 (fun q8 => ?_)
  refine i_i2l r_276_2314 (n_276_2314 _) ?_
  refine i_ldc2 r_276_2315 (n_276_2315 _) rfl ?_
  refine i_land r_276_2318 (n_276_2318 _) ?_
  refine i_lor r_276_2319 (n_276_2319 _) ?_
  refine i_aload_n (a := 0) r_276_2320 (n_276_2320 _) rfl ?_
  refine i_iload (x := x4) r_276_2321 (n_276_2321 _) rfl ?_
  refine i_iconst r_276_2323 (n_276_2323 _) ?_
  refine i_iadd r_276_2324 (n_276_2324 _) ?_
  obtain ⟨g9, h⟩ := h
  refine i_script hS r_276_2325 (n_276_2325 _) g9.2.2 g9.1 g9.2.1 (fun q10 => ?_)
  refine i_aload_n (a := 275) r_276_2326 (n_276_2326 _) rfl ?_
  refine wp_stat (rest := []) (Ls := [(0, rf 2), (1, iv ((xs (x4 + 1).toNat).toInt)), (2, iv ((xs (x4 + 2).toNat).toInt)), (3, .long ((zshlL (zi2l ((xs (x4 + 3).toNat).toInt)) 32) ||| ((zi2l ((xs (x4 + 4).toNat).toInt)) &&& 4294967295))), (5, iv ((xs (x4 + 5).toNat).toInt)), (6, rf 275)]) r_276_2327 (n_276_2327 _) rfl ⟨rfl, by decide, by decide, by decide⟩ rfl rfl ⟨rfl, Nat.le_of_ble_eq_true rfl, Nat.le_of_ble_eq_true rfl⟩ rfl h ?_
  intro o11 s11 h
  rcases h with ⟨y11, q12, rfl, h⟩ | ⟨e11, rfl, h⟩
  · refine .inl ⟨some (iv y11), rfl, ?_⟩
    show wp S 276 2330 [(0, rf 0), (1, rf 2), (2, rf 252), (3, rf 275), (4, iv x4)] [iv y11] s11 Q
    refine i_istore (l' := [(0, rf 0), (1, rf 2), (2, rf 252), (3, rf 275), (4, iv x4), (5, iv y11)]) r_276_2330 (n_276_2330 _) (by decide) rfl ?_
    refine i_aload_n (a := 252) r_276_2332 (n_276_2332 _) rfl ?_
    refine i_aload_n (a := 0) r_276_2333 (n_276_2333 _) rfl ?_
    refine i_iload (x := x4) r_276_2334 (n_276_2334 _) rfl ?_
    refine i_iconst r_276_2336 (n_276_2336 _) ?_
    refine i_iadd r_276_2337 (n_276_2337 _) ?_
    refine i_script hS r_276_2338 (n_276_2338 _) g1.2.2 g1.1 g1.2.1 (fun q13 => ?_)
    refine i_aload_n (a := 0) r_276_2339 (n_276_2339 _) rfl ?_
    refine i_iload (x := x4) r_276_2340 (n_276_2340 _) rfl ?_
    refine i_iconst r_276_2342 (n_276_2342 _) ?_
    refine i_iadd r_276_2343 (n_276_2343 _) ?_
    refine i_script hS r_276_2344 (n_276_2344 _) g3.2.2 g3.1 g3.2.1 (fun q14 => ?_)
    refine i_aload_n (a := 0) r_276_2345 (n_276_2345 _) rfl ?_
    refine i_iload (x := x4) r_276_2346 (n_276_2346 _) rfl ?_
    refine i_iconst r_276_2348 (n_276_2348 _) ?_
    refine i_iadd r_276_2349 (n_276_2349 _) ?_
    refine i_script hS r_276_2350 (n_276_2350 _) g5.2.2 g5.1 g5.2.1 (fun q15 => ?_)
    refine i_i2l r_276_2351 (n_276_2351 _) ?_
    refine i_bipush r_276_2352 (n_276_2352 _) rfl ?_
    refine i_lshl r_276_2354 (n_276_2354 _) ?_
    refine i_aload_n (a := 0) r_276_2355 (n_276_2355 _) rfl ?_
    refine i_iload (x := x4) r_276_2356 (n_276_2356 _) rfl ?_
    refine i_iconst r_276_2358 (n_276_2358 _) ?_
    refine i_iadd r_276_2359 (n_276_2359 _) ?_
    refine i_script hS r_276_2360 (n_276_2360 _) g7.2.2 g7.1 g7.2.1 (fun q16 => ?_)
    refine i_i2l r_276_2361 (n_276_2361 _) ?_
    refine i_ldc2 r_276_2362 (n_276_2362 _) rfl ?_
    refine i_land r_276_2365 (n_276_2365 _) ?_
    refine i_lor r_276_2366 (n_276_2366 _) ?_
    refine i_aload_n (a := 0) r_276_2367 (n_276_2367 _) rfl ?_
    refine i_iload (x := x4) r_276_2368 (n_276_2368 _) rfl ?_
    refine i_iconst r_276_2370 (n_276_2370 _) ?_
    refine i_iadd r_276_2371 (n_276_2371 _) ?_
    refine i_script hS r_276_2372 (n_276_2372 _) g9.2.2 g9.1 g9.2.1 (fun q17 => ?_)
    refine wp_virt (b := 252) (rest := []) (Ls := [(0, rf 252), (1, iv ((xs (x4 + 1).toNat).toInt)), (2, iv ((xs (x4 + 2).toNat).toInt)), (3, .long ((zshlL (zi2l ((xs (x4 + 3).toNat).toInt)) 32) ||| ((zi2l ((xs (x4 + 4).toNat).toInt)) &&& 4294967295))), (5, iv ((xs (x4 + 5).toNat).toInt))]) r_276_2373 (n_276_2373 _) rfl ⟨rfl, rfl, by decide, by decide⟩ rfl rfl lf_252 ⟨rfl, Nat.le_of_ble_eq_true rfl, Nat.le_of_ble_eq_true rfl⟩ rfl h ?_
    intro o18 s18 h
    rcases h with ⟨y18, q19, rfl, h⟩ | ⟨e18, rfl, h⟩
    · refine .inl ⟨some (iv y18), rfl, ?_⟩
      show wp S 276 2376 [(0, rf 0), (1, rf 2), (2, rf 252), (3, rf 275), (4, iv x4), (5, iv y11)] [iv y18] s18 Q
      refine i_istore (l' := [(0, rf 0), (1, rf 2), (2, rf 252), (3, rf 275), (4, iv x4), (5, iv y11), (6, iv y18)]) r_276_2376 (n_276_2376 _) (by decide) rfl ?_
      refine i_aload_n (a := 252) r_276_2378 (n_276_2378 _) rfl ?_
      refine wp_virt (b := 252) (rest := []) (Ls := [(0, rf 252)]) r_276_2379 (n_276_2379 _) rfl ⟨rfl, rfl, by decide, by decide⟩ rfl rfl lf_252 ⟨rfl, Nat.le_of_ble_eq_true rfl, Nat.le_of_ble_eq_true rfl⟩ rfl K_Model_thrown ?_
      rintro _ _ ⟨rfl, rfl⟩
      refine .inl ⟨some (iv (zI s18 252 3)), rfl, ?_⟩
      show wp S 276 2382 [(0, rf 0), (1, rf 2), (2, rf 252), (3, rf 275), (4, iv x4), (5, iv y11), (6, iv y18)] [iv (zI s18 252 3)] s18 Q
      refine wp_rd (a := 252) (j := 3) (fun q21 => ?_)
      refine i_iload (x := y11) r_276_2382 (n_276_2382 _) rfl ?_
      refine i_icmp (t := 2389) r_276_2384 (n_276_2384 _) rfl (T_eq q21 q12) (fun c22 => ?_) (fun c22 => ?_)
      · replace h := h.1 c22
        refine i_iload (x := y11) r_276_2389 (n_276_2389 _) rfl ?_
        refine i_if (t := 2406) r_276_2391 (n_276_2391 _) rfl (T_ne q12 ⟨by omega, by omega⟩) (fun c23 => ?_) (fun c23 => ?_)
        · replace h := h.1 c23
          refine i_goto (t := 2908) r_276_2406 (n_276_2406 _) rfl ?_
          refine i_iinc (x := x4) (l' := [(0, rf 0), (1, rf 2), (2, rf 252), (3, rf 275), (4, iv (x4 + 7)), (5, iv y11), (6, iv y18)]) r_276_2908 (n_276_2908 _) (by decide) rfl rfl ?_
          refine i_goto (t := 23) r_276_2911 (n_276_2911 _) rfl ?_
          exact wp_pr (l' := [(0, rf 0), (1, rf 2), (2, rf 252), (3, rf 275), (4, iv (x4 + 7))]) rfl h
        · replace h := h.2 c23
          refine i_aload_n (a := 275) r_276_2394 (n_276_2394 _) rfl ?_
          refine i_iconst r_276_2395 (n_276_2395 _) ?_
          refine i_laload (a := 275) (j := 0) r_276_2396 (n_276_2396 _) lf_275 ⟨by omega, by omega⟩ (by omega) (by omega) ?_
          refine i_iload (x := y18) r_276_2397 (n_276_2397 _) rfl ?_
          refine i_i2l r_276_2399 (n_276_2399 _) ?_
          refine i_lcmp r_276_2400 (n_276_2400 _) ?_
          refine i_if (t := 2406) r_276_2401 (n_276_2401 _) rfl (T_eq (zcmp_rng _ _) ⟨by omega, by omega⟩) (fun c24 => ?_) (fun c24 => ?_)
          · replace h := h.1 c24
            refine i_goto (t := 2908) r_276_2406 (n_276_2406 _) rfl ?_
            refine i_iinc (x := x4) (l' := [(0, rf 0), (1, rf 2), (2, rf 252), (3, rf 275), (4, iv (x4 + 7)), (5, iv y11), (6, iv y18)]) r_276_2908 (n_276_2908 _) (by decide) rfl rfl ?_
            refine i_goto (t := 23) r_276_2911 (n_276_2911 _) rfl ?_
            exact wp_pr (l' := [(0, rf 0), (1, rf 2), (2, rf 252), (3, rf 275), (4, iv (x4 + 7))]) rfl h
          · replace h := h.2 c24
            refine i_iconst r_276_2404 (n_276_2404 _) ?_
            exact i_zreturn r_276_2405 (n_276_2405 _) rfl (by decide) h
      · replace h := h.2 c22
        refine i_iconst r_276_2387 (n_276_2387 _) ?_
        exact i_zreturn r_276_2388 (n_276_2388 _) rfl (by decide) h
    · skip
      exact h.elim
  · skip
    exact h.elim
theorem v_Law_law_2409 {S : Option (Nat × (Nat → Int32))} {L : Nat} {xs : Nat → Int32} (hS : S = some (L, xs)) {s : zSt} {Q : Option Value ⊕ Nat → zSt → Prop} {x4 : Int} 
    (h : (0 ≤ (x4 + 1) ∧ (x4 + 1) < (L : Int) ∧ rng (x4 + 1)) ∧ ((0 ≤ (x4 + 2) ∧ (x4 + 2) < (L : Int) ∧ rng (x4 + 2)) ∧ (wp S 157 0 [(0, rf 2), (1, iv ((xs (x4 + 1).toNat).toInt)), (2, iv ((xs (x4 + 2).toNat).toInt)), (3, rf 275)] [] s (fun o5 s5 => zkI (fun y5 => wp S 267 0 [(0, rf 252), (1, iv ((xs (x4 + 1).toNat).toInt)), (2, iv ((xs (x4 + 2).toNat).toInt))] [] s5 (fun o9 s9 => zkL (fun y9 => ((zI s9 252 3) = y5 → (y5 ≠ 0 → wp S 276 23 [(0, rf 0), (1, rf 2), (2, rf 252), (3, rf 275), (4, iv (x4 + 7))] [] s9 Q) ∧ (y5 = 0 → ((zcmp (zL s9 275 0) y9) = 0 → wp S 276 23 [(0, rf 0), (1, rf 2), (2, rf 252), (3, rf 275), (4, iv (x4 + 7))] [] s9 Q) ∧ ((zcmp (zL s9 275 0) y9) ≠ 0 → Q (rI 0) s9))) ∧ ((zI s9 252 3) ≠ y5 → Q (rI 0) s9)) (fun e9 => False) o9)) (fun e5 => False) o5)))) :
    wp S 276 2409 [(0, rf 0), (1, rf 2), (2, rf 252), (3, rf 275), (4, iv x4)] [] s Q := by
  refine i_aload_n (a := 2) r_276_2409 rfl rfl ?_
  refine i_aload_n (a := 0) r_276_2410 (n_276_2410 _) rfl ?_
  refine i_iload (x := x4) r_276_2411 (n_276_2411 _) rfl ?_
  refine i_iconst r_276_2413 (n_276_2413 _) ?_
  refine i_iadd r_276_2414 (n_276_2414 _) ?_
  obtain ⟨g1, h⟩ := h
  refine i_script hS r_276_2415 (n_276_2415 _) g1.2.2 g1.1 g1.2.1 (fun q2 => ?_)
  refine i_aload_n (a := 0) r_276_2416 (n_276_2416 _) rfl ?_
  refine i_iload (x := x4) r_276_2417 (n_276_2417 _) rfl ?_
  refine i_iconst r_276_2419 (n_276_2419 _) ?_
  refine i_iadd r_276_2420 (n_276_2420 _) ?_
  obtain ⟨g3, h⟩ := h
  refine i_script hS r_276_2421 (n_276_2421 _) g3.2.2 g3.1 g3.2.1 (fun q4 => ?_)
  refine i_aload_n (a := 275) r_276_2422 (n_276_2422 _) rfl ?_
  refine wp_stat (rest := []) (Ls := [(0, rf 2), (1, iv ((xs (x4 + 1).toNat).toInt)), (2, iv ((xs (x4 + 2).toNat).toInt)), (3, rf 275)]) r_276_2423 (n_276_2423 _) rfl ⟨rfl, by decide, by decide, by decide⟩ rfl rfl ⟨rfl, Nat.le_of_ble_eq_true rfl, Nat.le_of_ble_eq_true rfl⟩ rfl h ?_
  intro o5 s5 h
  rcases h with ⟨y5, q6, rfl, h⟩ | ⟨e5, rfl, h⟩
  · refine .inl ⟨some (iv y5), rfl, ?_⟩
    show wp S 276 2426 [(0, rf 0), (1, rf 2), (2, rf 252), (3, rf 275), (4, iv x4)] [iv y5] s5 Q
    refine i_istore (l' := [(0, rf 0), (1, rf 2), (2, rf 252), (3, rf 275), (4, iv x4), (5, iv y5)]) r_276_2426 (n_276_2426 _) (by decide) rfl ?_
    refine i_aload_n (a := 252) r_276_2428 (n_276_2428 _) rfl ?_
    refine i_aload_n (a := 0) r_276_2429 (n_276_2429 _) rfl ?_
    refine i_iload (x := x4) r_276_2430 (n_276_2430 _) rfl ?_
    refine i_iconst r_276_2432 (n_276_2432 _) ?_
    refine i_iadd r_276_2433 (n_276_2433 _) ?_
    refine i_script hS r_276_2434 (n_276_2434 _) g1.2.2 g1.1 g1.2.1 (fun q7 => ?_)
    refine i_aload_n (a := 0) r_276_2435 (n_276_2435 _) rfl ?_
    refine i_iload (x := x4) r_276_2436 (n_276_2436 _) rfl ?_
    refine i_iconst r_276_2438 (n_276_2438 _) ?_
    refine i_iadd r_276_2439 (n_276_2439 _) ?_
    refine i_script hS r_276_2440 (n_276_2440 _) g3.2.2 g3.1 g3.2.1 (fun q8 => ?_)
    refine wp_virt (b := 252) (rest := []) (Ls := [(0, rf 252), (1, iv ((xs (x4 + 1).toNat).toInt)), (2, iv ((xs (x4 + 2).toNat).toInt))]) r_276_2441 (n_276_2441 _) rfl ⟨rfl, rfl, by decide, by decide⟩ rfl rfl lf_252 ⟨rfl, Nat.le_of_ble_eq_true rfl, Nat.le_of_ble_eq_true rfl⟩ rfl h ?_
    intro o9 s9 h
    rcases h with ⟨y9, rfl, h⟩ | ⟨e9, rfl, h⟩
    · refine .inl ⟨some (.long y9), rfl, ?_⟩
      show wp S 276 2444 [(0, rf 0), (1, rf 2), (2, rf 252), (3, rf 275), (4, iv x4), (5, iv y5)] [.long y9] s9 Q
      refine i_lstore (l' := [(0, rf 0), (1, rf 2), (2, rf 252), (3, rf 275), (4, iv x4), (5, iv y5), (6, .long y9)]) r_276_2444 (n_276_2444 _) (by decide) rfl ?_
      refine i_aload_n (a := 252) r_276_2446 (n_276_2446 _) rfl ?_
      refine wp_virt (b := 252) (rest := []) (Ls := [(0, rf 252)]) r_276_2447 (n_276_2447 _) rfl ⟨rfl, rfl, by decide, by decide⟩ rfl rfl lf_252 ⟨rfl, Nat.le_of_ble_eq_true rfl, Nat.le_of_ble_eq_true rfl⟩ rfl K_Model_thrown ?_
      rintro _ _ ⟨rfl, rfl⟩
      refine .inl ⟨some (iv (zI s9 252 3)), rfl, ?_⟩
      show wp S 276 2450 [(0, rf 0), (1, rf 2), (2, rf 252), (3, rf 275), (4, iv x4), (5, iv y5), (6, .long y9)] [iv (zI s9 252 3)] s9 Q
      refine wp_rd (a := 252) (j := 3) (fun q12 => ?_)
      refine i_iload (x := y5) r_276_2450 (n_276_2450 _) rfl ?_
      refine i_icmp (t := 2457) r_276_2452 (n_276_2452 _) rfl (T_eq q12 q6) (fun c13 => ?_) (fun c13 => ?_)
      · replace h := h.1 c13
        refine i_iload (x := y5) r_276_2457 (n_276_2457 _) rfl ?_
        refine i_if (t := 2473) r_276_2459 (n_276_2459 _) rfl (T_ne q6 ⟨by omega, by omega⟩) (fun c14 => ?_) (fun c14 => ?_)
        · replace h := h.1 c14
          refine i_goto (t := 2908) r_276_2473 (n_276_2473 _) rfl ?_
          refine i_iinc (x := x4) (l' := [(0, rf 0), (1, rf 2), (2, rf 252), (3, rf 275), (4, iv (x4 + 7)), (5, iv y5), (6, .long y9)]) r_276_2908 (n_276_2908 _) (by decide) rfl rfl ?_
          refine i_goto (t := 23) r_276_2911 (n_276_2911 _) rfl ?_
          exact wp_pr (l' := [(0, rf 0), (1, rf 2), (2, rf 252), (3, rf 275), (4, iv (x4 + 7))]) rfl h
        · replace h := h.2 c14
          refine i_aload_n (a := 275) r_276_2462 (n_276_2462 _) rfl ?_
          refine i_iconst r_276_2463 (n_276_2463 _) ?_
          refine i_laload (a := 275) (j := 0) r_276_2464 (n_276_2464 _) lf_275 ⟨by omega, by omega⟩ (by omega) (by omega) ?_
          refine i_lload (u := y9) r_276_2465 (n_276_2465 _) rfl ?_
          refine i_lcmp r_276_2467 (n_276_2467 _) ?_
          refine i_if (t := 2473) r_276_2468 (n_276_2468 _) rfl (T_eq (zcmp_rng _ _) ⟨by omega, by omega⟩) (fun c15 => ?_) (fun c15 => ?_)
          · replace h := h.1 c15
            refine i_goto (t := 2908) r_276_2473 (n_276_2473 _) rfl ?_
            refine i_iinc (x := x4) (l' := [(0, rf 0), (1, rf 2), (2, rf 252), (3, rf 275), (4, iv (x4 + 7)), (5, iv y5), (6, .long y9)]) r_276_2908 (n_276_2908 _) (by decide) rfl rfl ?_
            refine i_goto (t := 23) r_276_2911 (n_276_2911 _) rfl ?_
            exact wp_pr (l' := [(0, rf 0), (1, rf 2), (2, rf 252), (3, rf 275), (4, iv (x4 + 7))]) rfl h
          · replace h := h.2 c15
            refine i_iconst r_276_2471 (n_276_2471 _) ?_
            exact i_zreturn r_276_2472 (n_276_2472 _) rfl (by decide) h
      · replace h := h.2 c13
        refine i_iconst r_276_2455 (n_276_2455 _) ?_
        exact i_zreturn r_276_2456 (n_276_2456 _) rfl (by decide) h
    · skip
      exact h.elim
  · skip
    exact h.elim
theorem v_Law_law_2476 {S : Option (Nat × (Nat → Int32))} {L : Nat} {xs : Nat → Int32} (hS : S = some (L, xs)) {s : zSt} {Q : Option Value ⊕ Nat → zSt → Prop} {x4 : Int} 
    (h : (0 ≤ (x4 + 1) ∧ (x4 + 1) < (L : Int) ∧ rng (x4 + 1)) ∧ ((0 ≤ (x4 + 2) ∧ (x4 + 2) < (L : Int) ∧ rng (x4 + 2)) ∧ ((0 ≤ (x4 + 3) ∧ (x4 + 3) < (L : Int) ∧ rng (x4 + 3)) ∧ ((0 ≤ (x4 + 4) ∧ (x4 + 4) < (L : Int) ∧ rng (x4 + 4)) ∧ ((0 ≤ (x4 + 5) ∧ (x4 + 5) < (L : Int) ∧ rng (x4 + 5)) ∧ ((0 ≤ (x4 + 6) ∧ (x4 + 6) < (L : Int) ∧ rng (x4 + 6)) ∧ (wp S 159 0 [(0, rf 2), (1, iv ((xs (x4 + 1).toNat).toInt)), (2, .long ((zshlL (zi2l ((xs (x4 + 2).toNat).toInt)) 32) ||| ((zi2l ((xs (x4 + 3).toNat).toInt)) &&& 4294967295))), (4, iv ((xs (x4 + 4).toNat).toInt)), (5, iv ((xs (x4 + 5).toNat).toInt)), (6, iv ((xs (x4 + 6).toNat).toInt)), (7, rf 275)] [] s (fun o13 s13 => zkI (fun y13 => wp S 268 0 [(0, rf 252), (1, iv ((xs (x4 + 1).toNat).toInt)), (2, .long ((zshlL (zi2l ((xs (x4 + 2).toNat).toInt)) 32) ||| ((zi2l ((xs (x4 + 3).toNat).toInt)) &&& 4294967295))), (4, iv ((xs (x4 + 4).toNat).toInt)), (5, iv ((xs (x4 + 5).toNat).toInt)), (6, iv ((xs (x4 + 6).toNat).toInt))] [] s13 (fun o21 s21 => zkI (fun y21 => ((zI s21 252 3) = y13 → (y13 ≠ 0 → wp S 276 23 [(0, rf 0), (1, rf 2), (2, rf 252), (3, rf 275), (4, iv (x4 + 7))] [] s21 Q) ∧ (y13 = 0 → ((zcmp (zL s21 275 0) (zi2l y21)) = 0 → wp S 276 23 [(0, rf 0), (1, rf 2), (2, rf 252), (3, rf 275), (4, iv (x4 + 7))] [] s21 Q) ∧ ((zcmp (zL s21 275 0) (zi2l y21)) ≠ 0 → Q (rI 0) s21))) ∧ ((zI s21 252 3) ≠ y13 → Q (rI 0) s21)) (fun e21 => False) o21)) (fun e13 => False) o13)))))))) :
    wp S 276 2476 [(0, rf 0), (1, rf 2), (2, rf 252), (3, rf 275), (4, iv x4)] [] s Q := by
  refine i_aload_n (a := 2) r_276_2476 rfl rfl ?_
  refine i_aload_n (a := 0) r_276_2477 (n_276_2477 _) rfl ?_
  refine i_iload (x := x4) r_276_2478 (n_276_2478 _) rfl ?_
  refine i_iconst r_276_2480 (n_276_2480 _) ?_
  refine i_iadd r_276_2481 (n_276_2481 _) ?_
  obtain ⟨g1, h⟩ := h
  refine i_script hS r_276_2482 (n_276_2482 _) g1.2.2 g1.1 g1.2.1 (fun q2 => ?_)
  refine i_aload_n (a := 0) r_276_2483 (n_276_2483 _) rfl ?_
  refine i_iload (x := x4) r_276_2484 (n_276_2484 _) rfl ?_
  refine i_iconst r_276_2486 (n_276_2486 _) ?_
  refine i_iadd r_276_2487 (n_276_2487 _) ?_
  obtain ⟨g3, h⟩ := h
  refine i_script hS r_276_2488 (n_276_2488 _) g3.2.2 g3.1 g3.2.1 (fun q4 => ?_)
  refine i_i2l r_276_2489 (n_276_2489 _) ?_
  refine i_bipush r_276_2490 (n_276_2490 _) rfl ?_
  refine i_lshl r_276_2492 (n_276_2492 _) ?_
  refine i_aload_n (a := 0) r_276_2493 (n_276_2493 _) rfl ?_
  refine i_iload (x := x4) r_276_2494 (n_276_2494 _) rfl ?_
  refine i_iconst r_276_2496 (n_276_2496 _) ?_
  refine i_iadd r_276_2497 (n_276_2497 _) ?_
  obtain ⟨g5, h⟩ := h
  refine i_script hS r_276_2498 (n_276_2498 _) g5.2.2 g5.1 g5.2.1 (fun q6 => ?_)
  refine i_i2l r_276_2499 (n_276_2499 _) ?_
  refine i_ldc2 r_276_2500 (n_276_2500 _) rfl ?_
  refine i_land r_276_2503 (n_276_2503 _) ?_
  refine i_lor r_276_2504 (n_276_2504 _) ?_
  refine i_aload_n (a := 0) r_276_2505 (n_276_2505 _) rfl ?_
  refine i_iload (x := x4) r_276_2506 (n_276_2506 _) rfl ?_
  refine i_iconst r_276_2508 (n_276_2508 _) ?_
  refine i_iadd r_276_2509 (n_276_2509 _) ?_
  obtain ⟨g7, h⟩ := h
  refine i_script hS r_276_2510 (n_276_2510 _) g7.2.2 g7.1 g7.2.1 (fun q8 => ?_)
  refine i_aload_n (a := 0) r_276_2511 (n_276_2511 _) rfl ?_
  refine i_iload (x := x4) r_276_2512 (n_276_2512 _) rfl ?_
  refine i_iconst r_276_2514 (n_276_2514 _) ?_
  refine i_iadd r_276_2515 (n_276_2515 _) ?_
  obtain ⟨g9, h⟩ := h
  refine i_script hS r_276_2516 (n_276_2516 _) g9.2.2 g9.1 g9.2.1 (fun q10 => ?_)
  refine i_aload_n (a := 0) r_276_2517 (n_276_2517 _) rfl ?_
  refine i_iload (x := x4) r_276_2518 (n_276_2518 _) rfl ?_
  refine i_bipush r_276_2520 (n_276_2520 _) rfl ?_
  refine i_iadd r_276_2522 (n_276_2522 _) ?_
  obtain ⟨g11, h⟩ := h
  refine i_script hS r_276_2523 (n_276_2523 _) g11.2.2 g11.1 g11.2.1 (fun q12 => ?_)
  refine i_aload_n (a := 275) r_276_2524 (n_276_2524 _) rfl ?_
  refine wp_stat (rest := []) (Ls := [(0, rf 2), (1, iv ((xs (x4 + 1).toNat).toInt)), (2, .long ((zshlL (zi2l ((xs (x4 + 2).toNat).toInt)) 32) ||| ((zi2l ((xs (x4 + 3).toNat).toInt)) &&& 4294967295))), (4, iv ((xs (x4 + 4).toNat).toInt)), (5, iv ((xs (x4 + 5).toNat).toInt)), (6, iv ((xs (x4 + 6).toNat).toInt)), (7, rf 275)]) r_276_2525 (n_276_2525 _) rfl ⟨rfl, by decide, by decide, by decide⟩ rfl rfl ⟨rfl, Nat.le_of_ble_eq_true rfl, Nat.le_of_ble_eq_true rfl⟩ rfl h ?_
  intro o13 s13 h
  rcases h with ⟨y13, q14, rfl, h⟩ | ⟨e13, rfl, h⟩
  · refine .inl ⟨some (iv y13), rfl, ?_⟩
    show wp S 276 2528 [(0, rf 0), (1, rf 2), (2, rf 252), (3, rf 275), (4, iv x4)] [iv y13] s13 Q
    refine i_istore (l' := [(0, rf 0), (1, rf 2), (2, rf 252), (3, rf 275), (4, iv x4), (5, iv y13)]) r_276_2528 (n_276_2528 _) (by decide) rfl ?_
    refine i_aload_n (a := 252) r_276_2530 (n_276_2530 _) rfl ?_
    refine i_aload_n (a := 0) r_276_2531 (n_276_2531 _) rfl ?_
    refine i_iload (x := x4) r_276_2532 (n_276_2532 _) rfl ?_
    refine i_iconst r_276_2534 (n_276_2534 _) ?_
    refine i_iadd r_276_2535 (n_276_2535 _) ?_
    refine i_script hS r_276_2536 (n_276_2536 _) g1.2.2 g1.1 g1.2.1 (fun q15 => ?_)
    refine i_aload_n (a := 0) r_276_2537 (n_276_2537 _) rfl ?_
    refine i_iload (x := x4) r_276_2538 (n_276_2538 _) rfl ?_
    refine i_iconst r_276_2540 (n_276_2540 _) ?_
    refine i_iadd r_276_2541 (n_276_2541 _) ?_
    refine i_script hS r_276_2542 (n_276_2542 _) g3.2.2 g3.1 g3.2.1 (fun q16 => ?_)
    refine i_i2l r_276_2543 (n_276_2543 _) ?_
    refine i_bipush r_276_2544 (n_276_2544 _) rfl ?_
    refine i_lshl r_276_2546 (n_276_2546 _) ?_
    refine i_aload_n (a := 0) r_276_2547 (n_276_2547 _) rfl ?_
    refine i_iload (x := x4) r_276_2548 (n_276_2548 _) rfl ?_
    refine i_iconst r_276_2550 (n_276_2550 _) ?_
    refine i_iadd r_276_2551 (n_276_2551 _) ?_
    refine i_script hS r_276_2552 (n_276_2552 _) g5.2.2 g5.1 g5.2.1 (fun q17 => ?_)
    refine i_i2l r_276_2553 (n_276_2553 _) ?_
    refine i_ldc2 r_276_2554 (n_276_2554 _) rfl ?_
    refine i_land r_276_2557 (n_276_2557 _) ?_
    refine i_lor r_276_2558 (n_276_2558 _) ?_
    refine i_aload_n (a := 0) r_276_2559 (n_276_2559 _) rfl ?_
    refine i_iload (x := x4) r_276_2560 (n_276_2560 _) rfl ?_
    refine i_iconst r_276_2562 (n_276_2562 _) ?_
    refine i_iadd r_276_2563 (n_276_2563 _) ?_
    refine i_script hS r_276_2564 (n_276_2564 _) g7.2.2 g7.1 g7.2.1 (fun q18 => ?_)
    refine i_aload_n (a := 0) r_276_2565 (n_276_2565 _) rfl ?_
    refine i_iload (x := x4) r_276_2566 (n_276_2566 _) rfl ?_
    refine i_iconst r_276_2568 (n_276_2568 _) ?_
    refine i_iadd r_276_2569 (n_276_2569 _) ?_
    refine i_script hS r_276_2570 (n_276_2570 _) g9.2.2 g9.1 g9.2.1 (fun q19 => ?_)
    refine i_aload_n (a := 0) r_276_2571 (n_276_2571 _) rfl ?_
    refine i_iload (x := x4) r_276_2572 (n_276_2572 _) rfl ?_
    refine i_bipush r_276_2574 (n_276_2574 _) rfl ?_
    refine i_iadd r_276_2576 (n_276_2576 _) ?_
    refine i_script hS r_276_2577 (n_276_2577 _) g11.2.2 g11.1 g11.2.1 (fun q20 => ?_)
    refine wp_virt (b := 252) (rest := []) (Ls := [(0, rf 252), (1, iv ((xs (x4 + 1).toNat).toInt)), (2, .long ((zshlL (zi2l ((xs (x4 + 2).toNat).toInt)) 32) ||| ((zi2l ((xs (x4 + 3).toNat).toInt)) &&& 4294967295))), (4, iv ((xs (x4 + 4).toNat).toInt)), (5, iv ((xs (x4 + 5).toNat).toInt)), (6, iv ((xs (x4 + 6).toNat).toInt))]) r_276_2578 (n_276_2578 _) rfl ⟨rfl, rfl, by decide, by decide⟩ rfl rfl lf_252 ⟨rfl, Nat.le_of_ble_eq_true rfl, Nat.le_of_ble_eq_true rfl⟩ rfl h ?_
    intro o21 s21 h
    rcases h with ⟨y21, q22, rfl, h⟩ | ⟨e21, rfl, h⟩
    · refine .inl ⟨some (iv y21), rfl, ?_⟩
      show wp S 276 2581 [(0, rf 0), (1, rf 2), (2, rf 252), (3, rf 275), (4, iv x4), (5, iv y13)] [iv y21] s21 Q
      refine i_istore (l' := [(0, rf 0), (1, rf 2), (2, rf 252), (3, rf 275), (4, iv x4), (5, iv y13), (6, iv y21)]) r_276_2581 (n_276_2581 _) (by decide) rfl ?_
      refine i_aload_n (a := 252) r_276_2583 (n_276_2583 _) rfl ?_
      refine wp_virt (b := 252) (rest := []) (Ls := [(0, rf 252)]) r_276_2584 (n_276_2584 _) rfl ⟨rfl, rfl, by decide, by decide⟩ rfl rfl lf_252 ⟨rfl, Nat.le_of_ble_eq_true rfl, Nat.le_of_ble_eq_true rfl⟩ rfl K_Model_thrown ?_
      rintro _ _ ⟨rfl, rfl⟩
      refine .inl ⟨some (iv (zI s21 252 3)), rfl, ?_⟩
      show wp S 276 2587 [(0, rf 0), (1, rf 2), (2, rf 252), (3, rf 275), (4, iv x4), (5, iv y13), (6, iv y21)] [iv (zI s21 252 3)] s21 Q
      refine wp_rd (a := 252) (j := 3) (fun q24 => ?_)
      refine i_iload (x := y13) r_276_2587 (n_276_2587 _) rfl ?_
      refine i_icmp (t := 2594) r_276_2589 (n_276_2589 _) rfl (T_eq q24 q14) (fun c25 => ?_) (fun c25 => ?_)
      · replace h := h.1 c25
        refine i_iload (x := y13) r_276_2594 (n_276_2594 _) rfl ?_
        refine i_if (t := 2611) r_276_2596 (n_276_2596 _) rfl (T_ne q14 ⟨by omega, by omega⟩) (fun c26 => ?_) (fun c26 => ?_)
        · replace h := h.1 c26
          refine i_goto (t := 2908) r_276_2611 (n_276_2611 _) rfl ?_
          refine i_iinc (x := x4) (l' := [(0, rf 0), (1, rf 2), (2, rf 252), (3, rf 275), (4, iv (x4 + 7)), (5, iv y13), (6, iv y21)]) r_276_2908 (n_276_2908 _) (by decide) rfl rfl ?_
          refine i_goto (t := 23) r_276_2911 (n_276_2911 _) rfl ?_
          exact wp_pr (l' := [(0, rf 0), (1, rf 2), (2, rf 252), (3, rf 275), (4, iv (x4 + 7))]) rfl h
        · replace h := h.2 c26
          refine i_aload_n (a := 275) r_276_2599 (n_276_2599 _) rfl ?_
          refine i_iconst r_276_2600 (n_276_2600 _) ?_
          refine i_laload (a := 275) (j := 0) r_276_2601 (n_276_2601 _) lf_275 ⟨by omega, by omega⟩ (by omega) (by omega) ?_
          refine i_iload (x := y21) r_276_2602 (n_276_2602 _) rfl ?_
          refine i_i2l r_276_2604 (n_276_2604 _) ?_
          refine i_lcmp r_276_2605 (n_276_2605 _) ?_
          refine i_if (t := 2611) r_276_2606 (n_276_2606 _) rfl (T_eq (zcmp_rng _ _) ⟨by omega, by omega⟩) (fun c27 => ?_) (fun c27 => ?_)
          · replace h := h.1 c27
            refine i_goto (t := 2908) r_276_2611 (n_276_2611 _) rfl ?_
            refine i_iinc (x := x4) (l' := [(0, rf 0), (1, rf 2), (2, rf 252), (3, rf 275), (4, iv (x4 + 7)), (5, iv y13), (6, iv y21)]) r_276_2908 (n_276_2908 _) (by decide) rfl rfl ?_
            refine i_goto (t := 23) r_276_2911 (n_276_2911 _) rfl ?_
            exact wp_pr (l' := [(0, rf 0), (1, rf 2), (2, rf 252), (3, rf 275), (4, iv (x4 + 7))]) rfl h
          · replace h := h.2 c27
            refine i_iconst r_276_2609 (n_276_2609 _) ?_
            exact i_zreturn r_276_2610 (n_276_2610 _) rfl (by decide) h
      · replace h := h.2 c25
        refine i_iconst r_276_2592 (n_276_2592 _) ?_
        exact i_zreturn r_276_2593 (n_276_2593 _) rfl (by decide) h
    · skip
      exact h.elim
  · skip
    exact h.elim
theorem v_Law_law_2614 {S : Option (Nat × (Nat → Int32))} {L : Nat} {xs : Nat → Int32} (hS : S = some (L, xs)) {s : zSt} {Q : Option Value ⊕ Nat → zSt → Prop} {x4 : Int} 
    (h : (0 ≤ (x4 + 1) ∧ (x4 + 1) < (L : Int) ∧ rng (x4 + 1)) ∧ ((0 ≤ (x4 + 2) ∧ (x4 + 2) < (L : Int) ∧ rng (x4 + 2)) ∧ ((0 ≤ (x4 + 3) ∧ (x4 + 3) < (L : Int) ∧ rng (x4 + 3)) ∧ ((0 ≤ (x4 + 4) ∧ (x4 + 4) < (L : Int) ∧ rng (x4 + 4)) ∧ ((0 ≤ (x4 + 5) ∧ (x4 + 5) < (L : Int) ∧ rng (x4 + 5)) ∧ (wp S 169 0 [(0, rf 2), (1, iv ((xs (x4 + 1).toNat).toInt)), (2, .long ((zshlL (zi2l ((xs (x4 + 2).toNat).toInt)) 32) ||| ((zi2l ((xs (x4 + 3).toNat).toInt)) &&& 4294967295))), (4, iv ((xs (x4 + 4).toNat).toInt)), (5, iv ((xs (x4 + 5).toNat).toInt)), (6, rf 275)] [] s (fun o11 s11 => zkI (fun y11 => wp S 272 0 [(0, rf 252), (1, iv ((xs (x4 + 1).toNat).toInt)), (2, .long ((zshlL (zi2l ((xs (x4 + 2).toNat).toInt)) 32) ||| ((zi2l ((xs (x4 + 3).toNat).toInt)) &&& 4294967295))), (4, iv ((xs (x4 + 4).toNat).toInt)), (5, iv ((xs (x4 + 5).toNat).toInt))] [] s11 (fun o18 s18 => zkI (fun y18 => ((zI s18 252 3) = y11 → (y11 ≠ 0 → wp S 276 23 [(0, rf 0), (1, rf 2), (2, rf 252), (3, rf 275), (4, iv (x4 + 7))] [] s18 Q) ∧ (y11 = 0 → ((zcmp (zL s18 275 0) (zi2l y18)) = 0 → wp S 276 23 [(0, rf 0), (1, rf 2), (2, rf 252), (3, rf 275), (4, iv (x4 + 7))] [] s18 Q) ∧ ((zcmp (zL s18 275 0) (zi2l y18)) ≠ 0 → Q (rI 0) s18))) ∧ ((zI s18 252 3) ≠ y11 → Q (rI 0) s18)) (fun e18 => False) o18)) (fun e11 => False) o11))))))) :
    wp S 276 2614 [(0, rf 0), (1, rf 2), (2, rf 252), (3, rf 275), (4, iv x4)] [] s Q := by
  refine i_aload_n (a := 2) r_276_2614 rfl rfl ?_
  refine i_aload_n (a := 0) r_276_2615 (n_276_2615 _) rfl ?_
  refine i_iload (x := x4) r_276_2616 (n_276_2616 _) rfl ?_
  refine i_iconst r_276_2618 (n_276_2618 _) ?_
  refine i_iadd r_276_2619 (n_276_2619 _) ?_
  obtain ⟨g1, h⟩ := h
  refine i_script hS r_276_2620 (n_276_2620 _) g1.2.2 g1.1 g1.2.1 (fun q2 => ?_)
  refine i_aload_n (a := 0) r_276_2621 (n_276_2621 _) rfl ?_
  refine i_iload (x := x4) r_276_2622 (n_276_2622 _) rfl ?_
  refine i_iconst r_276_2624 (n_276_2624 _) ?_
  refine i_iadd r_276_2625 (n_276_2625 _) ?_
  obtain ⟨g3, h⟩ := h
  refine i_script hS r_276_2626 (n_276_2626 _) g3.2.2 g3.1 g3.2.1 (fun q4 => ?_)
  refine i_i2l r_276_2627 (n_276_2627 _) ?_
  refine i_bipush r_276_2628 (n_276_2628 _) rfl ?_
  refine i_lshl r_276_2630 (n_276_2630 _) ?_
  refine i_aload_n (a := 0) r_276_2631 (n_276_2631 _) rfl ?_
  refine i_iload (x := x4) r_276_2632 (n_276_2632 _) rfl ?_
  refine i_iconst r_276_2634 (n_276_2634 _) ?_
  refine i_iadd r_276_2635 (n_276_2635 _) ?_
  obtain ⟨g5, h⟩ := h
  refine i_script hS r_276_2636 (n_276_2636 _) g5.2.2 g5.1 g5.2.1 (fun q6 => ?_)
  refine i_i2l r_276_2637 (n_276_2637 _) ?_
  refine i_ldc2 r_276_2638 (n_276_2638 _) rfl ?_
  refine i_land r_276_2641 (n_276_2641 _) ?_
  refine i_lor r_276_2642 (n_276_2642 _) ?_
  refine i_aload_n (a := 0) r_276_2643 (n_276_2643 _) rfl ?_
  refine i_iload (x := x4) r_276_2644 (n_276_2644 _) rfl ?_
  refine i_iconst r_276_2646 (n_276_2646 _) ?_
  refine i_iadd r_276_2647 (n_276_2647 _) ?_
  obtain ⟨g7, h⟩ := h
  refine i_script hS r_276_2648 (n_276_2648 _) g7.2.2 g7.1 g7.2.1 (fun q8 => ?_)
  refine i_aload_n (a := 0) r_276_2649 (n_276_2649 _) rfl ?_
  refine i_iload (x := x4) r_276_2650 (n_276_2650 _) rfl ?_
  refine i_iconst r_276_2652 (n_276_2652 _) ?_
  refine i_iadd r_276_2653 (n_276_2653 _) ?_
  obtain ⟨g9, h⟩ := h
  refine i_script hS r_276_2654 (n_276_2654 _) g9.2.2 g9.1 g9.2.1 (fun q10 => ?_)
  refine i_aload_n (a := 275) r_276_2655 (n_276_2655 _) rfl ?_
  refine wp_stat (rest := []) (Ls := [(0, rf 2), (1, iv ((xs (x4 + 1).toNat).toInt)), (2, .long ((zshlL (zi2l ((xs (x4 + 2).toNat).toInt)) 32) ||| ((zi2l ((xs (x4 + 3).toNat).toInt)) &&& 4294967295))), (4, iv ((xs (x4 + 4).toNat).toInt)), (5, iv ((xs (x4 + 5).toNat).toInt)), (6, rf 275)]) r_276_2656 (n_276_2656 _) rfl ⟨rfl, by decide, by decide, by decide⟩ rfl rfl ⟨rfl, Nat.le_of_ble_eq_true rfl, Nat.le_of_ble_eq_true rfl⟩ rfl h ?_
  intro o11 s11 h
  rcases h with ⟨y11, q12, rfl, h⟩ | ⟨e11, rfl, h⟩
  · refine .inl ⟨some (iv y11), rfl, ?_⟩
    show wp S 276 2659 [(0, rf 0), (1, rf 2), (2, rf 252), (3, rf 275), (4, iv x4)] [iv y11] s11 Q
    refine i_istore (l' := [(0, rf 0), (1, rf 2), (2, rf 252), (3, rf 275), (4, iv x4), (5, iv y11)]) r_276_2659 (n_276_2659 _) (by decide) rfl ?_
    refine i_aload_n (a := 252) r_276_2661 (n_276_2661 _) rfl ?_
    refine i_aload_n (a := 0) r_276_2662 (n_276_2662 _) rfl ?_
    refine i_iload (x := x4) r_276_2663 (n_276_2663 _) rfl ?_
    refine i_iconst r_276_2665 (n_276_2665 _) ?_
    refine i_iadd r_276_2666 (n_276_2666 _) ?_
    refine i_script hS r_276_2667 (n_276_2667 _) g1.2.2 g1.1 g1.2.1 (fun q13 => ?_)
    refine i_aload_n (a := 0) r_276_2668 (n_276_2668 _) rfl ?_
    refine i_iload (x := x4) r_276_2669 (n_276_2669 _) rfl ?_
    refine i_iconst r_276_2671 (n_276_2671 _) ?_
    refine i_iadd r_276_2672 (n_276_2672 _) ?_
    refine i_script hS r_276_2673 (n_276_2673 _) g3.2.2 g3.1 g3.2.1 (fun q14 => ?_)
    refine i_i2l r_276_2674 (n_276_2674 _) ?_
    refine i_bipush r_276_2675 (n_276_2675 _) rfl ?_
    refine i_lshl r_276_2677 (n_276_2677 _) ?_
    refine i_aload_n (a := 0) r_276_2678 (n_276_2678 _) rfl ?_
    refine i_iload (x := x4) r_276_2679 (n_276_2679 _) rfl ?_
    refine i_iconst r_276_2681 (n_276_2681 _) ?_
    refine i_iadd r_276_2682 (n_276_2682 _) ?_
    refine i_script hS r_276_2683 (n_276_2683 _) g5.2.2 g5.1 g5.2.1 (fun q15 => ?_)
    refine i_i2l r_276_2684 (n_276_2684 _) ?_
    refine i_ldc2 r_276_2685 (n_276_2685 _) rfl ?_
    refine i_land r_276_2688 (n_276_2688 _) ?_
    refine i_lor r_276_2689 (n_276_2689 _) ?_
    refine i_aload_n (a := 0) r_276_2690 (n_276_2690 _) rfl ?_
    refine i_iload (x := x4) r_276_2691 (n_276_2691 _) rfl ?_
    refine i_iconst r_276_2693 (n_276_2693 _) ?_
    refine i_iadd r_276_2694 (n_276_2694 _) ?_
    refine i_script hS r_276_2695 (n_276_2695 _) g7.2.2 g7.1 g7.2.1 (fun q16 => ?_)
    refine i_aload_n (a := 0) r_276_2696 (n_276_2696 _) rfl ?_
    refine i_iload (x := x4) r_276_2697 (n_276_2697 _) rfl ?_
    refine i_iconst r_276_2699 (n_276_2699 _) ?_
    refine i_iadd r_276_2700 (n_276_2700 _) ?_
    refine i_script hS r_276_2701 (n_276_2701 _) g9.2.2 g9.1 g9.2.1 (fun q17 => ?_)
    refine wp_virt (b := 252) (rest := []) (Ls := [(0, rf 252), (1, iv ((xs (x4 + 1).toNat).toInt)), (2, .long ((zshlL (zi2l ((xs (x4 + 2).toNat).toInt)) 32) ||| ((zi2l ((xs (x4 + 3).toNat).toInt)) &&& 4294967295))), (4, iv ((xs (x4 + 4).toNat).toInt)), (5, iv ((xs (x4 + 5).toNat).toInt))]) r_276_2702 (n_276_2702 _) rfl ⟨rfl, rfl, by decide, by decide⟩ rfl rfl lf_252 ⟨rfl, Nat.le_of_ble_eq_true rfl, Nat.le_of_ble_eq_true rfl⟩ rfl h ?_
    intro o18 s18 h
    rcases h with ⟨y18, q19, rfl, h⟩ | ⟨e18, rfl, h⟩
    · refine .inl ⟨some (iv y18), rfl, ?_⟩
      show wp S 276 2705 [(0, rf 0), (1, rf 2), (2, rf 252), (3, rf 275), (4, iv x4), (5, iv y11)] [iv y18] s18 Q
      refine i_istore (l' := [(0, rf 0), (1, rf 2), (2, rf 252), (3, rf 275), (4, iv x4), (5, iv y11), (6, iv y18)]) r_276_2705 (n_276_2705 _) (by decide) rfl ?_
      refine i_aload_n (a := 252) r_276_2707 (n_276_2707 _) rfl ?_
      refine wp_virt (b := 252) (rest := []) (Ls := [(0, rf 252)]) r_276_2708 (n_276_2708 _) rfl ⟨rfl, rfl, by decide, by decide⟩ rfl rfl lf_252 ⟨rfl, Nat.le_of_ble_eq_true rfl, Nat.le_of_ble_eq_true rfl⟩ rfl K_Model_thrown ?_
      rintro _ _ ⟨rfl, rfl⟩
      refine .inl ⟨some (iv (zI s18 252 3)), rfl, ?_⟩
      show wp S 276 2711 [(0, rf 0), (1, rf 2), (2, rf 252), (3, rf 275), (4, iv x4), (5, iv y11), (6, iv y18)] [iv (zI s18 252 3)] s18 Q
      refine wp_rd (a := 252) (j := 3) (fun q21 => ?_)
      refine i_iload (x := y11) r_276_2711 (n_276_2711 _) rfl ?_
      refine i_icmp (t := 2718) r_276_2713 (n_276_2713 _) rfl (T_eq q21 q12) (fun c22 => ?_) (fun c22 => ?_)
      · replace h := h.1 c22
        refine i_iload (x := y11) r_276_2718 (n_276_2718 _) rfl ?_
        refine i_if (t := 2735) r_276_2720 (n_276_2720 _) rfl (T_ne q12 ⟨by omega, by omega⟩) (fun c23 => ?_) (fun c23 => ?_)
        · replace h := h.1 c23
          refine i_goto (t := 2908) r_276_2735 (n_276_2735 _) rfl ?_
          refine i_iinc (x := x4) (l' := [(0, rf 0), (1, rf 2), (2, rf 252), (3, rf 275), (4, iv (x4 + 7)), (5, iv y11), (6, iv y18)]) r_276_2908 (n_276_2908 _) (by decide) rfl rfl ?_
          refine i_goto (t := 23) r_276_2911 (n_276_2911 _) rfl ?_
          exact wp_pr (l' := [(0, rf 0), (1, rf 2), (2, rf 252), (3, rf 275), (4, iv (x4 + 7))]) rfl h
        · replace h := h.2 c23
          refine i_aload_n (a := 275) r_276_2723 (n_276_2723 _) rfl ?_
          refine i_iconst r_276_2724 (n_276_2724 _) ?_
          refine i_laload (a := 275) (j := 0) r_276_2725 (n_276_2725 _) lf_275 ⟨by omega, by omega⟩ (by omega) (by omega) ?_
          refine i_iload (x := y18) r_276_2726 (n_276_2726 _) rfl ?_
          refine i_i2l r_276_2728 (n_276_2728 _) ?_
          refine i_lcmp r_276_2729 (n_276_2729 _) ?_
          refine i_if (t := 2735) r_276_2730 (n_276_2730 _) rfl (T_eq (zcmp_rng _ _) ⟨by omega, by omega⟩) (fun c24 => ?_) (fun c24 => ?_)
          · replace h := h.1 c24
            refine i_goto (t := 2908) r_276_2735 (n_276_2735 _) rfl ?_
            refine i_iinc (x := x4) (l' := [(0, rf 0), (1, rf 2), (2, rf 252), (3, rf 275), (4, iv (x4 + 7)), (5, iv y11), (6, iv y18)]) r_276_2908 (n_276_2908 _) (by decide) rfl rfl ?_
            refine i_goto (t := 23) r_276_2911 (n_276_2911 _) rfl ?_
            exact wp_pr (l' := [(0, rf 0), (1, rf 2), (2, rf 252), (3, rf 275), (4, iv (x4 + 7))]) rfl h
          · replace h := h.2 c24
            refine i_iconst r_276_2733 (n_276_2733 _) ?_
            exact i_zreturn r_276_2734 (n_276_2734 _) rfl (by decide) h
      · replace h := h.2 c22
        refine i_iconst r_276_2716 (n_276_2716 _) ?_
        exact i_zreturn r_276_2717 (n_276_2717 _) rfl (by decide) h
    · skip
      exact h.elim
  · skip
    exact h.elim
theorem v_Law_law_2738 {S : Option (Nat × (Nat → Int32))} {L : Nat} {xs : Nat → Int32} (hS : S = some (L, xs)) {s : zSt} {Q : Option Value ⊕ Nat → zSt → Prop} {x4 : Int} 
    (h : (0 ≤ (x4 + 1) ∧ (x4 + 1) < (L : Int) ∧ rng (x4 + 1)) ∧ ((0 ≤ (x4 + 2) ∧ (x4 + 2) < (L : Int) ∧ rng (x4 + 2)) ∧ ((0 ≤ (x4 + 3) ∧ (x4 + 3) < (L : Int) ∧ rng (x4 + 3)) ∧ ((0 ≤ (x4 + 4) ∧ (x4 + 4) < (L : Int) ∧ rng (x4 + 4)) ∧ (wp S 172 0 [(0, rf 2), (1, iv ((xs (x4 + 1).toNat).toInt)), (2, .long ((zshlL (zi2l ((xs (x4 + 2).toNat).toInt)) 32) ||| ((zi2l ((xs (x4 + 3).toNat).toInt)) &&& 4294967295))), (4, iv ((xs (x4 + 4).toNat).toInt)), (5, rf 275)] [] s (fun o9 s9 => zkI (fun y9 => wp S 273 0 [(0, rf 252), (1, iv ((xs (x4 + 1).toNat).toInt)), (2, .long ((zshlL (zi2l ((xs (x4 + 2).toNat).toInt)) 32) ||| ((zi2l ((xs (x4 + 3).toNat).toInt)) &&& 4294967295))), (4, iv ((xs (x4 + 4).toNat).toInt))] [] s9 (fun o15 s15 => zkI (fun y15 => ((zI s15 252 3) = y9 → (y9 ≠ 0 → wp S 276 23 [(0, rf 0), (1, rf 2), (2, rf 252), (3, rf 275), (4, iv (x4 + 7))] [] s15 Q) ∧ (y9 = 0 → ((zcmp (zL s15 275 0) (zi2l y15)) = 0 → wp S 276 23 [(0, rf 0), (1, rf 2), (2, rf 252), (3, rf 275), (4, iv (x4 + 7))] [] s15 Q) ∧ ((zcmp (zL s15 275 0) (zi2l y15)) ≠ 0 → Q (rI 0) s15))) ∧ ((zI s15 252 3) ≠ y9 → Q (rI 0) s15)) (fun e15 => False) o15)) (fun e9 => False) o9)))))) :
    wp S 276 2738 [(0, rf 0), (1, rf 2), (2, rf 252), (3, rf 275), (4, iv x4)] [] s Q := by
  refine i_aload_n (a := 2) r_276_2738 rfl rfl ?_
  refine i_aload_n (a := 0) r_276_2739 (n_276_2739 _) rfl ?_
  refine i_iload (x := x4) r_276_2740 (n_276_2740 _) rfl ?_
  refine i_iconst r_276_2742 (n_276_2742 _) ?_
  refine i_iadd r_276_2743 (n_276_2743 _) ?_
  obtain ⟨g1, h⟩ := h
  refine i_script hS r_276_2744 (n_276_2744 _) g1.2.2 g1.1 g1.2.1 (fun q2 => ?_)
  refine i_aload_n (a := 0) r_276_2745 (n_276_2745 _) rfl ?_
  refine i_iload (x := x4) r_276_2746 (n_276_2746 _) rfl ?_
  refine i_iconst r_276_2748 (n_276_2748 _) ?_
  refine i_iadd r_276_2749 (n_276_2749 _) ?_
  obtain ⟨g3, h⟩ := h
  refine i_script hS r_276_2750 (n_276_2750 _) g3.2.2 g3.1 g3.2.1 (fun q4 => ?_)
  refine i_i2l r_276_2751 (n_276_2751 _) ?_
  refine i_bipush r_276_2752 (n_276_2752 _) rfl ?_
  refine i_lshl r_276_2754 (n_276_2754 _) ?_
  refine i_aload_n (a := 0) r_276_2755 (n_276_2755 _) rfl ?_
  refine i_iload (x := x4) r_276_2756 (n_276_2756 _) rfl ?_
  refine i_iconst r_276_2758 (n_276_2758 _) ?_
  refine i_iadd r_276_2759 (n_276_2759 _) ?_
  obtain ⟨g5, h⟩ := h
  refine i_script hS r_276_2760 (n_276_2760 _) g5.2.2 g5.1 g5.2.1 (fun q6 => ?_)
  refine i_i2l r_276_2761 (n_276_2761 _) ?_
  refine i_ldc2 r_276_2762 (n_276_2762 _) rfl ?_
  refine i_land r_276_2765 (n_276_2765 _) ?_
  refine i_lor r_276_2766 (n_276_2766 _) ?_
  refine i_aload_n (a := 0) r_276_2767 (n_276_2767 _) rfl ?_
  refine i_iload (x := x4) r_276_2768 (n_276_2768 _) rfl ?_
  refine i_iconst r_276_2770 (n_276_2770 _) ?_
  refine i_iadd r_276_2771 (n_276_2771 _) ?_
  obtain ⟨g7, h⟩ := h
  refine i_script hS r_276_2772 (n_276_2772 _) g7.2.2 g7.1 g7.2.1 (fun q8 => ?_)
  refine i_aload_n (a := 275) r_276_2773 (n_276_2773 _) rfl ?_
  refine wp_stat (rest := []) (Ls := [(0, rf 2), (1, iv ((xs (x4 + 1).toNat).toInt)), (2, .long ((zshlL (zi2l ((xs (x4 + 2).toNat).toInt)) 32) ||| ((zi2l ((xs (x4 + 3).toNat).toInt)) &&& 4294967295))), (4, iv ((xs (x4 + 4).toNat).toInt)), (5, rf 275)]) r_276_2774 (n_276_2774 _) rfl ⟨rfl, by decide, by decide, by decide⟩ rfl rfl ⟨rfl, Nat.le_of_ble_eq_true rfl, Nat.le_of_ble_eq_true rfl⟩ rfl h ?_
  intro o9 s9 h
  rcases h with ⟨y9, q10, rfl, h⟩ | ⟨e9, rfl, h⟩
  · refine .inl ⟨some (iv y9), rfl, ?_⟩
    show wp S 276 2777 [(0, rf 0), (1, rf 2), (2, rf 252), (3, rf 275), (4, iv x4)] [iv y9] s9 Q
    refine i_istore (l' := [(0, rf 0), (1, rf 2), (2, rf 252), (3, rf 275), (4, iv x4), (5, iv y9)]) r_276_2777 (n_276_2777 _) (by decide) rfl ?_
    refine i_aload_n (a := 252) r_276_2779 (n_276_2779 _) rfl ?_
    refine i_aload_n (a := 0) r_276_2780 (n_276_2780 _) rfl ?_
    refine i_iload (x := x4) r_276_2781 (n_276_2781 _) rfl ?_
    refine i_iconst r_276_2783 (n_276_2783 _) ?_
    refine i_iadd r_276_2784 (n_276_2784 _) ?_
    refine i_script hS r_276_2785 (n_276_2785 _) g1.2.2 g1.1 g1.2.1 (fun q11 => ?_)
    refine i_aload_n (a := 0) r_276_2786 (n_276_2786 _) rfl ?_
    refine i_iload (x := x4) r_276_2787 (n_276_2787 _) rfl ?_
    refine i_iconst r_276_2789 (n_276_2789 _) ?_
    refine i_iadd r_276_2790 (n_276_2790 _) ?_
    refine i_script hS r_276_2791 (n_276_2791 _) g3.2.2 g3.1 g3.2.1 (fun q12 => ?_)
    refine i_i2l r_276_2792 (n_276_2792 _) ?_
    refine i_bipush r_276_2793 (n_276_2793 _) rfl ?_
    refine i_lshl r_276_2795 (n_276_2795 _) ?_
    refine i_aload_n (a := 0) r_276_2796 (n_276_2796 _) rfl ?_
    refine i_iload (x := x4) r_276_2797 (n_276_2797 _) rfl ?_
    refine i_iconst r_276_2799 (n_276_2799 _) ?_
    refine i_iadd r_276_2800 (n_276_2800 _) ?_
    refine i_script hS r_276_2801 (n_276_2801 _) g5.2.2 g5.1 g5.2.1 (fun q13 => ?_)
    refine i_i2l r_276_2802 (n_276_2802 _) ?_
    refine i_ldc2 r_276_2803 (n_276_2803 _) rfl ?_
    refine i_land r_276_2806 (n_276_2806 _) ?_
    refine i_lor r_276_2807 (n_276_2807 _) ?_
    refine i_aload_n (a := 0) r_276_2808 (n_276_2808 _) rfl ?_
    refine i_iload (x := x4) r_276_2809 (n_276_2809 _) rfl ?_
    refine i_iconst r_276_2811 (n_276_2811 _) ?_
    refine i_iadd r_276_2812 (n_276_2812 _) ?_
    refine i_script hS r_276_2813 (n_276_2813 _) g7.2.2 g7.1 g7.2.1 (fun q14 => ?_)
    refine wp_virt (b := 252) (rest := []) (Ls := [(0, rf 252), (1, iv ((xs (x4 + 1).toNat).toInt)), (2, .long ((zshlL (zi2l ((xs (x4 + 2).toNat).toInt)) 32) ||| ((zi2l ((xs (x4 + 3).toNat).toInt)) &&& 4294967295))), (4, iv ((xs (x4 + 4).toNat).toInt))]) r_276_2814 (n_276_2814 _) rfl ⟨rfl, rfl, by decide, by decide⟩ rfl rfl lf_252 ⟨rfl, Nat.le_of_ble_eq_true rfl, Nat.le_of_ble_eq_true rfl⟩ rfl h ?_
    intro o15 s15 h
    rcases h with ⟨y15, q16, rfl, h⟩ | ⟨e15, rfl, h⟩
    · refine .inl ⟨some (iv y15), rfl, ?_⟩
      show wp S 276 2817 [(0, rf 0), (1, rf 2), (2, rf 252), (3, rf 275), (4, iv x4), (5, iv y9)] [iv y15] s15 Q
      refine i_istore (l' := [(0, rf 0), (1, rf 2), (2, rf 252), (3, rf 275), (4, iv x4), (5, iv y9), (6, iv y15)]) r_276_2817 (n_276_2817 _) (by decide) rfl ?_
      refine i_aload_n (a := 252) r_276_2819 (n_276_2819 _) rfl ?_
      refine wp_virt (b := 252) (rest := []) (Ls := [(0, rf 252)]) r_276_2820 (n_276_2820 _) rfl ⟨rfl, rfl, by decide, by decide⟩ rfl rfl lf_252 ⟨rfl, Nat.le_of_ble_eq_true rfl, Nat.le_of_ble_eq_true rfl⟩ rfl K_Model_thrown ?_
      rintro _ _ ⟨rfl, rfl⟩
      refine .inl ⟨some (iv (zI s15 252 3)), rfl, ?_⟩
      show wp S 276 2823 [(0, rf 0), (1, rf 2), (2, rf 252), (3, rf 275), (4, iv x4), (5, iv y9), (6, iv y15)] [iv (zI s15 252 3)] s15 Q
      refine wp_rd (a := 252) (j := 3) (fun q18 => ?_)
      refine i_iload (x := y9) r_276_2823 (n_276_2823 _) rfl ?_
      refine i_icmp (t := 2830) r_276_2825 (n_276_2825 _) rfl (T_eq q18 q10) (fun c19 => ?_) (fun c19 => ?_)
      · replace h := h.1 c19
        refine i_iload (x := y9) r_276_2830 (n_276_2830 _) rfl ?_
        refine i_if (t := 2847) r_276_2832 (n_276_2832 _) rfl (T_ne q10 ⟨by omega, by omega⟩) (fun c20 => ?_) (fun c20 => ?_)
        · replace h := h.1 c20
          refine i_goto (t := 2908) r_276_2847 (n_276_2847 _) rfl ?_
          refine i_iinc (x := x4) (l' := [(0, rf 0), (1, rf 2), (2, rf 252), (3, rf 275), (4, iv (x4 + 7)), (5, iv y9), (6, iv y15)]) r_276_2908 (n_276_2908 _) (by decide) rfl rfl ?_
          refine i_goto (t := 23) r_276_2911 (n_276_2911 _) rfl ?_
          exact wp_pr (l' := [(0, rf 0), (1, rf 2), (2, rf 252), (3, rf 275), (4, iv (x4 + 7))]) rfl h
        · replace h := h.2 c20
          refine i_aload_n (a := 275) r_276_2835 (n_276_2835 _) rfl ?_
          refine i_iconst r_276_2836 (n_276_2836 _) ?_
          refine i_laload (a := 275) (j := 0) r_276_2837 (n_276_2837 _) lf_275 ⟨by omega, by omega⟩ (by omega) (by omega) ?_
          refine i_iload (x := y15) r_276_2838 (n_276_2838 _) rfl ?_
          refine i_i2l r_276_2840 (n_276_2840 _) ?_
          refine i_lcmp r_276_2841 (n_276_2841 _) ?_
          refine i_if (t := 2847) r_276_2842 (n_276_2842 _) rfl (T_eq (zcmp_rng _ _) ⟨by omega, by omega⟩) (fun c21 => ?_) (fun c21 => ?_)
          · replace h := h.1 c21
            refine i_goto (t := 2908) r_276_2847 (n_276_2847 _) rfl ?_
            refine i_iinc (x := x4) (l' := [(0, rf 0), (1, rf 2), (2, rf 252), (3, rf 275), (4, iv (x4 + 7)), (5, iv y9), (6, iv y15)]) r_276_2908 (n_276_2908 _) (by decide) rfl rfl ?_
            refine i_goto (t := 23) r_276_2911 (n_276_2911 _) rfl ?_
            exact wp_pr (l' := [(0, rf 0), (1, rf 2), (2, rf 252), (3, rf 275), (4, iv (x4 + 7))]) rfl h
          · replace h := h.2 c21
            refine i_iconst r_276_2845 (n_276_2845 _) ?_
            exact i_zreturn r_276_2846 (n_276_2846 _) rfl (by decide) h
      · replace h := h.2 c19
        refine i_iconst r_276_2828 (n_276_2828 _) ?_
        exact i_zreturn r_276_2829 (n_276_2829 _) rfl (by decide) h
    · skip
      exact h.elim
  · skip
    exact h.elim
theorem v_Law_law_2850 {S : Option (Nat × (Nat → Int32))} {L : Nat} {xs : Nat → Int32} (hS : S = some (L, xs)) {s : zSt} {Q : Option Value ⊕ Nat → zSt → Prop} {x4 : Int} 
    (h : wp S 174 0 [(0, rf 2), (1, rf 275)] [] s (fun o1 s1 => zkI (fun y1 => wp S 178 0 [(0, rf 252)] [] s1 (fun o3 s3 => zkI (fun y3 => ((zI s3 252 3) = y1 → (y1 ≠ 0 → wp S 276 23 [(0, rf 0), (1, rf 2), (2, rf 252), (3, rf 275), (4, iv (x4 + 7))] [] s3 Q) ∧ (y1 = 0 → ((zcmp (zL s3 275 0) (zi2l y3)) = 0 → wp S 276 23 [(0, rf 0), (1, rf 2), (2, rf 252), (3, rf 275), (4, iv (x4 + 7))] [] s3 Q) ∧ ((zcmp (zL s3 275 0) (zi2l y3)) ≠ 0 → Q (rI 0) s3))) ∧ ((zI s3 252 3) ≠ y1 → Q (rI 0) s3)) (fun e3 => False) o3)) (fun e1 => False) o1)) :
    wp S 276 2850 [(0, rf 0), (1, rf 2), (2, rf 252), (3, rf 275), (4, iv x4)] [] s Q := by
  refine i_aload_n (a := 2) r_276_2850 rfl rfl ?_
  refine i_aload_n (a := 275) r_276_2851 (n_276_2851 _) rfl ?_
  refine wp_stat (rest := []) (Ls := [(0, rf 2), (1, rf 275)]) r_276_2852 (n_276_2852 _) rfl ⟨rfl, by decide, by decide, by decide⟩ rfl rfl ⟨rfl, Nat.le_of_ble_eq_true rfl, Nat.le_of_ble_eq_true rfl⟩ rfl h ?_
  intro o1 s1 h
  rcases h with ⟨y1, q2, rfl, h⟩ | ⟨e1, rfl, h⟩
  · refine .inl ⟨some (iv y1), rfl, ?_⟩
    show wp S 276 2855 [(0, rf 0), (1, rf 2), (2, rf 252), (3, rf 275), (4, iv x4)] [iv y1] s1 Q
    refine i_istore (l' := [(0, rf 0), (1, rf 2), (2, rf 252), (3, rf 275), (4, iv x4), (5, iv y1)]) r_276_2855 (n_276_2855 _) (by decide) rfl ?_
    refine i_aload_n (a := 252) r_276_2857 (n_276_2857 _) rfl ?_
    refine wp_virt (b := 252) (rest := []) (Ls := [(0, rf 252)]) r_276_2858 (n_276_2858 _) rfl ⟨rfl, rfl, by decide, by decide⟩ rfl rfl lf_252 ⟨rfl, Nat.le_of_ble_eq_true rfl, Nat.le_of_ble_eq_true rfl⟩ rfl h ?_
    intro o3 s3 h
    rcases h with ⟨y3, q4, rfl, h⟩ | ⟨e3, rfl, h⟩
    · refine .inl ⟨some (iv y3), rfl, ?_⟩
      show wp S 276 2861 [(0, rf 0), (1, rf 2), (2, rf 252), (3, rf 275), (4, iv x4), (5, iv y1)] [iv y3] s3 Q
      refine i_istore (l' := [(0, rf 0), (1, rf 2), (2, rf 252), (3, rf 275), (4, iv x4), (5, iv y1), (6, iv y3)]) r_276_2861 (n_276_2861 _) (by decide) rfl ?_
      refine i_aload_n (a := 252) r_276_2863 (n_276_2863 _) rfl ?_
      refine wp_virt (b := 252) (rest := []) (Ls := [(0, rf 252)]) r_276_2864 (n_276_2864 _) rfl ⟨rfl, rfl, by decide, by decide⟩ rfl rfl lf_252 ⟨rfl, Nat.le_of_ble_eq_true rfl, Nat.le_of_ble_eq_true rfl⟩ rfl K_Model_thrown ?_
      rintro _ _ ⟨rfl, rfl⟩
      refine .inl ⟨some (iv (zI s3 252 3)), rfl, ?_⟩
      show wp S 276 2867 [(0, rf 0), (1, rf 2), (2, rf 252), (3, rf 275), (4, iv x4), (5, iv y1), (6, iv y3)] [iv (zI s3 252 3)] s3 Q
      refine wp_rd (a := 252) (j := 3) (fun q6 => ?_)
      refine i_iload (x := y1) r_276_2867 (n_276_2867 _) rfl ?_
      refine i_icmp (t := 2874) r_276_2869 (n_276_2869 _) rfl (T_eq q6 q2) (fun c7 => ?_) (fun c7 => ?_)
      · replace h := h.1 c7
        refine i_iload (x := y1) r_276_2874 (n_276_2874 _) rfl ?_
        refine i_if (t := 2891) r_276_2876 (n_276_2876 _) rfl (T_ne q2 ⟨by omega, by omega⟩) (fun c8 => ?_) (fun c8 => ?_)
        · replace h := h.1 c8
          refine i_goto (t := 2908) r_276_2891 (n_276_2891 _) rfl ?_
          refine i_iinc (x := x4) (l' := [(0, rf 0), (1, rf 2), (2, rf 252), (3, rf 275), (4, iv (x4 + 7)), (5, iv y1), (6, iv y3)]) r_276_2908 (n_276_2908 _) (by decide) rfl rfl ?_
          refine i_goto (t := 23) r_276_2911 (n_276_2911 _) rfl ?_
          exact wp_pr (l' := [(0, rf 0), (1, rf 2), (2, rf 252), (3, rf 275), (4, iv (x4 + 7))]) rfl h
        · replace h := h.2 c8
          refine i_aload_n (a := 275) r_276_2879 (n_276_2879 _) rfl ?_
          refine i_iconst r_276_2880 (n_276_2880 _) ?_
          refine i_laload (a := 275) (j := 0) r_276_2881 (n_276_2881 _) lf_275 ⟨by omega, by omega⟩ (by omega) (by omega) ?_
          refine i_iload (x := y3) r_276_2882 (n_276_2882 _) rfl ?_
          refine i_i2l r_276_2884 (n_276_2884 _) ?_
          refine i_lcmp r_276_2885 (n_276_2885 _) ?_
          refine i_if (t := 2891) r_276_2886 (n_276_2886 _) rfl (T_eq (zcmp_rng _ _) ⟨by omega, by omega⟩) (fun c9 => ?_) (fun c9 => ?_)
          · replace h := h.1 c9
            refine i_goto (t := 2908) r_276_2891 (n_276_2891 _) rfl ?_
            refine i_iinc (x := x4) (l' := [(0, rf 0), (1, rf 2), (2, rf 252), (3, rf 275), (4, iv (x4 + 7)), (5, iv y1), (6, iv y3)]) r_276_2908 (n_276_2908 _) (by decide) rfl rfl ?_
            refine i_goto (t := 23) r_276_2911 (n_276_2911 _) rfl ?_
            exact wp_pr (l' := [(0, rf 0), (1, rf 2), (2, rf 252), (3, rf 275), (4, iv (x4 + 7))]) rfl h
          · replace h := h.2 c9
            refine i_iconst r_276_2889 (n_276_2889 _) ?_
            exact i_zreturn r_276_2890 (n_276_2890 _) rfl (by decide) h
      · replace h := h.2 c7
        refine i_iconst r_276_2872 (n_276_2872 _) ?_
        exact i_zreturn r_276_2873 (n_276_2873 _) rfl (by decide) h
    · skip
      exact h.elim
  · skip
    exact h.elim
theorem v_Law_law_2894 {S : Option (Nat × (Nat → Int32))} {L : Nat} {xs : Nat → Int32} (hS : S = some (L, xs)) {s : zSt} {Q : Option Value ⊕ Nat → zSt → Prop} {x4 : Int} 
    (h : wp S 26 0 [(0, rf 2)] [] s (fun o1 s1 => zkL (fun y1 => wp S 274 0 [(0, rf 252)] [] s1 (fun o3 s3 => zkL (fun y3 => ((zcmp y1 y3) = 0 → wp S 276 23 [(0, rf 0), (1, rf 2), (2, rf 252), (3, rf 275), (4, iv (x4 + 7))] [] s3 Q) ∧ ((zcmp y1 y3) ≠ 0 → Q (rI 0) s3)) (fun e3 => False) o3)) (fun e1 => False) o1)) :
    wp S 276 2894 [(0, rf 0), (1, rf 2), (2, rf 252), (3, rf 275), (4, iv x4)] [] s Q := by
  refine i_aload_n (a := 2) r_276_2894 rfl rfl ?_
  refine wp_virt (b := 2) (rest := []) (Ls := [(0, rf 2)]) r_276_2895 (n_276_2895 _) rfl ⟨rfl, rfl, by decide, by decide⟩ rfl rfl lf_2 ⟨rfl, Nat.le_of_ble_eq_true rfl, Nat.le_of_ble_eq_true rfl⟩ rfl h ?_
  intro o1 s1 h
  rcases h with ⟨y1, rfl, h⟩ | ⟨e1, rfl, h⟩
  · refine .inl ⟨some (.long y1), rfl, ?_⟩
    show wp S 276 2898 [(0, rf 0), (1, rf 2), (2, rf 252), (3, rf 275), (4, iv x4)] [.long y1] s1 Q
    refine i_aload_n (a := 252) r_276_2898 (n_276_2898 _) rfl ?_
    refine wp_virt (b := 252) (rest := [.long y1]) (Ls := [(0, rf 252)]) r_276_2899 (n_276_2899 _) rfl ⟨rfl, rfl, by decide, by decide⟩ rfl rfl lf_252 ⟨rfl, Nat.le_of_ble_eq_true rfl, Nat.le_of_ble_eq_true rfl⟩ rfl h ?_
    intro o3 s3 h
    rcases h with ⟨y3, rfl, h⟩ | ⟨e3, rfl, h⟩
    · refine .inl ⟨some (.long y3), rfl, ?_⟩
      show wp S 276 2902 [(0, rf 0), (1, rf 2), (2, rf 252), (3, rf 275), (4, iv x4)] [.long y3, .long y1] s3 Q
      refine i_lcmp r_276_2902 (n_276_2902 _) ?_
      refine i_if (t := 2908) r_276_2903 (n_276_2903 _) rfl (T_eq (zcmp_rng _ _) ⟨by omega, by omega⟩) (fun c5 => ?_) (fun c5 => ?_)
      · replace h := h.1 c5
        refine i_iinc (x := x4) (l' := [(0, rf 0), (1, rf 2), (2, rf 252), (3, rf 275), (4, iv (x4 + 7))]) r_276_2908 (n_276_2908 _) (by decide) rfl rfl ?_
        refine i_goto (t := 23) r_276_2911 (n_276_2911 _) rfl ?_
        exact wp_pr (l' := [(0, rf 0), (1, rf 2), (2, rf 252), (3, rf 275), (4, iv (x4 + 7))]) rfl h
      · replace h := h.2 c5
        refine i_iconst r_276_2906 (n_276_2906 _) ?_
        exact i_zreturn r_276_2907 (n_276_2907 _) rfl (by decide) h
    · skip
      exact h.elim
  · skip
    exact h.elim

/-! ===== the law: its cases ===== -/
theorem v_Law_law_1489 {S : Option (Nat × (Nat → Int32))} {L : Nat} {xs : Nat → Int32} (hS : S = some (L, xs)) {s : zSt} {Q : Option Value ⊕ Nat → zSt → Prop} {x4 : Int} 
    (h : (0 ≤ (x4 + 1) ∧ (x4 + 1) < (L : Int) ∧ rng (x4 + 1)) ∧ (wp S 133 0 [(0, rf 2), (1, iv ((xs (x4 + 1).toNat).toInt)), (2, rf 275)] [] s (fun o3 s3 => zkI (fun y3 => wp S 254 0 [(0, rf 252), (1, iv ((xs (x4 + 1).toNat).toInt))] [] s3 (fun o6 s6 => zkI (fun y6 => ((zI s6 252 3) = y3 → (y3 ≠ 0 → wp S 276 23 [(0, rf 0), (1, rf 2), (2, rf 252), (3, rf 275), (4, iv (x4 + 7))] [] s6 Q) ∧ (y3 = 0 → ((zcmp (zL s6 275 0) (zi2l y6)) = 0 → wp S 276 23 [(0, rf 0), (1, rf 2), (2, rf 252), (3, rf 275), (4, iv (x4 + 7))] [] s6 Q) ∧ ((zcmp (zL s6 275 0) (zi2l y6)) ≠ 0 → Q (rI 0) s6))) ∧ ((zI s6 252 3) ≠ y3 → Q (rI 0) s6)) (fun e6 => False) o6)) (fun e3 => False) o3))) :
    wp S 276 1489 [(0, rf 0), (1, rf 2), (2, rf 252), (3, rf 275), (4, iv x4)] [] s Q := by
  refine i_aload_n (a := 2) r_276_1489 rfl rfl ?_
  refine i_aload_n (a := 0) r_276_1490 (n_276_1490 _) rfl ?_
  refine i_iload (x := x4) r_276_1491 (n_276_1491 _) rfl ?_
  refine i_iconst r_276_1493 (n_276_1493 _) ?_
  refine i_iadd r_276_1494 (n_276_1494 _) ?_
  obtain ⟨g1, h⟩ := h
  refine i_script hS r_276_1495 (n_276_1495 _) g1.2.2 g1.1 g1.2.1 (fun q2 => ?_)
  refine i_aload_n (a := 275) r_276_1496 (n_276_1496 _) rfl ?_
  refine wp_stat (rest := []) (Ls := [(0, rf 2), (1, iv ((xs (x4 + 1).toNat).toInt)), (2, rf 275)]) r_276_1497 (n_276_1497 _) rfl ⟨rfl, by decide, by decide, by decide⟩ rfl rfl ⟨rfl, Nat.le_of_ble_eq_true rfl, Nat.le_of_ble_eq_true rfl⟩ rfl h ?_
  intro o3 s3 h
  rcases h with ⟨y3, q4, rfl, h⟩ | ⟨e3, rfl, h⟩
  · refine .inl ⟨some (iv y3), rfl, ?_⟩
    show wp S 276 1500 [(0, rf 0), (1, rf 2), (2, rf 252), (3, rf 275), (4, iv x4)] [iv y3] s3 Q
    refine i_istore (l' := [(0, rf 0), (1, rf 2), (2, rf 252), (3, rf 275), (4, iv x4), (5, iv y3)]) r_276_1500 (n_276_1500 _) (by decide) rfl ?_
    refine i_aload_n (a := 252) r_276_1502 (n_276_1502 _) rfl ?_
    refine i_aload_n (a := 0) r_276_1503 (n_276_1503 _) rfl ?_
    refine i_iload (x := x4) r_276_1504 (n_276_1504 _) rfl ?_
    refine i_iconst r_276_1506 (n_276_1506 _) ?_
    refine i_iadd r_276_1507 (n_276_1507 _) ?_
    refine i_script hS r_276_1508 (n_276_1508 _) g1.2.2 g1.1 g1.2.1 (fun q5 => ?_)
    refine wp_virt (b := 252) (rest := []) (Ls := [(0, rf 252), (1, iv ((xs (x4 + 1).toNat).toInt))]) r_276_1509 (n_276_1509 _) rfl ⟨rfl, rfl, by decide, by decide⟩ rfl rfl lf_252 ⟨rfl, Nat.le_of_ble_eq_true rfl, Nat.le_of_ble_eq_true rfl⟩ rfl h ?_
    intro o6 s6 h
    rcases h with ⟨y6, q7, rfl, h⟩ | ⟨e6, rfl, h⟩
    · refine .inl ⟨some (iv y6), rfl, ?_⟩
      show wp S 276 1512 [(0, rf 0), (1, rf 2), (2, rf 252), (3, rf 275), (4, iv x4), (5, iv y3)] [iv y6] s6 Q
      refine i_istore (l' := [(0, rf 0), (1, rf 2), (2, rf 252), (3, rf 275), (4, iv x4), (5, iv y3), (6, iv y6)]) r_276_1512 (n_276_1512 _) (by decide) rfl ?_
      refine i_aload_n (a := 252) r_276_1514 (n_276_1514 _) rfl ?_
      refine wp_virt (b := 252) (rest := []) (Ls := [(0, rf 252)]) r_276_1515 (n_276_1515 _) rfl ⟨rfl, rfl, by decide, by decide⟩ rfl rfl lf_252 ⟨rfl, Nat.le_of_ble_eq_true rfl, Nat.le_of_ble_eq_true rfl⟩ rfl K_Model_thrown ?_
      rintro _ _ ⟨rfl, rfl⟩
      refine .inl ⟨some (iv (zI s6 252 3)), rfl, ?_⟩
      show wp S 276 1518 [(0, rf 0), (1, rf 2), (2, rf 252), (3, rf 275), (4, iv x4), (5, iv y3), (6, iv y6)] [iv (zI s6 252 3)] s6 Q
      refine wp_rd (a := 252) (j := 3) (fun q9 => ?_)
      refine i_iload (x := y3) r_276_1518 (n_276_1518 _) rfl ?_
      refine i_icmp (t := 1525) r_276_1520 (n_276_1520 _) rfl (T_eq q9 q4) (fun c10 => ?_) (fun c10 => ?_)
      · replace h := h.1 c10
        refine i_iload (x := y3) r_276_1525 (n_276_1525 _) rfl ?_
        refine i_if (t := 1542) r_276_1527 (n_276_1527 _) rfl (T_ne q4 ⟨by omega, by omega⟩) (fun c11 => ?_) (fun c11 => ?_)
        · replace h := h.1 c11
          refine i_goto (t := 2908) r_276_1542 (n_276_1542 _) rfl ?_
          refine i_iinc (x := x4) (l' := [(0, rf 0), (1, rf 2), (2, rf 252), (3, rf 275), (4, iv (x4 + 7)), (5, iv y3), (6, iv y6)]) r_276_2908 (n_276_2908 _) (by decide) rfl rfl ?_
          refine i_goto (t := 23) r_276_2911 (n_276_2911 _) rfl ?_
          exact wp_pr (l' := [(0, rf 0), (1, rf 2), (2, rf 252), (3, rf 275), (4, iv (x4 + 7))]) rfl h
        · replace h := h.2 c11
          refine i_aload_n (a := 275) r_276_1530 (n_276_1530 _) rfl ?_
          refine i_iconst r_276_1531 (n_276_1531 _) ?_
          refine i_laload (a := 275) (j := 0) r_276_1532 (n_276_1532 _) lf_275 ⟨by omega, by omega⟩ (by omega) (by omega) ?_
          refine i_iload (x := y6) r_276_1533 (n_276_1533 _) rfl ?_
          refine i_i2l r_276_1535 (n_276_1535 _) ?_
          refine i_lcmp r_276_1536 (n_276_1536 _) ?_
          refine i_if (t := 1542) r_276_1537 (n_276_1537 _) rfl (T_eq (zcmp_rng _ _) ⟨by omega, by omega⟩) (fun c12 => ?_) (fun c12 => ?_)
          · replace h := h.1 c12
            refine i_goto (t := 2908) r_276_1542 (n_276_1542 _) rfl ?_
            refine i_iinc (x := x4) (l' := [(0, rf 0), (1, rf 2), (2, rf 252), (3, rf 275), (4, iv (x4 + 7)), (5, iv y3), (6, iv y6)]) r_276_2908 (n_276_2908 _) (by decide) rfl rfl ?_
            refine i_goto (t := 23) r_276_2911 (n_276_2911 _) rfl ?_
            exact wp_pr (l' := [(0, rf 0), (1, rf 2), (2, rf 252), (3, rf 275), (4, iv (x4 + 7))]) rfl h
          · replace h := h.2 c12
            refine i_iconst r_276_1540 (n_276_1540 _) ?_
            exact i_zreturn r_276_1541 (n_276_1541 _) rfl (by decide) h
      · replace h := h.2 c10
        refine i_iconst r_276_1523 (n_276_1523 _) ?_
        exact i_zreturn r_276_1524 (n_276_1524 _) rfl (by decide) h
    · skip
      exact h.elim
  · skip
    exact h.elim
theorem v_Law_law_1545 {S : Option (Nat × (Nat → Int32))} {L : Nat} {xs : Nat → Int32} (hS : S = some (L, xs)) {s : zSt} {Q : Option Value ⊕ Nat → zSt → Prop} {x4 : Int} 
    (h : (0 ≤ (x4 + 1) ∧ (x4 + 1) < (L : Int) ∧ rng (x4 + 1)) ∧ ((0 ≤ (x4 + 2) ∧ (x4 + 2) < (L : Int) ∧ rng (x4 + 2)) ∧ (wp S 136 0 [(0, rf 2), (1, iv ((xs (x4 + 1).toNat).toInt)), (2, iv ((xs (x4 + 2).toNat).toInt)), (3, rf 275)] [] s (fun o5 s5 => zkI (fun y5 => wp S 255 0 [(0, rf 252), (1, iv ((xs (x4 + 1).toNat).toInt)), (2, iv ((xs (x4 + 2).toNat).toInt))] [] s5 (fun o9 s9 => zkI (fun y9 => ((zI s9 252 3) = y5 → (y5 ≠ 0 → wp S 276 23 [(0, rf 0), (1, rf 2), (2, rf 252), (3, rf 275), (4, iv (x4 + 7))] [] s9 Q) ∧ (y5 = 0 → ((zcmp (zL s9 275 0) (zi2l y9)) = 0 → wp S 276 23 [(0, rf 0), (1, rf 2), (2, rf 252), (3, rf 275), (4, iv (x4 + 7))] [] s9 Q) ∧ ((zcmp (zL s9 275 0) (zi2l y9)) ≠ 0 → Q (rI 0) s9))) ∧ ((zI s9 252 3) ≠ y5 → Q (rI 0) s9)) (fun e9 => False) o9)) (fun e5 => False) o5)))) :
    wp S 276 1545 [(0, rf 0), (1, rf 2), (2, rf 252), (3, rf 275), (4, iv x4)] [] s Q := by
  refine i_aload_n (a := 2) r_276_1545 rfl rfl ?_
  refine i_aload_n (a := 0) r_276_1546 (n_276_1546 _) rfl ?_
  refine i_iload (x := x4) r_276_1547 (n_276_1547 _) rfl ?_
  refine i_iconst r_276_1549 (n_276_1549 _) ?_
  refine i_iadd r_276_1550 (n_276_1550 _) ?_
  obtain ⟨g1, h⟩ := h
  refine i_script hS r_276_1551 (n_276_1551 _) g1.2.2 g1.1 g1.2.1 (fun q2 => ?_)
  refine i_aload_n (a := 0) r_276_1552 (n_276_1552 _) rfl ?_
  refine i_iload (x := x4) r_276_1553 (n_276_1553 _) rfl ?_
  refine i_iconst r_276_1555 (n_276_1555 _) ?_
  refine i_iadd r_276_1556 (n_276_1556 _) ?_
  obtain ⟨g3, h⟩ := h
  refine i_script hS r_276_1557 (n_276_1557 _) g3.2.2 g3.1 g3.2.1 (fun q4 => ?_)
  refine i_aload_n (a := 275) r_276_1558 (n_276_1558 _) rfl ?_
  refine wp_stat (rest := []) (Ls := [(0, rf 2), (1, iv ((xs (x4 + 1).toNat).toInt)), (2, iv ((xs (x4 + 2).toNat).toInt)), (3, rf 275)]) r_276_1559 (n_276_1559 _) rfl ⟨rfl, by decide, by decide, by decide⟩ rfl rfl ⟨rfl, Nat.le_of_ble_eq_true rfl, Nat.le_of_ble_eq_true rfl⟩ rfl h ?_
  intro o5 s5 h
  rcases h with ⟨y5, q6, rfl, h⟩ | ⟨e5, rfl, h⟩
  · refine .inl ⟨some (iv y5), rfl, ?_⟩
    show wp S 276 1562 [(0, rf 0), (1, rf 2), (2, rf 252), (3, rf 275), (4, iv x4)] [iv y5] s5 Q
    refine i_istore (l' := [(0, rf 0), (1, rf 2), (2, rf 252), (3, rf 275), (4, iv x4), (5, iv y5)]) r_276_1562 (n_276_1562 _) (by decide) rfl ?_
    refine i_aload_n (a := 252) r_276_1564 (n_276_1564 _) rfl ?_
    refine i_aload_n (a := 0) r_276_1565 (n_276_1565 _) rfl ?_
    refine i_iload (x := x4) r_276_1566 (n_276_1566 _) rfl ?_
    refine i_iconst r_276_1568 (n_276_1568 _) ?_
    refine i_iadd r_276_1569 (n_276_1569 _) ?_
    refine i_script hS r_276_1570 (n_276_1570 _) g1.2.2 g1.1 g1.2.1 (fun q7 => ?_)
    refine i_aload_n (a := 0) r_276_1571 (n_276_1571 _) rfl ?_
    refine i_iload (x := x4) r_276_1572 (n_276_1572 _) rfl ?_
    refine i_iconst r_276_1574 (n_276_1574 _) ?_
    refine i_iadd r_276_1575 (n_276_1575 _) ?_
    refine i_script hS r_276_1576 (n_276_1576 _) g3.2.2 g3.1 g3.2.1 (fun q8 => ?_)
    refine wp_virt (b := 252) (rest := []) (Ls := [(0, rf 252), (1, iv ((xs (x4 + 1).toNat).toInt)), (2, iv ((xs (x4 + 2).toNat).toInt))]) r_276_1577 (n_276_1577 _) rfl ⟨rfl, rfl, by decide, by decide⟩ rfl rfl lf_252 ⟨rfl, Nat.le_of_ble_eq_true rfl, Nat.le_of_ble_eq_true rfl⟩ rfl h ?_
    intro o9 s9 h
    rcases h with ⟨y9, q10, rfl, h⟩ | ⟨e9, rfl, h⟩
    · refine .inl ⟨some (iv y9), rfl, ?_⟩
      show wp S 276 1580 [(0, rf 0), (1, rf 2), (2, rf 252), (3, rf 275), (4, iv x4), (5, iv y5)] [iv y9] s9 Q
      refine i_istore (l' := [(0, rf 0), (1, rf 2), (2, rf 252), (3, rf 275), (4, iv x4), (5, iv y5), (6, iv y9)]) r_276_1580 (n_276_1580 _) (by decide) rfl ?_
      refine i_aload_n (a := 252) r_276_1582 (n_276_1582 _) rfl ?_
      refine wp_virt (b := 252) (rest := []) (Ls := [(0, rf 252)]) r_276_1583 (n_276_1583 _) rfl ⟨rfl, rfl, by decide, by decide⟩ rfl rfl lf_252 ⟨rfl, Nat.le_of_ble_eq_true rfl, Nat.le_of_ble_eq_true rfl⟩ rfl K_Model_thrown ?_
      rintro _ _ ⟨rfl, rfl⟩
      refine .inl ⟨some (iv (zI s9 252 3)), rfl, ?_⟩
      show wp S 276 1586 [(0, rf 0), (1, rf 2), (2, rf 252), (3, rf 275), (4, iv x4), (5, iv y5), (6, iv y9)] [iv (zI s9 252 3)] s9 Q
      refine wp_rd (a := 252) (j := 3) (fun q12 => ?_)
      refine i_iload (x := y5) r_276_1586 (n_276_1586 _) rfl ?_
      refine i_icmp (t := 1593) r_276_1588 (n_276_1588 _) rfl (T_eq q12 q6) (fun c13 => ?_) (fun c13 => ?_)
      · replace h := h.1 c13
        refine i_iload (x := y5) r_276_1593 (n_276_1593 _) rfl ?_
        refine i_if (t := 1610) r_276_1595 (n_276_1595 _) rfl (T_ne q6 ⟨by omega, by omega⟩) (fun c14 => ?_) (fun c14 => ?_)
        · replace h := h.1 c14
          refine i_goto (t := 2908) r_276_1610 (n_276_1610 _) rfl ?_
          refine i_iinc (x := x4) (l' := [(0, rf 0), (1, rf 2), (2, rf 252), (3, rf 275), (4, iv (x4 + 7)), (5, iv y5), (6, iv y9)]) r_276_2908 (n_276_2908 _) (by decide) rfl rfl ?_
          refine i_goto (t := 23) r_276_2911 (n_276_2911 _) rfl ?_
          exact wp_pr (l' := [(0, rf 0), (1, rf 2), (2, rf 252), (3, rf 275), (4, iv (x4 + 7))]) rfl h
        · replace h := h.2 c14
          refine i_aload_n (a := 275) r_276_1598 (n_276_1598 _) rfl ?_
          refine i_iconst r_276_1599 (n_276_1599 _) ?_
          refine i_laload (a := 275) (j := 0) r_276_1600 (n_276_1600 _) lf_275 ⟨by omega, by omega⟩ (by omega) (by omega) ?_
          refine i_iload (x := y9) r_276_1601 (n_276_1601 _) rfl ?_
          refine i_i2l r_276_1603 (n_276_1603 _) ?_
          refine i_lcmp r_276_1604 (n_276_1604 _) ?_
          refine i_if (t := 1610) r_276_1605 (n_276_1605 _) rfl (T_eq (zcmp_rng _ _) ⟨by omega, by omega⟩) (fun c15 => ?_) (fun c15 => ?_)
          · replace h := h.1 c15
            refine i_goto (t := 2908) r_276_1610 (n_276_1610 _) rfl ?_
            refine i_iinc (x := x4) (l' := [(0, rf 0), (1, rf 2), (2, rf 252), (3, rf 275), (4, iv (x4 + 7)), (5, iv y5), (6, iv y9)]) r_276_2908 (n_276_2908 _) (by decide) rfl rfl ?_
            refine i_goto (t := 23) r_276_2911 (n_276_2911 _) rfl ?_
            exact wp_pr (l' := [(0, rf 0), (1, rf 2), (2, rf 252), (3, rf 275), (4, iv (x4 + 7))]) rfl h
          · replace h := h.2 c15
            refine i_iconst r_276_1608 (n_276_1608 _) ?_
            exact i_zreturn r_276_1609 (n_276_1609 _) rfl (by decide) h
      · replace h := h.2 c13
        refine i_iconst r_276_1591 (n_276_1591 _) ?_
        exact i_zreturn r_276_1592 (n_276_1592 _) rfl (by decide) h
    · skip
      exact h.elim
  · skip
    exact h.elim
theorem v_Law_law_1613 {S : Option (Nat × (Nat → Int32))} {L : Nat} {xs : Nat → Int32} (hS : S = some (L, xs)) {s : zSt} {Q : Option Value ⊕ Nat → zSt → Prop} {x4 : Int} 
    (h : (0 ≤ (x4 + 1) ∧ (x4 + 1) < (L : Int) ∧ rng (x4 + 1)) ∧ ((((xs (x4 + 1).toNat).toInt) = 0 → wp S 13 0 [(0, rf 2), (1, iv 0)] [] s (fun o4 s4 => zkI (fun y4 => (((xs (x4 + 1).toNat).toInt) = 0 → wp S 256 0 [(0, rf 252), (1, iv 0)] [] s4 (fun o8 s8 => zkI (fun y8 => (y4 = y8 → wp S 276 23 [(0, rf 0), (1, rf 2), (2, rf 252), (3, rf 275), (4, iv (x4 + 7))] [] s8 Q) ∧ (y4 ≠ y8 → Q (rI 0) s8)) (fun e8 => False) o8)) ∧ (((xs (x4 + 1).toNat).toInt) ≠ 0 → wp S 256 0 [(0, rf 252), (1, iv 1)] [] s4 (fun o11 s11 => zkI (fun y11 => (y4 = y11 → wp S 276 23 [(0, rf 0), (1, rf 2), (2, rf 252), (3, rf 275), (4, iv (x4 + 7))] [] s11 Q) ∧ (y4 ≠ y11 → Q (rI 0) s11)) (fun e11 => False) o11))) (fun e4 => False) o4)) ∧ (((xs (x4 + 1).toNat).toInt) ≠ 0 → wp S 13 0 [(0, rf 2), (1, iv 1)] [] s (fun o14 s14 => zkI (fun y14 => (((xs (x4 + 1).toNat).toInt) = 0 → wp S 256 0 [(0, rf 252), (1, iv 0)] [] s14 (fun o18 s18 => zkI (fun y18 => (y14 = y18 → wp S 276 23 [(0, rf 0), (1, rf 2), (2, rf 252), (3, rf 275), (4, iv (x4 + 7))] [] s18 Q) ∧ (y14 ≠ y18 → Q (rI 0) s18)) (fun e18 => False) o18)) ∧ (((xs (x4 + 1).toNat).toInt) ≠ 0 → wp S 256 0 [(0, rf 252), (1, iv 1)] [] s14 (fun o21 s21 => zkI (fun y21 => (y14 = y21 → wp S 276 23 [(0, rf 0), (1, rf 2), (2, rf 252), (3, rf 275), (4, iv (x4 + 7))] [] s21 Q) ∧ (y14 ≠ y21 → Q (rI 0) s21)) (fun e21 => False) o21))) (fun e14 => False) o14)))) :
    wp S 276 1613 [(0, rf 0), (1, rf 2), (2, rf 252), (3, rf 275), (4, iv x4)] [] s Q := by
  refine i_aload_n (a := 2) r_276_1613 rfl rfl ?_
  refine i_aload_n (a := 0) r_276_1614 (n_276_1614 _) rfl ?_
  refine i_iload (x := x4) r_276_1615 (n_276_1615 _) rfl ?_
  refine i_iconst r_276_1617 (n_276_1617 _) ?_
  refine i_iadd r_276_1618 (n_276_1618 _) ?_
  obtain ⟨g1, h⟩ := h
  refine i_script hS r_276_1619 (n_276_1619 _) g1.2.2 g1.1 g1.2.1 (fun q2 => ?_)
  refine i_if (t := 1627) r_276_1620 (n_276_1620 _) rfl (T_eq q2 ⟨by omega, by omega⟩) (fun c3 => ?_) (fun c3 => ?_)
  · replace h := h.1 c3
    refine i_iconst r_276_1627 (n_276_1627 _) ?_
    refine wp_virt (b := 2) (rest := []) (Ls := [(0, rf 2), (1, iv 0)]) r_276_1628 (n_276_1628 _) rfl ⟨rfl, rfl, by decide, by decide⟩ rfl rfl lf_2 ⟨rfl, Nat.le_of_ble_eq_true rfl, Nat.le_of_ble_eq_true rfl⟩ rfl h ?_
    intro o4 s4 h
    rcases h with ⟨y4, q5, rfl, h⟩ | ⟨e4, rfl, h⟩
    · refine .inl ⟨some (iv y4), rfl, ?_⟩
      show wp S 276 1631 [(0, rf 0), (1, rf 2), (2, rf 252), (3, rf 275), (4, iv x4)] [iv y4] s4 Q
      refine i_aload_n (a := 252) r_276_1631 (n_276_1631 _) rfl ?_
      refine i_aload_n (a := 0) r_276_1632 (n_276_1632 _) rfl ?_
      refine i_iload (x := x4) r_276_1633 (n_276_1633 _) rfl ?_
      refine i_iconst r_276_1635 (n_276_1635 _) ?_
      refine i_iadd r_276_1636 (n_276_1636 _) ?_
      refine i_script hS r_276_1637 (n_276_1637 _) g1.2.2 g1.1 g1.2.1 (fun q6 => ?_)
      refine i_if (t := 1645) r_276_1638 (n_276_1638 _) rfl (T_eq q6 ⟨by omega, by omega⟩) (fun c7 => ?_) (fun c7 => ?_)
      · replace h := h.1 c7
        refine i_iconst r_276_1645 (n_276_1645 _) ?_
        refine wp_virt (b := 252) (rest := [iv y4]) (Ls := [(0, rf 252), (1, iv 0)]) r_276_1646 (n_276_1646 _) rfl ⟨rfl, rfl, by decide, by decide⟩ rfl rfl lf_252 ⟨rfl, Nat.le_of_ble_eq_true rfl, Nat.le_of_ble_eq_true rfl⟩ rfl h ?_
        intro o8 s8 h
        rcases h with ⟨y8, q9, rfl, h⟩ | ⟨e8, rfl, h⟩
        · refine .inl ⟨some (iv y8), rfl, ?_⟩
          show wp S 276 1649 [(0, rf 0), (1, rf 2), (2, rf 252), (3, rf 275), (4, iv x4)] [iv y8, iv y4] s8 Q
          refine i_icmp (t := 2908) r_276_1649 (n_276_1649 _) rfl (T_eq q5 q9) (fun c10 => ?_) (fun c10 => ?_)
          · replace h := h.1 c10
            refine i_iinc (x := x4) (l' := [(0, rf 0), (1, rf 2), (2, rf 252), (3, rf 275), (4, iv (x4 + 7))]) r_276_2908 (n_276_2908 _) (by decide) rfl rfl ?_
            refine i_goto (t := 23) r_276_2911 (n_276_2911 _) rfl ?_
            exact wp_pr (l' := [(0, rf 0), (1, rf 2), (2, rf 252), (3, rf 275), (4, iv (x4 + 7))]) rfl h
          · replace h := h.2 c10
            refine i_iconst r_276_1652 (n_276_1652 _) ?_
            exact i_zreturn r_276_1653 (n_276_1653 _) rfl (by decide) h
        · skip
          exact h.elim
      · replace h := h.2 c7
        refine i_iconst r_276_1641 (n_276_1641 _) ?_
        refine i_goto (t := 1646) r_276_1642 (n_276_1642 _) rfl ?_
        refine wp_virt (b := 252) (rest := [iv y4]) (Ls := [(0, rf 252), (1, iv 1)]) r_276_1646 (n_276_1646 _) rfl ⟨rfl, rfl, by decide, by decide⟩ rfl rfl lf_252 ⟨rfl, Nat.le_of_ble_eq_true rfl, Nat.le_of_ble_eq_true rfl⟩ rfl h ?_
        intro o11 s11 h
        rcases h with ⟨y11, q12, rfl, h⟩ | ⟨e11, rfl, h⟩
        · refine .inl ⟨some (iv y11), rfl, ?_⟩
          show wp S 276 1649 [(0, rf 0), (1, rf 2), (2, rf 252), (3, rf 275), (4, iv x4)] [iv y11, iv y4] s11 Q
          refine i_icmp (t := 2908) r_276_1649 (n_276_1649 _) rfl (T_eq q5 q12) (fun c13 => ?_) (fun c13 => ?_)
          · replace h := h.1 c13
            refine i_iinc (x := x4) (l' := [(0, rf 0), (1, rf 2), (2, rf 252), (3, rf 275), (4, iv (x4 + 7))]) r_276_2908 (n_276_2908 _) (by decide) rfl rfl ?_
            refine i_goto (t := 23) r_276_2911 (n_276_2911 _) rfl ?_
            exact wp_pr (l' := [(0, rf 0), (1, rf 2), (2, rf 252), (3, rf 275), (4, iv (x4 + 7))]) rfl h
          · replace h := h.2 c13
            refine i_iconst r_276_1652 (n_276_1652 _) ?_
            exact i_zreturn r_276_1653 (n_276_1653 _) rfl (by decide) h
        · skip
          exact h.elim
    · skip
      exact h.elim
  · replace h := h.2 c3
    refine i_iconst r_276_1623 (n_276_1623 _) ?_
    refine i_goto (t := 1628) r_276_1624 (n_276_1624 _) rfl ?_
    refine wp_virt (b := 2) (rest := []) (Ls := [(0, rf 2), (1, iv 1)]) r_276_1628 (n_276_1628 _) rfl ⟨rfl, rfl, by decide, by decide⟩ rfl rfl lf_2 ⟨rfl, Nat.le_of_ble_eq_true rfl, Nat.le_of_ble_eq_true rfl⟩ rfl h ?_
    intro o14 s14 h
    rcases h with ⟨y14, q15, rfl, h⟩ | ⟨e14, rfl, h⟩
    · refine .inl ⟨some (iv y14), rfl, ?_⟩
      show wp S 276 1631 [(0, rf 0), (1, rf 2), (2, rf 252), (3, rf 275), (4, iv x4)] [iv y14] s14 Q
      refine i_aload_n (a := 252) r_276_1631 (n_276_1631 _) rfl ?_
      refine i_aload_n (a := 0) r_276_1632 (n_276_1632 _) rfl ?_
      refine i_iload (x := x4) r_276_1633 (n_276_1633 _) rfl ?_
      refine i_iconst r_276_1635 (n_276_1635 _) ?_
      refine i_iadd r_276_1636 (n_276_1636 _) ?_
      refine i_script hS r_276_1637 (n_276_1637 _) g1.2.2 g1.1 g1.2.1 (fun q16 => ?_)
      refine i_if (t := 1645) r_276_1638 (n_276_1638 _) rfl (T_eq q16 ⟨by omega, by omega⟩) (fun c17 => ?_) (fun c17 => ?_)
      · replace h := h.1 c17
        refine i_iconst r_276_1645 (n_276_1645 _) ?_
        refine wp_virt (b := 252) (rest := [iv y14]) (Ls := [(0, rf 252), (1, iv 0)]) r_276_1646 (n_276_1646 _) rfl ⟨rfl, rfl, by decide, by decide⟩ rfl rfl lf_252 ⟨rfl, Nat.le_of_ble_eq_true rfl, Nat.le_of_ble_eq_true rfl⟩ rfl h ?_
        intro o18 s18 h
        rcases h with ⟨y18, q19, rfl, h⟩ | ⟨e18, rfl, h⟩
        · refine .inl ⟨some (iv y18), rfl, ?_⟩
          show wp S 276 1649 [(0, rf 0), (1, rf 2), (2, rf 252), (3, rf 275), (4, iv x4)] [iv y18, iv y14] s18 Q
          refine i_icmp (t := 2908) r_276_1649 (n_276_1649 _) rfl (T_eq q15 q19) (fun c20 => ?_) (fun c20 => ?_)
          · replace h := h.1 c20
            refine i_iinc (x := x4) (l' := [(0, rf 0), (1, rf 2), (2, rf 252), (3, rf 275), (4, iv (x4 + 7))]) r_276_2908 (n_276_2908 _) (by decide) rfl rfl ?_
            refine i_goto (t := 23) r_276_2911 (n_276_2911 _) rfl ?_
            exact wp_pr (l' := [(0, rf 0), (1, rf 2), (2, rf 252), (3, rf 275), (4, iv (x4 + 7))]) rfl h
          · replace h := h.2 c20
            refine i_iconst r_276_1652 (n_276_1652 _) ?_
            exact i_zreturn r_276_1653 (n_276_1653 _) rfl (by decide) h
        · skip
          exact h.elim
      · replace h := h.2 c17
        refine i_iconst r_276_1641 (n_276_1641 _) ?_
        refine i_goto (t := 1646) r_276_1642 (n_276_1642 _) rfl ?_
        refine wp_virt (b := 252) (rest := [iv y14]) (Ls := [(0, rf 252), (1, iv 1)]) r_276_1646 (n_276_1646 _) rfl ⟨rfl, rfl, by decide, by decide⟩ rfl rfl lf_252 ⟨rfl, Nat.le_of_ble_eq_true rfl, Nat.le_of_ble_eq_true rfl⟩ rfl h ?_
        intro o21 s21 h
        rcases h with ⟨y21, q22, rfl, h⟩ | ⟨e21, rfl, h⟩
        · refine .inl ⟨some (iv y21), rfl, ?_⟩
          show wp S 276 1649 [(0, rf 0), (1, rf 2), (2, rf 252), (3, rf 275), (4, iv x4)] [iv y21, iv y14] s21 Q
          refine i_icmp (t := 2908) r_276_1649 (n_276_1649 _) rfl (T_eq q15 q22) (fun c23 => ?_) (fun c23 => ?_)
          · replace h := h.1 c23
            refine i_iinc (x := x4) (l' := [(0, rf 0), (1, rf 2), (2, rf 252), (3, rf 275), (4, iv (x4 + 7))]) r_276_2908 (n_276_2908 _) (by decide) rfl rfl ?_
            refine i_goto (t := 23) r_276_2911 (n_276_2911 _) rfl ?_
            exact wp_pr (l' := [(0, rf 0), (1, rf 2), (2, rf 252), (3, rf 275), (4, iv (x4 + 7))]) rfl h
          · replace h := h.2 c23
            refine i_iconst r_276_1652 (n_276_1652 _) ?_
            exact i_zreturn r_276_1653 (n_276_1653 _) rfl (by decide) h
        · skip
          exact h.elim
    · skip
      exact h.elim
theorem v_Law_law_1654 {S : Option (Nat × (Nat → Int32))} {L : Nat} {xs : Nat → Int32} (hS : S = some (L, xs)) {s : zSt} {Q : Option Value ⊕ Nat → zSt → Prop} {x4 : Int} 
    (h : (0 ≤ (x4 + 1) ∧ (x4 + 1) < (L : Int) ∧ rng (x4 + 1)) ∧ ((0 ≤ (x4 + 2) ∧ (x4 + 2) < (L : Int) ∧ rng (x4 + 2)) ∧ ((0 ≤ (x4 + 3) ∧ (x4 + 3) < (L : Int) ∧ rng (x4 + 3)) ∧ (wp S 138 0 [(0, rf 2), (1, iv ((xs (x4 + 1).toNat).toInt)), (2, iv ((xs (x4 + 2).toNat).toInt)), (3, iv ((xs (x4 + 3).toNat).toInt)), (4, rf 275)] [] s (fun o7 s7 => zkI (fun y7 => wp S 257 0 [(0, rf 252), (1, iv ((xs (x4 + 1).toNat).toInt)), (2, iv ((xs (x4 + 2).toNat).toInt)), (3, iv ((xs (x4 + 3).toNat).toInt))] [] s7 (fun o12 s12 => zkI (fun y12 => ((zI s12 252 3) = y7 → (y7 ≠ 0 → wp S 276 23 [(0, rf 0), (1, rf 2), (2, rf 252), (3, rf 275), (4, iv (x4 + 7))] [] s12 Q) ∧ (y7 = 0 → ((zcmp (zL s12 275 0) (zi2l y12)) = 0 → wp S 276 23 [(0, rf 0), (1, rf 2), (2, rf 252), (3, rf 275), (4, iv (x4 + 7))] [] s12 Q) ∧ ((zcmp (zL s12 275 0) (zi2l y12)) ≠ 0 → Q (rI 0) s12))) ∧ ((zI s12 252 3) ≠ y7 → Q (rI 0) s12)) (fun e12 => False) o12)) (fun e7 => False) o7))))) :
    wp S 276 1654 [(0, rf 0), (1, rf 2), (2, rf 252), (3, rf 275), (4, iv x4)] [] s Q := by
  refine i_aload_n (a := 2) r_276_1654 rfl rfl ?_
  refine i_aload_n (a := 0) r_276_1655 (n_276_1655 _) rfl ?_
  refine i_iload (x := x4) r_276_1656 (n_276_1656 _) rfl ?_
  refine i_iconst r_276_1658 (n_276_1658 _) ?_
  refine i_iadd r_276_1659 (n_276_1659 _) ?_
  obtain ⟨g1, h⟩ := h
  refine i_script hS r_276_1660 (n_276_1660 _) g1.2.2 g1.1 g1.2.1 (fun q2 => ?_)
  refine i_aload_n (a := 0) r_276_1661 (n_276_1661 _) rfl ?_
  refine i_iload (x := x4) r_276_1662 (n_276_1662 _) rfl ?_
  refine i_iconst r_276_1664 (n_276_1664 _) ?_
  refine i_iadd r_276_1665 (n_276_1665 _) ?_
  obtain ⟨g3, h⟩ := h
  refine i_script hS r_276_1666 (n_276_1666 _) g3.2.2 g3.1 g3.2.1 (fun q4 => ?_)
  refine i_aload_n (a := 0) r_276_1667 (n_276_1667 _) rfl ?_
  refine i_iload (x := x4) r_276_1668 (n_276_1668 _) rfl ?_
  refine i_iconst r_276_1670 (n_276_1670 _) ?_
  refine i_iadd r_276_1671 (n_276_1671 _) ?_
  obtain ⟨g5, h⟩ := h
  refine i_script hS r_276_1672 (n_276_1672 _) g5.2.2 g5.1 g5.2.1 (fun q6 => ?_)
  refine i_aload_n (a := 275) r_276_1673 (n_276_1673 _) rfl ?_
  refine wp_stat (rest := []) (Ls := [(0, rf 2), (1, iv ((xs (x4 + 1).toNat).toInt)), (2, iv ((xs (x4 + 2).toNat).toInt)), (3, iv ((xs (x4 + 3).toNat).toInt)), (4, rf 275)]) r_276_1674 (n_276_1674 _) rfl ⟨rfl, by decide, by decide, by decide⟩ rfl rfl ⟨rfl, Nat.le_of_ble_eq_true rfl, Nat.le_of_ble_eq_true rfl⟩ rfl h ?_
  intro o7 s7 h
  rcases h with ⟨y7, q8, rfl, h⟩ | ⟨e7, rfl, h⟩
  · refine .inl ⟨some (iv y7), rfl, ?_⟩
    show wp S 276 1677 [(0, rf 0), (1, rf 2), (2, rf 252), (3, rf 275), (4, iv x4)] [iv y7] s7 Q
    refine i_istore (l' := [(0, rf 0), (1, rf 2), (2, rf 252), (3, rf 275), (4, iv x4), (5, iv y7)]) r_276_1677 (n_276_1677 _) (by decide) rfl ?_
    refine i_aload_n (a := 252) r_276_1679 (n_276_1679 _) rfl ?_
    refine i_aload_n (a := 0) r_276_1680 (n_276_1680 _) rfl ?_
    refine i_iload (x := x4) r_276_1681 (n_276_1681 _) rfl ?_
    refine i_iconst r_276_1683 (n_276_1683 _) ?_
    refine i_iadd r_276_1684 (n_276_1684 _) ?_
    refine i_script hS r_276_1685 (n_276_1685 _) g1.2.2 g1.1 g1.2.1 (fun q9 => ?_)
    refine i_aload_n (a := 0) r_276_1686 (n_276_1686 _) rfl ?_
    refine i_iload (x := x4) r_276_1687 (n_276_1687 _) rfl ?_
    refine i_iconst r_276_1689 (n_276_1689 _) ?_
    refine i_iadd r_276_1690 (n_276_1690 _) ?_
    refine i_script hS r_276_1691 (n_276_1691 _) g3.2.2 g3.1 g3.2.1 (fun q10 => ?_)
    refine i_aload_n (a := 0) r_276_1692 (n_276_1692 _) rfl ?_
    refine i_iload (x := x4) r_276_1693 (n_276_1693 _) rfl ?_
    refine i_iconst r_276_1695 (n_276_1695 _) ?_
    refine i_iadd r_276_1696 (n_276_1696 _) ?_
    refine i_script hS r_276_1697 (n_276_1697 _) g5.2.2 g5.1 g5.2.1 (fun q11 => ?_)
    refine wp_virt (b := 252) (rest := []) (Ls := [(0, rf 252), (1, iv ((xs (x4 + 1).toNat).toInt)), (2, iv ((xs (x4 + 2).toNat).toInt)), (3, iv ((xs (x4 + 3).toNat).toInt))]) r_276_1698 (n_276_1698 _) rfl ⟨rfl, rfl, by decide, by decide⟩ rfl rfl lf_252 ⟨rfl, Nat.le_of_ble_eq_true rfl, Nat.le_of_ble_eq_true rfl⟩ rfl h ?_
    intro o12 s12 h
    rcases h with ⟨y12, q13, rfl, h⟩ | ⟨e12, rfl, h⟩
    · refine .inl ⟨some (iv y12), rfl, ?_⟩
      show wp S 276 1701 [(0, rf 0), (1, rf 2), (2, rf 252), (3, rf 275), (4, iv x4), (5, iv y7)] [iv y12] s12 Q
      refine i_istore (l' := [(0, rf 0), (1, rf 2), (2, rf 252), (3, rf 275), (4, iv x4), (5, iv y7), (6, iv y12)]) r_276_1701 (n_276_1701 _) (by decide) rfl ?_
      refine i_aload_n (a := 252) r_276_1703 (n_276_1703 _) rfl ?_
      refine wp_virt (b := 252) (rest := []) (Ls := [(0, rf 252)]) r_276_1704 (n_276_1704 _) rfl ⟨rfl, rfl, by decide, by decide⟩ rfl rfl lf_252 ⟨rfl, Nat.le_of_ble_eq_true rfl, Nat.le_of_ble_eq_true rfl⟩ rfl K_Model_thrown ?_
      rintro _ _ ⟨rfl, rfl⟩
      refine .inl ⟨some (iv (zI s12 252 3)), rfl, ?_⟩
      show wp S 276 1707 [(0, rf 0), (1, rf 2), (2, rf 252), (3, rf 275), (4, iv x4), (5, iv y7), (6, iv y12)] [iv (zI s12 252 3)] s12 Q
      refine wp_rd (a := 252) (j := 3) (fun q15 => ?_)
      refine i_iload (x := y7) r_276_1707 (n_276_1707 _) rfl ?_
      refine i_icmp (t := 1714) r_276_1709 (n_276_1709 _) rfl (T_eq q15 q8) (fun c16 => ?_) (fun c16 => ?_)
      · replace h := h.1 c16
        refine i_iload (x := y7) r_276_1714 (n_276_1714 _) rfl ?_
        refine i_if (t := 1731) r_276_1716 (n_276_1716 _) rfl (T_ne q8 ⟨by omega, by omega⟩) (fun c17 => ?_) (fun c17 => ?_)
        · replace h := h.1 c17
          refine i_goto (t := 2908) r_276_1731 (n_276_1731 _) rfl ?_
          refine i_iinc (x := x4) (l' := [(0, rf 0), (1, rf 2), (2, rf 252), (3, rf 275), (4, iv (x4 + 7)), (5, iv y7), (6, iv y12)]) r_276_2908 (n_276_2908 _) (by decide) rfl rfl ?_
          refine i_goto (t := 23) r_276_2911 (n_276_2911 _) rfl ?_
          exact wp_pr (l' := [(0, rf 0), (1, rf 2), (2, rf 252), (3, rf 275), (4, iv (x4 + 7))]) rfl h
        · replace h := h.2 c17
          refine i_aload_n (a := 275) r_276_1719 (n_276_1719 _) rfl ?_
          refine i_iconst r_276_1720 (n_276_1720 _) ?_
          refine i_laload (a := 275) (j := 0) r_276_1721 (n_276_1721 _) lf_275 ⟨by omega, by omega⟩ (by omega) (by omega) ?_
          refine i_iload (x := y12) r_276_1722 (n_276_1722 _) rfl ?_
          refine i_i2l r_276_1724 (n_276_1724 _) ?_
          refine i_lcmp r_276_1725 (n_276_1725 _) ?_
          refine i_if (t := 1731) r_276_1726 (n_276_1726 _) rfl (T_eq (zcmp_rng _ _) ⟨by omega, by omega⟩) (fun c18 => ?_) (fun c18 => ?_)
          · replace h := h.1 c18
            refine i_goto (t := 2908) r_276_1731 (n_276_1731 _) rfl ?_
            refine i_iinc (x := x4) (l' := [(0, rf 0), (1, rf 2), (2, rf 252), (3, rf 275), (4, iv (x4 + 7)), (5, iv y7), (6, iv y12)]) r_276_2908 (n_276_2908 _) (by decide) rfl rfl ?_
            refine i_goto (t := 23) r_276_2911 (n_276_2911 _) rfl ?_
            exact wp_pr (l' := [(0, rf 0), (1, rf 2), (2, rf 252), (3, rf 275), (4, iv (x4 + 7))]) rfl h
          · replace h := h.2 c18
            refine i_iconst r_276_1729 (n_276_1729 _) ?_
            exact i_zreturn r_276_1730 (n_276_1730 _) rfl (by decide) h
      · replace h := h.2 c16
        refine i_iconst r_276_1712 (n_276_1712 _) ?_
        exact i_zreturn r_276_1713 (n_276_1713 _) rfl (by decide) h
    · skip
      exact h.elim
  · skip
    exact h.elim
theorem v_Law_law_1734 {S : Option (Nat × (Nat → Int32))} {L : Nat} {xs : Nat → Int32} (hS : S = some (L, xs)) {s : zSt} {Q : Option Value ⊕ Nat → zSt → Prop} {x4 : Int} 
    (h : (0 ≤ (x4 + 1) ∧ (x4 + 1) < (L : Int) ∧ rng (x4 + 1)) ∧ ((0 ≤ (x4 + 2) ∧ (x4 + 2) < (L : Int) ∧ rng (x4 + 2)) ∧ ((0 ≤ (x4 + 3) ∧ (x4 + 3) < (L : Int) ∧ rng (x4 + 3)) ∧ (wp S 143 0 [(0, rf 2), (1, iv ((xs (x4 + 1).toNat).toInt)), (2, iv ((xs (x4 + 2).toNat).toInt)), (3, iv ((xs (x4 + 3).toNat).toInt)), (4, rf 275)] [] s (fun o7 s7 => zkI (fun y7 => wp S 259 0 [(0, rf 252), (1, iv ((xs (x4 + 1).toNat).toInt)), (2, iv ((xs (x4 + 2).toNat).toInt)), (3, iv ((xs (x4 + 3).toNat).toInt))] [] s7 (fun o12 s12 => zkI (fun y12 => ((zI s12 252 3) = y7 → (y7 ≠ 0 → wp S 276 23 [(0, rf 0), (1, rf 2), (2, rf 252), (3, rf 275), (4, iv (x4 + 7))] [] s12 Q) ∧ (y7 = 0 → ((zcmp (zL s12 275 0) (zi2l y12)) = 0 → wp S 276 23 [(0, rf 0), (1, rf 2), (2, rf 252), (3, rf 275), (4, iv (x4 + 7))] [] s12 Q) ∧ ((zcmp (zL s12 275 0) (zi2l y12)) ≠ 0 → Q (rI 0) s12))) ∧ ((zI s12 252 3) ≠ y7 → Q (rI 0) s12)) (fun e12 => False) o12)) (fun e7 => False) o7))))) :
    wp S 276 1734 [(0, rf 0), (1, rf 2), (2, rf 252), (3, rf 275), (4, iv x4)] [] s Q := by
  refine i_aload_n (a := 2) r_276_1734 rfl rfl ?_
  refine i_aload_n (a := 0) r_276_1735 (n_276_1735 _) rfl ?_
  refine i_iload (x := x4) r_276_1736 (n_276_1736 _) rfl ?_
  refine i_iconst r_276_1738 (n_276_1738 _) ?_
  refine i_iadd r_276_1739 (n_276_1739 _) ?_
  obtain ⟨g1, h⟩ := h
  refine i_script hS r_276_1740 (n_276_1740 _) g1.2.2 g1.1 g1.2.1 (fun q2 => ?_)
  refine i_aload_n (a := 0) r_276_1741 (n_276_1741 _) rfl ?_
  refine i_iload (x := x4) r_276_1742 (n_276_1742 _) rfl ?_
  refine i_iconst r_276_1744 (n_276_1744 _) ?_
  refine i_iadd r_276_1745 (n_276_1745 _) ?_
  obtain ⟨g3, h⟩ := h
  refine i_script hS r_276_1746 (n_276_1746 _) g3.2.2 g3.1 g3.2.1 (fun q4 => ?_)
  refine i_aload_n (a := 0) r_276_1747 (n_276_1747 _) rfl ?_
  refine i_iload (x := x4) r_276_1748 (n_276_1748 _) rfl ?_
  refine i_iconst r_276_1750 (n_276_1750 _) ?_
  refine i_iadd r_276_1751 (n_276_1751 _) ?_
  obtain ⟨g5, h⟩ := h
  refine i_script hS r_276_1752 (n_276_1752 _) g5.2.2 g5.1 g5.2.1 (fun q6 => ?_)
  refine i_aload_n (a := 275) r_276_1753 (n_276_1753 _) rfl ?_
  refine wp_stat (rest := []) (Ls := [(0, rf 2), (1, iv ((xs (x4 + 1).toNat).toInt)), (2, iv ((xs (x4 + 2).toNat).toInt)), (3, iv ((xs (x4 + 3).toNat).toInt)), (4, rf 275)]) r_276_1754 (n_276_1754 _) rfl ⟨rfl, by decide, by decide, by decide⟩ rfl rfl ⟨rfl, Nat.le_of_ble_eq_true rfl, Nat.le_of_ble_eq_true rfl⟩ rfl h ?_
  intro o7 s7 h
  rcases h with ⟨y7, q8, rfl, h⟩ | ⟨e7, rfl, h⟩
  · refine .inl ⟨some (iv y7), rfl, ?_⟩
    show wp S 276 1757 [(0, rf 0), (1, rf 2), (2, rf 252), (3, rf 275), (4, iv x4)] [iv y7] s7 Q
    refine i_istore (l' := [(0, rf 0), (1, rf 2), (2, rf 252), (3, rf 275), (4, iv x4), (5, iv y7)]) r_276_1757 (n_276_1757 _) (by decide) rfl ?_
    refine i_aload_n (a := 252) r_276_1759 (n_276_1759 _) rfl ?_
    refine i_aload_n (a := 0) r_276_1760 (n_276_1760 _) rfl ?_
    refine i_iload (x := x4) r_276_1761 (n_276_1761 _) rfl ?_
    refine i_iconst r_276_1763 (n_276_1763 _) ?_
    refine i_iadd r_276_1764 (n_276_1764 _) ?_
    refine i_script hS r_276_1765 (n_276_1765 _) g1.2.2 g1.1 g1.2.1 (fun q9 => ?_)
    refine i_aload_n (a := 0) r_276_1766 (n_276_1766 _) rfl ?_
    refine i_iload (x := x4) r_276_1767 (n_276_1767 _) rfl ?_
    refine i_iconst r_276_1769 (n_276_1769 _) ?_
    refine i_iadd r_276_1770 (n_276_1770 _) ?_
    refine i_script hS r_276_1771 (n_276_1771 _) g3.2.2 g3.1 g3.2.1 (fun q10 => ?_)
    refine i_aload_n (a := 0) r_276_1772 (n_276_1772 _) rfl ?_
    refine i_iload (x := x4) r_276_1773 (n_276_1773 _) rfl ?_
    refine i_iconst r_276_1775 (n_276_1775 _) ?_
    refine i_iadd r_276_1776 (n_276_1776 _) ?_
    refine i_script hS r_276_1777 (n_276_1777 _) g5.2.2 g5.1 g5.2.1 (fun q11 => ?_)
    refine wp_virt (b := 252) (rest := []) (Ls := [(0, rf 252), (1, iv ((xs (x4 + 1).toNat).toInt)), (2, iv ((xs (x4 + 2).toNat).toInt)), (3, iv ((xs (x4 + 3).toNat).toInt))]) r_276_1778 (n_276_1778 _) rfl ⟨rfl, rfl, by decide, by decide⟩ rfl rfl lf_252 ⟨rfl, Nat.le_of_ble_eq_true rfl, Nat.le_of_ble_eq_true rfl⟩ rfl h ?_
    intro o12 s12 h
    rcases h with ⟨y12, q13, rfl, h⟩ | ⟨e12, rfl, h⟩
    · refine .inl ⟨some (iv y12), rfl, ?_⟩
      show wp S 276 1781 [(0, rf 0), (1, rf 2), (2, rf 252), (3, rf 275), (4, iv x4), (5, iv y7)] [iv y12] s12 Q
      refine i_istore (l' := [(0, rf 0), (1, rf 2), (2, rf 252), (3, rf 275), (4, iv x4), (5, iv y7), (6, iv y12)]) r_276_1781 (n_276_1781 _) (by decide) rfl ?_
      refine i_aload_n (a := 252) r_276_1783 (n_276_1783 _) rfl ?_
      refine wp_virt (b := 252) (rest := []) (Ls := [(0, rf 252)]) r_276_1784 (n_276_1784 _) rfl ⟨rfl, rfl, by decide, by decide⟩ rfl rfl lf_252 ⟨rfl, Nat.le_of_ble_eq_true rfl, Nat.le_of_ble_eq_true rfl⟩ rfl K_Model_thrown ?_
      rintro _ _ ⟨rfl, rfl⟩
      refine .inl ⟨some (iv (zI s12 252 3)), rfl, ?_⟩
      show wp S 276 1787 [(0, rf 0), (1, rf 2), (2, rf 252), (3, rf 275), (4, iv x4), (5, iv y7), (6, iv y12)] [iv (zI s12 252 3)] s12 Q
      refine wp_rd (a := 252) (j := 3) (fun q15 => ?_)
      refine i_iload (x := y7) r_276_1787 (n_276_1787 _) rfl ?_
      refine i_icmp (t := 1794) r_276_1789 (n_276_1789 _) rfl (T_eq q15 q8) (fun c16 => ?_) (fun c16 => ?_)
      · replace h := h.1 c16
        refine i_iload (x := y7) r_276_1794 (n_276_1794 _) rfl ?_
        refine i_if (t := 1811) r_276_1796 (n_276_1796 _) rfl (T_ne q8 ⟨by omega, by omega⟩) (fun c17 => ?_) (fun c17 => ?_)
        · replace h := h.1 c17
          refine i_goto (t := 2908) r_276_1811 (n_276_1811 _) rfl ?_
          refine i_iinc (x := x4) (l' := [(0, rf 0), (1, rf 2), (2, rf 252), (3, rf 275), (4, iv (x4 + 7)), (5, iv y7), (6, iv y12)]) r_276_2908 (n_276_2908 _) (by decide) rfl rfl ?_
          refine i_goto (t := 23) r_276_2911 (n_276_2911 _) rfl ?_
          exact wp_pr (l' := [(0, rf 0), (1, rf 2), (2, rf 252), (3, rf 275), (4, iv (x4 + 7))]) rfl h
        · replace h := h.2 c17
          refine i_aload_n (a := 275) r_276_1799 (n_276_1799 _) rfl ?_
          refine i_iconst r_276_1800 (n_276_1800 _) ?_
          refine i_laload (a := 275) (j := 0) r_276_1801 (n_276_1801 _) lf_275 ⟨by omega, by omega⟩ (by omega) (by omega) ?_
          refine i_iload (x := y12) r_276_1802 (n_276_1802 _) rfl ?_
          refine i_i2l r_276_1804 (n_276_1804 _) ?_
          refine i_lcmp r_276_1805 (n_276_1805 _) ?_
          refine i_if (t := 1811) r_276_1806 (n_276_1806 _) rfl (T_eq (zcmp_rng _ _) ⟨by omega, by omega⟩) (fun c18 => ?_) (fun c18 => ?_)
          · replace h := h.1 c18
            refine i_goto (t := 2908) r_276_1811 (n_276_1811 _) rfl ?_
            refine i_iinc (x := x4) (l' := [(0, rf 0), (1, rf 2), (2, rf 252), (3, rf 275), (4, iv (x4 + 7)), (5, iv y7), (6, iv y12)]) r_276_2908 (n_276_2908 _) (by decide) rfl rfl ?_
            refine i_goto (t := 23) r_276_2911 (n_276_2911 _) rfl ?_
            exact wp_pr (l' := [(0, rf 0), (1, rf 2), (2, rf 252), (3, rf 275), (4, iv (x4 + 7))]) rfl h
          · replace h := h.2 c18
            refine i_iconst r_276_1809 (n_276_1809 _) ?_
            exact i_zreturn r_276_1810 (n_276_1810 _) rfl (by decide) h
      · replace h := h.2 c16
        refine i_iconst r_276_1792 (n_276_1792 _) ?_
        exact i_zreturn r_276_1793 (n_276_1793 _) rfl (by decide) h
    · skip
      exact h.elim
  · skip
    exact h.elim
theorem v_Law_law_1814 {S : Option (Nat × (Nat → Int32))} {L : Nat} {xs : Nat → Int32} (hS : S = some (L, xs)) {s : zSt} {Q : Option Value ⊕ Nat → zSt → Prop} {x4 : Int} 
    (h : wp S 17 0 [(0, rf 2)] [] s (fun o1 s1 => zkI (fun y1 => wp S 261 0 [(0, rf 252)] [] s1 (fun o3 s3 => zkI (fun y3 => (y1 = y3 → wp S 276 23 [(0, rf 0), (1, rf 2), (2, rf 252), (3, rf 275), (4, iv (x4 + 7))] [] s3 Q) ∧ (y1 ≠ y3 → Q (rI 0) s3)) (fun e3 => False) o3)) (fun e1 => False) o1)) :
    wp S 276 1814 [(0, rf 0), (1, rf 2), (2, rf 252), (3, rf 275), (4, iv x4)] [] s Q := by
  refine i_aload_n (a := 2) r_276_1814 rfl rfl ?_
  refine wp_virt (b := 2) (rest := []) (Ls := [(0, rf 2)]) r_276_1815 (n_276_1815 _) rfl ⟨rfl, rfl, by decide, by decide⟩ rfl rfl lf_2 ⟨rfl, Nat.le_of_ble_eq_true rfl, Nat.le_of_ble_eq_true rfl⟩ rfl h ?_
  intro o1 s1 h
  rcases h with ⟨y1, q2, rfl, h⟩ | ⟨e1, rfl, h⟩
  · refine .inl ⟨some (iv y1), rfl, ?_⟩
    show wp S 276 1818 [(0, rf 0), (1, rf 2), (2, rf 252), (3, rf 275), (4, iv x4)] [iv y1] s1 Q
    refine i_aload_n (a := 252) r_276_1818 (n_276_1818 _) rfl ?_
    refine wp_virt (b := 252) (rest := [iv y1]) (Ls := [(0, rf 252)]) r_276_1819 (n_276_1819 _) rfl ⟨rfl, rfl, by decide, by decide⟩ rfl rfl lf_252 ⟨rfl, Nat.le_of_ble_eq_true rfl, Nat.le_of_ble_eq_true rfl⟩ rfl h ?_
    intro o3 s3 h
    rcases h with ⟨y3, q4, rfl, h⟩ | ⟨e3, rfl, h⟩
    · refine .inl ⟨some (iv y3), rfl, ?_⟩
      show wp S 276 1822 [(0, rf 0), (1, rf 2), (2, rf 252), (3, rf 275), (4, iv x4)] [iv y3, iv y1] s3 Q
      refine i_icmp (t := 2908) r_276_1822 (n_276_1822 _) rfl (T_eq q2 q4) (fun c5 => ?_) (fun c5 => ?_)
      · replace h := h.1 c5
        refine i_iinc (x := x4) (l' := [(0, rf 0), (1, rf 2), (2, rf 252), (3, rf 275), (4, iv (x4 + 7))]) r_276_2908 (n_276_2908 _) (by decide) rfl rfl ?_
        refine i_goto (t := 23) r_276_2911 (n_276_2911 _) rfl ?_
        exact wp_pr (l' := [(0, rf 0), (1, rf 2), (2, rf 252), (3, rf 275), (4, iv (x4 + 7))]) rfl h
      · replace h := h.2 c5
        refine i_iconst r_276_1825 (n_276_1825 _) ?_
        exact i_zreturn r_276_1826 (n_276_1826 _) rfl (by decide) h
    · skip
      exact h.elim
  · skip
    exact h.elim
theorem v_Law_law_1827 {S : Option (Nat × (Nat → Int32))} {L : Nat} {xs : Nat → Int32} (hS : S = some (L, xs)) {s : zSt} {Q : Option Value ⊕ Nat → zSt → Prop} {x4 : Int} 
    (h : (0 ≤ (x4 + 1) ∧ (x4 + 1) < (L : Int) ∧ rng (x4 + 1)) ∧ ((0 ≤ (x4 + 2) ∧ (x4 + 2) < (L : Int) ∧ rng (x4 + 2)) ∧ ((0 ≤ (x4 + 3) ∧ (x4 + 3) < (L : Int) ∧ rng (x4 + 3)) ∧ ((((xs (x4 + 3).toNat).toInt) = 0 → wp S 145 0 [(0, rf 2), (1, iv ((xs (x4 + 1).toNat).toInt)), (2, iv ((xs (x4 + 2).toNat).toInt)), (3, iv 0), (4, rf 275)] [] s (fun o8 s8 => zkI (fun y8 => (((xs (x4 + 3).toNat).toInt) = 0 → wp S 262 0 [(0, rf 252), (1, iv ((xs (x4 + 1).toNat).toInt)), (2, iv ((xs (x4 + 2).toNat).toInt)), (3, iv 0)] [] s8 (fun o14 s14 => zkI (fun y14 => ((zI s14 252 3) = y8 → (y8 ≠ 0 → wp S 276 23 [(0, rf 0), (1, rf 2), (2, rf 252), (3, rf 275), (4, iv (x4 + 7))] [] s14 Q) ∧ (y8 = 0 → ((zcmp (zL s14 275 0) (zi2l y14)) = 0 → wp S 276 23 [(0, rf 0), (1, rf 2), (2, rf 252), (3, rf 275), (4, iv (x4 + 7))] [] s14 Q) ∧ ((zcmp (zL s14 275 0) (zi2l y14)) ≠ 0 → Q (rI 0) s14))) ∧ ((zI s14 252 3) ≠ y8 → Q (rI 0) s14)) (fun e14 => False) o14)) ∧ (((xs (x4 + 3).toNat).toInt) ≠ 0 → wp S 262 0 [(0, rf 252), (1, iv ((xs (x4 + 1).toNat).toInt)), (2, iv ((xs (x4 + 2).toNat).toInt)), (3, iv 1)] [] s8 (fun o21 s21 => zkI (fun y21 => ((zI s21 252 3) = y8 → (y8 ≠ 0 → wp S 276 23 [(0, rf 0), (1, rf 2), (2, rf 252), (3, rf 275), (4, iv (x4 + 7))] [] s21 Q) ∧ (y8 = 0 → ((zcmp (zL s21 275 0) (zi2l y21)) = 0 → wp S 276 23 [(0, rf 0), (1, rf 2), (2, rf 252), (3, rf 275), (4, iv (x4 + 7))] [] s21 Q) ∧ ((zcmp (zL s21 275 0) (zi2l y21)) ≠ 0 → Q (rI 0) s21))) ∧ ((zI s21 252 3) ≠ y8 → Q (rI 0) s21)) (fun e21 => False) o21))) (fun e8 => False) o8)) ∧ (((xs (x4 + 3).toNat).toInt) ≠ 0 → wp S 145 0 [(0, rf 2), (1, iv ((xs (x4 + 1).toNat).toInt)), (2, iv ((xs (x4 + 2).toNat).toInt)), (3, iv 1), (4, rf 275)] [] s (fun o28 s28 => zkI (fun y28 => (((xs (x4 + 3).toNat).toInt) = 0 → wp S 262 0 [(0, rf 252), (1, iv ((xs (x4 + 1).toNat).toInt)), (2, iv ((xs (x4 + 2).toNat).toInt)), (3, iv 0)] [] s28 (fun o34 s34 => zkI (fun y34 => ((zI s34 252 3) = y28 → (y28 ≠ 0 → wp S 276 23 [(0, rf 0), (1, rf 2), (2, rf 252), (3, rf 275), (4, iv (x4 + 7))] [] s34 Q) ∧ (y28 = 0 → ((zcmp (zL s34 275 0) (zi2l y34)) = 0 → wp S 276 23 [(0, rf 0), (1, rf 2), (2, rf 252), (3, rf 275), (4, iv (x4 + 7))] [] s34 Q) ∧ ((zcmp (zL s34 275 0) (zi2l y34)) ≠ 0 → Q (rI 0) s34))) ∧ ((zI s34 252 3) ≠ y28 → Q (rI 0) s34)) (fun e34 => False) o34)) ∧ (((xs (x4 + 3).toNat).toInt) ≠ 0 → wp S 262 0 [(0, rf 252), (1, iv ((xs (x4 + 1).toNat).toInt)), (2, iv ((xs (x4 + 2).toNat).toInt)), (3, iv 1)] [] s28 (fun o41 s41 => zkI (fun y41 => ((zI s41 252 3) = y28 → (y28 ≠ 0 → wp S 276 23 [(0, rf 0), (1, rf 2), (2, rf 252), (3, rf 275), (4, iv (x4 + 7))] [] s41 Q) ∧ (y28 = 0 → ((zcmp (zL s41 275 0) (zi2l y41)) = 0 → wp S 276 23 [(0, rf 0), (1, rf 2), (2, rf 252), (3, rf 275), (4, iv (x4 + 7))] [] s41 Q) ∧ ((zcmp (zL s41 275 0) (zi2l y41)) ≠ 0 → Q (rI 0) s41))) ∧ ((zI s41 252 3) ≠ y28 → Q (rI 0) s41)) (fun e41 => False) o41))) (fun e28 => False) o28)))))) :
    wp S 276 1827 [(0, rf 0), (1, rf 2), (2, rf 252), (3, rf 275), (4, iv x4)] [] s Q := by
  refine i_aload_n (a := 2) r_276_1827 rfl rfl ?_
  refine i_aload_n (a := 0) r_276_1828 (n_276_1828 _) rfl ?_
  refine i_iload (x := x4) r_276_1829 (n_276_1829 _) rfl ?_
  refine i_iconst r_276_1831 (n_276_1831 _) ?_
  refine i_iadd r_276_1832 (n_276_1832 _) ?_
  obtain ⟨g1, h⟩ := h
  refine i_script hS r_276_1833 (n_276_1833 _) g1.2.2 g1.1 g1.2.1 (fun q2 => ?_)
  refine i_aload_n (a := 0) r_276_1834 (n_276_1834 _) rfl ?_
  refine i_iload (x := x4) r_276_1835 (n_276_1835 _) rfl ?_
  refine i_iconst r_276_1837 (n_276_1837 _) ?_
  refine i_iadd r_276_1838 (n_276_1838 _) ?_
  obtain ⟨g3, h⟩ := h
  refine i_script hS r_276_1839 (n_276_1839 _) g3.2.2 g3.1 g3.2.1 (fun q4 => ?_)
  refine i_aload_n (a := 0) r_276_1840 (n_276_1840 _) rfl ?_
  refine i_iload (x := x4) r_276_1841 (n_276_1841 _) rfl ?_
  refine i_iconst r_276_1843 (n_276_1843 _) ?_
  refine i_iadd r_276_1844 (n_276_1844 _) ?_
  obtain ⟨g5, h⟩ := h
  refine i_script hS r_276_1845 (n_276_1845 _) g5.2.2 g5.1 g5.2.1 (fun q6 => ?_)
  refine i_if (t := 1853) r_276_1846 (n_276_1846 _) rfl (T_eq q6 ⟨by omega, by omega⟩) (fun c7 => ?_) (fun c7 => ?_)
  · replace h := h.1 c7
    refine i_iconst r_276_1853 (n_276_1853 _) ?_
    refine i_aload_n (a := 275) r_276_1854 (n_276_1854 _) rfl ?_
    refine wp_stat (rest := []) (Ls := [(0, rf 2), (1, iv ((xs (x4 + 1).toNat).toInt)), (2, iv ((xs (x4 + 2).toNat).toInt)), (3, iv 0), (4, rf 275)]) r_276_1855 (n_276_1855 _) rfl ⟨rfl, by decide, by decide, by decide⟩ rfl rfl ⟨rfl, Nat.le_of_ble_eq_true rfl, Nat.le_of_ble_eq_true rfl⟩ rfl h ?_
    intro o8 s8 h
    rcases h with ⟨y8, q9, rfl, h⟩ | ⟨e8, rfl, h⟩
    · refine .inl ⟨some (iv y8), rfl, ?_⟩
      show wp S 276 1858 [(0, rf 0), (1, rf 2), (2, rf 252), (3, rf 275), (4, iv x4)] [iv y8] s8 Q
      refine i_istore (l' := [(0, rf 0), (1, rf 2), (2, rf 252), (3, rf 275), (4, iv x4), (5, iv y8)]) r_276_1858 (n_276_1858 _) (by decide) rfl ?_
      refine i_aload_n (a := 252) r_276_1860 (n_276_1860 _) rfl ?_
      refine i_aload_n (a := 0) r_276_1861 (n_276_1861 _) rfl ?_
      refine i_iload (x := x4) r_276_1862 (n_276_1862 _) rfl ?_
      refine i_iconst r_276_1864 (n_276_1864 _) ?_
      refine i_iadd r_276_1865 (n_276_1865 _) ?_
      refine i_script hS r_276_1866 (n_276_1866 _) g1.2.2 g1.1 g1.2.1 (fun q10 => ?_)
      refine i_aload_n (a := 0) r_276_1867 (n_276_1867 _) rfl ?_
      refine i_iload (x := x4) r_276_1868 (n_276_1868 _) rfl ?_
      refine i_iconst r_276_1870 (n_276_1870 _) ?_
      refine i_iadd r_276_1871 (n_276_1871 _) ?_
      refine i_script hS r_276_1872 (n_276_1872 _) g3.2.2 g3.1 g3.2.1 (fun q11 => ?_)
      refine i_aload_n (a := 0) r_276_1873 (n_276_1873 _) rfl ?_
      refine i_iload (x := x4) r_276_1874 (n_276_1874 _) rfl ?_
      refine i_iconst r_276_1876 (n_276_1876 _) ?_
      refine i_iadd r_276_1877 (n_276_1877 _) ?_
      refine i_script hS r_276_1878 (n_276_1878 _) g5.2.2 g5.1 g5.2.1 (fun q12 => ?_)
      refine i_if (t := 1886) r_276_1879 (n_276_1879 _) rfl (T_eq q12 ⟨by omega, by omega⟩) (fun c13 => ?_) (fun c13 => ?_)
      · replace h := h.1 c13
        refine i_iconst r_276_1886 (n_276_1886 _) ?_
        refine wp_virt (b := 252) (rest := []) (Ls := [(0, rf 252), (1, iv ((xs (x4 + 1).toNat).toInt)), (2, iv ((xs (x4 + 2).toNat).toInt)), (3, iv 0)]) r_276_1887 (n_276_1887 _) rfl ⟨rfl, rfl, by decide, by decide⟩ rfl rfl lf_252 ⟨rfl, Nat.le_of_ble_eq_true rfl, Nat.le_of_ble_eq_true rfl⟩ rfl h ?_
        intro o14 s14 h
        rcases h with ⟨y14, q15, rfl, h⟩ | ⟨e14, rfl, h⟩
        · refine .inl ⟨some (iv y14), rfl, ?_⟩
          show wp S 276 1890 [(0, rf 0), (1, rf 2), (2, rf 252), (3, rf 275), (4, iv x4), (5, iv y8)] [iv y14] s14 Q
          refine i_istore (l' := [(0, rf 0), (1, rf 2), (2, rf 252), (3, rf 275), (4, iv x4), (5, iv y8), (6, iv y14)]) r_276_1890 (n_276_1890 _) (by decide) rfl ?_
          refine i_aload_n (a := 252) r_276_1892 (n_276_1892 _) rfl ?_
          refine wp_virt (b := 252) (rest := []) (Ls := [(0, rf 252)]) r_276_1893 (n_276_1893 _) rfl ⟨rfl, rfl, by decide, by decide⟩ rfl rfl lf_252 ⟨rfl, Nat.le_of_ble_eq_true rfl, Nat.le_of_ble_eq_true rfl⟩ rfl K_Model_thrown ?_
          rintro _ _ ⟨rfl, rfl⟩
          refine .inl ⟨some (iv (zI s14 252 3)), rfl, ?_⟩
          show wp S 276 1896 [(0, rf 0), (1, rf 2), (2, rf 252), (3, rf 275), (4, iv x4), (5, iv y8), (6, iv y14)] [iv (zI s14 252 3)] s14 Q
          refine wp_rd (a := 252) (j := 3) (fun q17 => ?_)
          refine i_iload (x := y8) r_276_1896 (n_276_1896 _) rfl ?_
          refine i_icmp (t := 1903) r_276_1898 (n_276_1898 _) rfl (T_eq q17 q9) (fun c18 => ?_) (fun c18 => ?_)
          · replace h := h.1 c18
            refine i_iload (x := y8) r_276_1903 (n_276_1903 _) rfl ?_
            refine i_if (t := 1920) r_276_1905 (n_276_1905 _) rfl (T_ne q9 ⟨by omega, by omega⟩) (fun c19 => ?_) (fun c19 => ?_)
            · replace h := h.1 c19
              refine i_goto (t := 2908) r_276_1920 (n_276_1920 _) rfl ?_
              refine i_iinc (x := x4) (l' := [(0, rf 0), (1, rf 2), (2, rf 252), (3, rf 275), (4, iv (x4 + 7)), (5, iv y8), (6, iv y14)]) r_276_2908 (n_276_2908 _) (by decide) rfl rfl ?_
              refine i_goto (t := 23) r_276_2911 (n_276_2911 _) rfl ?_
              exact wp_pr (l' := [(0, rf 0), (1, rf 2), (2, rf 252), (3, rf 275), (4, iv (x4 + 7))]) rfl h
            · replace h := h.2 c19
              refine i_aload_n (a := 275) r_276_1908 (n_276_1908 _) rfl ?_
              refine i_iconst r_276_1909 (n_276_1909 _) ?_
              refine i_laload (a := 275) (j := 0) r_276_1910 (n_276_1910 _) lf_275 ⟨by omega, by omega⟩ (by omega) (by omega) ?_
              refine i_iload (x := y14) r_276_1911 (n_276_1911 _) rfl ?_
              refine i_i2l r_276_1913 (n_276_1913 _) ?_
              refine i_lcmp r_276_1914 (n_276_1914 _) ?_
              refine i_if (t := 1920) r_276_1915 (n_276_1915 _) rfl (T_eq (zcmp_rng _ _) ⟨by omega, by omega⟩) (fun c20 => ?_) (fun c20 => ?_)
              · replace h := h.1 c20
                refine i_goto (t := 2908) r_276_1920 (n_276_1920 _) rfl ?_
                refine i_iinc (x := x4) (l' := [(0, rf 0), (1, rf 2), (2, rf 252), (3, rf 275), (4, iv (x4 + 7)), (5, iv y8), (6, iv y14)]) r_276_2908 (n_276_2908 _) (by decide) rfl rfl ?_
                refine i_goto (t := 23) r_276_2911 (n_276_2911 _) rfl ?_
                exact wp_pr (l' := [(0, rf 0), (1, rf 2), (2, rf 252), (3, rf 275), (4, iv (x4 + 7))]) rfl h
              · replace h := h.2 c20
                refine i_iconst r_276_1918 (n_276_1918 _) ?_
                exact i_zreturn r_276_1919 (n_276_1919 _) rfl (by decide) h
          · replace h := h.2 c18
            refine i_iconst r_276_1901 (n_276_1901 _) ?_
            exact i_zreturn r_276_1902 (n_276_1902 _) rfl (by decide) h
        · skip
          exact h.elim
      · replace h := h.2 c13
        refine i_iconst r_276_1882 (n_276_1882 _) ?_
        refine i_goto (t := 1887) r_276_1883 (n_276_1883 _) rfl ?_
        refine wp_virt (b := 252) (rest := []) (Ls := [(0, rf 252), (1, iv ((xs (x4 + 1).toNat).toInt)), (2, iv ((xs (x4 + 2).toNat).toInt)), (3, iv 1)]) r_276_1887 (n_276_1887 _) rfl ⟨rfl, rfl, by decide, by decide⟩ rfl rfl lf_252 ⟨rfl, Nat.le_of_ble_eq_true rfl, Nat.le_of_ble_eq_true rfl⟩ rfl h ?_
        intro o21 s21 h
        rcases h with ⟨y21, q22, rfl, h⟩ | ⟨e21, rfl, h⟩
        · refine .inl ⟨some (iv y21), rfl, ?_⟩
          show wp S 276 1890 [(0, rf 0), (1, rf 2), (2, rf 252), (3, rf 275), (4, iv x4), (5, iv y8)] [iv y21] s21 Q
          refine i_istore (l' := [(0, rf 0), (1, rf 2), (2, rf 252), (3, rf 275), (4, iv x4), (5, iv y8), (6, iv y21)]) r_276_1890 (n_276_1890 _) (by decide) rfl ?_
          refine i_aload_n (a := 252) r_276_1892 (n_276_1892 _) rfl ?_
          refine wp_virt (b := 252) (rest := []) (Ls := [(0, rf 252)]) r_276_1893 (n_276_1893 _) rfl ⟨rfl, rfl, by decide, by decide⟩ rfl rfl lf_252 ⟨rfl, Nat.le_of_ble_eq_true rfl, Nat.le_of_ble_eq_true rfl⟩ rfl K_Model_thrown ?_
          rintro _ _ ⟨rfl, rfl⟩
          refine .inl ⟨some (iv (zI s21 252 3)), rfl, ?_⟩
          show wp S 276 1896 [(0, rf 0), (1, rf 2), (2, rf 252), (3, rf 275), (4, iv x4), (5, iv y8), (6, iv y21)] [iv (zI s21 252 3)] s21 Q
          refine wp_rd (a := 252) (j := 3) (fun q24 => ?_)
          refine i_iload (x := y8) r_276_1896 (n_276_1896 _) rfl ?_
          refine i_icmp (t := 1903) r_276_1898 (n_276_1898 _) rfl (T_eq q24 q9) (fun c25 => ?_) (fun c25 => ?_)
          · replace h := h.1 c25
            refine i_iload (x := y8) r_276_1903 (n_276_1903 _) rfl ?_
            refine i_if (t := 1920) r_276_1905 (n_276_1905 _) rfl (T_ne q9 ⟨by omega, by omega⟩) (fun c26 => ?_) (fun c26 => ?_)
            · replace h := h.1 c26
              refine i_goto (t := 2908) r_276_1920 (n_276_1920 _) rfl ?_
              refine i_iinc (x := x4) (l' := [(0, rf 0), (1, rf 2), (2, rf 252), (3, rf 275), (4, iv (x4 + 7)), (5, iv y8), (6, iv y21)]) r_276_2908 (n_276_2908 _) (by decide) rfl rfl ?_
              refine i_goto (t := 23) r_276_2911 (n_276_2911 _) rfl ?_
              exact wp_pr (l' := [(0, rf 0), (1, rf 2), (2, rf 252), (3, rf 275), (4, iv (x4 + 7))]) rfl h
            · replace h := h.2 c26
              refine i_aload_n (a := 275) r_276_1908 (n_276_1908 _) rfl ?_
              refine i_iconst r_276_1909 (n_276_1909 _) ?_
              refine i_laload (a := 275) (j := 0) r_276_1910 (n_276_1910 _) lf_275 ⟨by omega, by omega⟩ (by omega) (by omega) ?_
              refine i_iload (x := y21) r_276_1911 (n_276_1911 _) rfl ?_
              refine i_i2l r_276_1913 (n_276_1913 _) ?_
              refine i_lcmp r_276_1914 (n_276_1914 _) ?_
              refine i_if (t := 1920) r_276_1915 (n_276_1915 _) rfl (T_eq (zcmp_rng _ _) ⟨by omega, by omega⟩) (fun c27 => ?_) (fun c27 => ?_)
              · replace h := h.1 c27
                refine i_goto (t := 2908) r_276_1920 (n_276_1920 _) rfl ?_
                refine i_iinc (x := x4) (l' := [(0, rf 0), (1, rf 2), (2, rf 252), (3, rf 275), (4, iv (x4 + 7)), (5, iv y8), (6, iv y21)]) r_276_2908 (n_276_2908 _) (by decide) rfl rfl ?_
                refine i_goto (t := 23) r_276_2911 (n_276_2911 _) rfl ?_
                exact wp_pr (l' := [(0, rf 0), (1, rf 2), (2, rf 252), (3, rf 275), (4, iv (x4 + 7))]) rfl h
              · replace h := h.2 c27
                refine i_iconst r_276_1918 (n_276_1918 _) ?_
                exact i_zreturn r_276_1919 (n_276_1919 _) rfl (by decide) h
          · replace h := h.2 c25
            refine i_iconst r_276_1901 (n_276_1901 _) ?_
            exact i_zreturn r_276_1902 (n_276_1902 _) rfl (by decide) h
        · skip
          exact h.elim
    · skip
      exact h.elim
  · replace h := h.2 c7
    refine i_iconst r_276_1849 (n_276_1849 _) ?_
    refine i_goto (t := 1854) r_276_1850 (n_276_1850 _) rfl ?_
    refine i_aload_n (a := 275) r_276_1854 (n_276_1854 _) rfl ?_
    refine wp_stat (rest := []) (Ls := [(0, rf 2), (1, iv ((xs (x4 + 1).toNat).toInt)), (2, iv ((xs (x4 + 2).toNat).toInt)), (3, iv 1), (4, rf 275)]) r_276_1855 (n_276_1855 _) rfl ⟨rfl, by decide, by decide, by decide⟩ rfl rfl ⟨rfl, Nat.le_of_ble_eq_true rfl, Nat.le_of_ble_eq_true rfl⟩ rfl h ?_
    intro o28 s28 h
    rcases h with ⟨y28, q29, rfl, h⟩ | ⟨e28, rfl, h⟩
    · refine .inl ⟨some (iv y28), rfl, ?_⟩
      show wp S 276 1858 [(0, rf 0), (1, rf 2), (2, rf 252), (3, rf 275), (4, iv x4)] [iv y28] s28 Q
      refine i_istore (l' := [(0, rf 0), (1, rf 2), (2, rf 252), (3, rf 275), (4, iv x4), (5, iv y28)]) r_276_1858 (n_276_1858 _) (by decide) rfl ?_
      refine i_aload_n (a := 252) r_276_1860 (n_276_1860 _) rfl ?_
      refine i_aload_n (a := 0) r_276_1861 (n_276_1861 _) rfl ?_
      refine i_iload (x := x4) r_276_1862 (n_276_1862 _) rfl ?_
      refine i_iconst r_276_1864 (n_276_1864 _) ?_
      refine i_iadd r_276_1865 (n_276_1865 _) ?_
      refine i_script hS r_276_1866 (n_276_1866 _) g1.2.2 g1.1 g1.2.1 (fun q30 => ?_)
      refine i_aload_n (a := 0) r_276_1867 (n_276_1867 _) rfl ?_
      refine i_iload (x := x4) r_276_1868 (n_276_1868 _) rfl ?_
      refine i_iconst r_276_1870 (n_276_1870 _) ?_
      refine i_iadd r_276_1871 (n_276_1871 _) ?_
      refine i_script hS r_276_1872 (n_276_1872 _) g3.2.2 g3.1 g3.2.1 (fun q31 => ?_)
      refine i_aload_n (a := 0) r_276_1873 (n_276_1873 _) rfl ?_
      refine i_iload (x := x4) r_276_1874 (n_276_1874 _) rfl ?_
      refine i_iconst r_276_1876 (n_276_1876 _) ?_
      refine i_iadd r_276_1877 (n_276_1877 _) ?_
      refine i_script hS r_276_1878 (n_276_1878 _) g5.2.2 g5.1 g5.2.1 (fun q32 => ?_)
      refine i_if (t := 1886) r_276_1879 (n_276_1879 _) rfl (T_eq q32 ⟨by omega, by omega⟩) (fun c33 => ?_) (fun c33 => ?_)
      · replace h := h.1 c33
        refine i_iconst r_276_1886 (n_276_1886 _) ?_
        refine wp_virt (b := 252) (rest := []) (Ls := [(0, rf 252), (1, iv ((xs (x4 + 1).toNat).toInt)), (2, iv ((xs (x4 + 2).toNat).toInt)), (3, iv 0)]) r_276_1887 (n_276_1887 _) rfl ⟨rfl, rfl, by decide, by decide⟩ rfl rfl lf_252 ⟨rfl, Nat.le_of_ble_eq_true rfl, Nat.le_of_ble_eq_true rfl⟩ rfl h ?_
        intro o34 s34 h
        rcases h with ⟨y34, q35, rfl, h⟩ | ⟨e34, rfl, h⟩
        · refine .inl ⟨some (iv y34), rfl, ?_⟩
          show wp S 276 1890 [(0, rf 0), (1, rf 2), (2, rf 252), (3, rf 275), (4, iv x4), (5, iv y28)] [iv y34] s34 Q
          refine i_istore (l' := [(0, rf 0), (1, rf 2), (2, rf 252), (3, rf 275), (4, iv x4), (5, iv y28), (6, iv y34)]) r_276_1890 (n_276_1890 _) (by decide) rfl ?_
          refine i_aload_n (a := 252) r_276_1892 (n_276_1892 _) rfl ?_
          refine wp_virt (b := 252) (rest := []) (Ls := [(0, rf 252)]) r_276_1893 (n_276_1893 _) rfl ⟨rfl, rfl, by decide, by decide⟩ rfl rfl lf_252 ⟨rfl, Nat.le_of_ble_eq_true rfl, Nat.le_of_ble_eq_true rfl⟩ rfl K_Model_thrown ?_
          rintro _ _ ⟨rfl, rfl⟩
          refine .inl ⟨some (iv (zI s34 252 3)), rfl, ?_⟩
          show wp S 276 1896 [(0, rf 0), (1, rf 2), (2, rf 252), (3, rf 275), (4, iv x4), (5, iv y28), (6, iv y34)] [iv (zI s34 252 3)] s34 Q
          refine wp_rd (a := 252) (j := 3) (fun q37 => ?_)
          refine i_iload (x := y28) r_276_1896 (n_276_1896 _) rfl ?_
          refine i_icmp (t := 1903) r_276_1898 (n_276_1898 _) rfl (T_eq q37 q29) (fun c38 => ?_) (fun c38 => ?_)
          · replace h := h.1 c38
            refine i_iload (x := y28) r_276_1903 (n_276_1903 _) rfl ?_
            refine i_if (t := 1920) r_276_1905 (n_276_1905 _) rfl (T_ne q29 ⟨by omega, by omega⟩) (fun c39 => ?_) (fun c39 => ?_)
            · replace h := h.1 c39
              refine i_goto (t := 2908) r_276_1920 (n_276_1920 _) rfl ?_
              refine i_iinc (x := x4) (l' := [(0, rf 0), (1, rf 2), (2, rf 252), (3, rf 275), (4, iv (x4 + 7)), (5, iv y28), (6, iv y34)]) r_276_2908 (n_276_2908 _) (by decide) rfl rfl ?_
              refine i_goto (t := 23) r_276_2911 (n_276_2911 _) rfl ?_
              exact wp_pr (l' := [(0, rf 0), (1, rf 2), (2, rf 252), (3, rf 275), (4, iv (x4 + 7))]) rfl h
            · replace h := h.2 c39
              refine i_aload_n (a := 275) r_276_1908 (n_276_1908 _) rfl ?_
              refine i_iconst r_276_1909 (n_276_1909 _) ?_
              refine i_laload (a := 275) (j := 0) r_276_1910 (n_276_1910 _) lf_275 ⟨by omega, by omega⟩ (by omega) (by omega) ?_
              refine i_iload (x := y34) r_276_1911 (n_276_1911 _) rfl ?_
              refine i_i2l r_276_1913 (n_276_1913 _) ?_
              refine i_lcmp r_276_1914 (n_276_1914 _) ?_
              refine i_if (t := 1920) r_276_1915 (n_276_1915 _) rfl (T_eq (zcmp_rng _ _) ⟨by omega, by omega⟩) (fun c40 => ?_) (fun c40 => ?_)
              · replace h := h.1 c40
                refine i_goto (t := 2908) r_276_1920 (n_276_1920 _) rfl ?_
                refine i_iinc (x := x4) (l' := [(0, rf 0), (1, rf 2), (2, rf 252), (3, rf 275), (4, iv (x4 + 7)), (5, iv y28), (6, iv y34)]) r_276_2908 (n_276_2908 _) (by decide) rfl rfl ?_
                refine i_goto (t := 23) r_276_2911 (n_276_2911 _) rfl ?_
                exact wp_pr (l' := [(0, rf 0), (1, rf 2), (2, rf 252), (3, rf 275), (4, iv (x4 + 7))]) rfl h
              · replace h := h.2 c40
                refine i_iconst r_276_1918 (n_276_1918 _) ?_
                exact i_zreturn r_276_1919 (n_276_1919 _) rfl (by decide) h
          · replace h := h.2 c38
            refine i_iconst r_276_1901 (n_276_1901 _) ?_
            exact i_zreturn r_276_1902 (n_276_1902 _) rfl (by decide) h
        · skip
          exact h.elim
      · replace h := h.2 c33
        refine i_iconst r_276_1882 (n_276_1882 _) ?_
        refine i_goto (t := 1887) r_276_1883 (n_276_1883 _) rfl ?_
        refine wp_virt (b := 252) (rest := []) (Ls := [(0, rf 252), (1, iv ((xs (x4 + 1).toNat).toInt)), (2, iv ((xs (x4 + 2).toNat).toInt)), (3, iv 1)]) r_276_1887 (n_276_1887 _) rfl ⟨rfl, rfl, by decide, by decide⟩ rfl rfl lf_252 ⟨rfl, Nat.le_of_ble_eq_true rfl, Nat.le_of_ble_eq_true rfl⟩ rfl h ?_
        intro o41 s41 h
        rcases h with ⟨y41, q42, rfl, h⟩ | ⟨e41, rfl, h⟩
        · refine .inl ⟨some (iv y41), rfl, ?_⟩
          show wp S 276 1890 [(0, rf 0), (1, rf 2), (2, rf 252), (3, rf 275), (4, iv x4), (5, iv y28)] [iv y41] s41 Q
          refine i_istore (l' := [(0, rf 0), (1, rf 2), (2, rf 252), (3, rf 275), (4, iv x4), (5, iv y28), (6, iv y41)]) r_276_1890 (n_276_1890 _) (by decide) rfl ?_
          refine i_aload_n (a := 252) r_276_1892 (n_276_1892 _) rfl ?_
          refine wp_virt (b := 252) (rest := []) (Ls := [(0, rf 252)]) r_276_1893 (n_276_1893 _) rfl ⟨rfl, rfl, by decide, by decide⟩ rfl rfl lf_252 ⟨rfl, Nat.le_of_ble_eq_true rfl, Nat.le_of_ble_eq_true rfl⟩ rfl K_Model_thrown ?_
          rintro _ _ ⟨rfl, rfl⟩
          refine .inl ⟨some (iv (zI s41 252 3)), rfl, ?_⟩
          show wp S 276 1896 [(0, rf 0), (1, rf 2), (2, rf 252), (3, rf 275), (4, iv x4), (5, iv y28), (6, iv y41)] [iv (zI s41 252 3)] s41 Q
          refine wp_rd (a := 252) (j := 3) (fun q44 => ?_)
          refine i_iload (x := y28) r_276_1896 (n_276_1896 _) rfl ?_
          refine i_icmp (t := 1903) r_276_1898 (n_276_1898 _) rfl (T_eq q44 q29) (fun c45 => ?_) (fun c45 => ?_)
          · replace h := h.1 c45
            refine i_iload (x := y28) r_276_1903 (n_276_1903 _) rfl ?_
            refine i_if (t := 1920) r_276_1905 (n_276_1905 _) rfl (T_ne q29 ⟨by omega, by omega⟩) (fun c46 => ?_) (fun c46 => ?_)
            · replace h := h.1 c46
              refine i_goto (t := 2908) r_276_1920 (n_276_1920 _) rfl ?_
              refine i_iinc (x := x4) (l' := [(0, rf 0), (1, rf 2), (2, rf 252), (3, rf 275), (4, iv (x4 + 7)), (5, iv y28), (6, iv y41)]) r_276_2908 (n_276_2908 _) (by decide) rfl rfl ?_
              refine i_goto (t := 23) r_276_2911 (n_276_2911 _) rfl ?_
              exact wp_pr (l' := [(0, rf 0), (1, rf 2), (2, rf 252), (3, rf 275), (4, iv (x4 + 7))]) rfl h
            · replace h := h.2 c46
              refine i_aload_n (a := 275) r_276_1908 (n_276_1908 _) rfl ?_
              refine i_iconst r_276_1909 (n_276_1909 _) ?_
              refine i_laload (a := 275) (j := 0) r_276_1910 (n_276_1910 _) lf_275 ⟨by omega, by omega⟩ (by omega) (by omega) ?_
              refine i_iload (x := y41) r_276_1911 (n_276_1911 _) rfl ?_
              refine i_i2l r_276_1913 (n_276_1913 _) ?_
              refine i_lcmp r_276_1914 (n_276_1914 _) ?_
              refine i_if (t := 1920) r_276_1915 (n_276_1915 _) rfl (T_eq (zcmp_rng _ _) ⟨by omega, by omega⟩) (fun c47 => ?_) (fun c47 => ?_)
              · replace h := h.1 c47
                refine i_goto (t := 2908) r_276_1920 (n_276_1920 _) rfl ?_
                refine i_iinc (x := x4) (l' := [(0, rf 0), (1, rf 2), (2, rf 252), (3, rf 275), (4, iv (x4 + 7)), (5, iv y28), (6, iv y41)]) r_276_2908 (n_276_2908 _) (by decide) rfl rfl ?_
                refine i_goto (t := 23) r_276_2911 (n_276_2911 _) rfl ?_
                exact wp_pr (l' := [(0, rf 0), (1, rf 2), (2, rf 252), (3, rf 275), (4, iv (x4 + 7))]) rfl h
              · replace h := h.2 c47
                refine i_iconst r_276_1918 (n_276_1918 _) ?_
                exact i_zreturn r_276_1919 (n_276_1919 _) rfl (by decide) h
          · replace h := h.2 c45
            refine i_iconst r_276_1901 (n_276_1901 _) ?_
            exact i_zreturn r_276_1902 (n_276_1902 _) rfl (by decide) h
        · skip
          exact h.elim
    · skip
      exact h.elim
theorem v_Law_law_1923 {S : Option (Nat × (Nat → Int32))} {L : Nat} {xs : Nat → Int32} (hS : S = some (L, xs)) {s : zSt} {Q : Option Value ⊕ Nat → zSt → Prop} {x4 : Int} 
    (h : (0 ≤ (x4 + 1) ∧ (x4 + 1) < (L : Int) ∧ rng (x4 + 1)) ∧ ((0 ≤ (x4 + 2) ∧ (x4 + 2) < (L : Int) ∧ rng (x4 + 2)) ∧ ((0 ≤ (x4 + 3) ∧ (x4 + 3) < (L : Int) ∧ rng (x4 + 3)) ∧ ((0 ≤ (x4 + 4) ∧ (x4 + 4) < (L : Int) ∧ rng (x4 + 4)) ∧ ((0 ≤ (x4 + 5) ∧ (x4 + 5) < (L : Int) ∧ rng (x4 + 5)) ∧ ((0 ≤ (x4 + 6) ∧ (x4 + 6) < (L : Int) ∧ rng (x4 + 6)) ∧ (wp S 149 0 [(0, rf 2), (1, iv ((xs (x4 + 1).toNat).toInt)), (2, iv ((xs (x4 + 2).toNat).toInt)), (3, .long ((zshlL (zi2l ((xs (x4 + 3).toNat).toInt)) 32) ||| ((zi2l ((xs (x4 + 4).toNat).toInt)) &&& 4294967295))), (5, .long ((zshlL (zi2l ((xs (x4 + 5).toNat).toInt)) 32) ||| ((zi2l ((xs (x4 + 6).toNat).toInt)) &&& 4294967295))), (7, rf 275)] [] s (fun o13 s13 => zkI (fun y13 => wp S 263 0 [(0, rf 252), (1, iv ((xs (x4 + 1).toNat).toInt)), (2, iv ((xs (x4 + 2).toNat).toInt)), (3, .long ((zshlL (zi2l ((xs (x4 + 3).toNat).toInt)) 32) ||| ((zi2l ((xs (x4 + 4).toNat).toInt)) &&& 4294967295))), (5, .long ((zshlL (zi2l ((xs (x4 + 5).toNat).toInt)) 32) ||| ((zi2l ((xs (x4 + 6).toNat).toInt)) &&& 4294967295)))] [] s13 (fun o21 s21 => zkI (fun y21 => ((zI s21 252 3) = y13 → (y13 ≠ 0 → wp S 276 23 [(0, rf 0), (1, rf 2), (2, rf 252), (3, rf 275), (4, iv (x4 + 7))] [] s21 Q) ∧ (y13 = 0 → ((zcmp (zL s21 275 0) (zi2l y21)) = 0 → wp S 276 23 [(0, rf 0), (1, rf 2), (2, rf 252), (3, rf 275), (4, iv (x4 + 7))] [] s21 Q) ∧ ((zcmp (zL s21 275 0) (zi2l y21)) ≠ 0 → Q (rI 0) s21))) ∧ ((zI s21 252 3) ≠ y13 → Q (rI 0) s21)) (fun e21 => False) o21)) (fun e13 => False) o13)))))))) :
    wp S 276 1923 [(0, rf 0), (1, rf 2), (2, rf 252), (3, rf 275), (4, iv x4)] [] s Q := by
  refine i_aload_n (a := 2) r_276_1923 rfl rfl ?_
  refine i_aload_n (a := 0) r_276_1924 (n_276_1924 _) rfl ?_
  refine i_iload (x := x4) r_276_1925 (n_276_1925 _) rfl ?_
  refine i_iconst r_276_1927 (n_276_1927 _) ?_
  refine i_iadd r_276_1928 (n_276_1928 _) ?_
  obtain ⟨g1, h⟩ := h
  refine i_script hS r_276_1929 (n_276_1929 _) g1.2.2 g1.1 g1.2.1 (fun q2 => ?_)
  refine i_aload_n (a := 0) r_276_1930 (n_276_1930 _) rfl ?_
  refine i_iload (x := x4) r_276_1931 (n_276_1931 _) rfl ?_
  refine i_iconst r_276_1933 (n_276_1933 _) ?_
  refine i_iadd r_276_1934 (n_276_1934 _) ?_
  obtain ⟨g3, h⟩ := h
  refine i_script hS r_276_1935 (n_276_1935 _) g3.2.2 g3.1 g3.2.1 (fun q4 => ?_)
  refine i_aload_n (a := 0) r_276_1936 (n_276_1936 _) rfl ?_
  refine i_iload (x := x4) r_276_1937 (n_276_1937 _) rfl ?_
  refine i_iconst r_276_1939 (n_276_1939 _) ?_
  refine i_iadd r_276_1940 (n_276_1940 _) ?_
  obtain ⟨g5, h⟩ := h
  refine i_script hS r_276_1941 (n_276_1941 _) g5.2.2 g5.1 g5.2.1 (fun q6 => ?_)
  refine i_i2l r_276_1942 (n_276_1942 _) ?_
  refine i_bipush r_276_1943 (n_276_1943 _) rfl ?_
  refine i_lshl r_276_1945 (n_276_1945 _) ?_
  refine i_aload_n (a := 0) r_276_1946 (n_276_1946 _) rfl ?_
  refine i_iload (x := x4) r_276_1947 (n_276_1947 _) rfl ?_
  refine i_iconst r_276_1949 (n_276_1949 _) ?_
  refine i_iadd r_276_1950 (n_276_1950 _) ?_
  obtain ⟨g7, h⟩ := h
  refine i_script hS r_276_1951 (n_276_1951 _) g7.2.2 g7.1 g7.2.1 (fun q8 => ?_)
  refine i_i2l r_276_1952 (n_276_1952 _) ?_
  refine i_ldc2 r_276_1953 (n_276_1953 _) rfl ?_
  refine i_land r_276_1956 (n_276_1956 _) ?_
  refine i_lor r_276_1957 (n_276_1957 _) ?_
  refine i_aload_n (a := 0) r_276_1958 (n_276_1958 _) rfl ?_
  refine i_iload (x := x4) r_276_1959 (n_276_1959 _) rfl ?_
  refine i_iconst r_276_1961 (n_276_1961 _) ?_
  refine i_iadd r_276_1962 (n_276_1962 _) ?_
  obtain ⟨g9, h⟩ := h
  refine i_script hS r_276_1963 (n_276_1963 _) g9.2.2 g9.1 g9.2.1 (fun q10 => ?_)
  refine i_i2l r_276_1964 (n_276_1964 _) ?_
  refine i_bipush r_276_1965 (n_276_1965 _) rfl ?_
  refine i_lshl r_276_1967 (n_276_1967 _) ?_
  refine i_aload_n (a := 0) r_276_1968 (n_276_1968 _) rfl ?_
  refine i_iload (x := x4) r_276_1969 (n_276_1969 _) rfl ?_
  refine i_bipush r_276_1971 (n_276_1971 _) rfl ?_
  refine i_iadd r_276_1973 (n_276_1973 _) ?_
  obtain ⟨g11, h⟩ := h
  refine i_script hS r_276_1974 (n_276_1974 _) g11.2.2 g11.1 g11.2.1 (fun q12 => ?_)
  refine i_i2l r_276_1975 (n_276_1975 _) ?_
  refine i_ldc2 r_276_1976 (n_276_1976 _) rfl ?_
  refine i_land r_276_1979 (n_276_1979 _) ?_
  refine i_lor r_276_1980 (n_276_1980 _) ?_
  refine i_aload_n (a := 275) r_276_1981 (n_276_1981 _) rfl ?_
  refine wp_stat (rest := []) (Ls := [(0, rf 2), (1, iv ((xs (x4 + 1).toNat).toInt)), (2, iv ((xs (x4 + 2).toNat).toInt)), (3, .long ((zshlL (zi2l ((xs (x4 + 3).toNat).toInt)) 32) ||| ((zi2l ((xs (x4 + 4).toNat).toInt)) &&& 4294967295))), (5, .long ((zshlL (zi2l ((xs (x4 + 5).toNat).toInt)) 32) ||| ((zi2l ((xs (x4 + 6).toNat).toInt)) &&& 4294967295))), (7, rf 275)]) r_276_1982 (n_276_1982 _) rfl ⟨rfl, by decide, by decide, by decide⟩ rfl rfl ⟨rfl, Nat.le_of_ble_eq_true rfl, Nat.le_of_ble_eq_true rfl⟩ rfl h ?_
  intro o13 s13 h
  rcases h with ⟨y13, q14, rfl, h⟩ | ⟨e13, rfl, h⟩
  · refine .inl ⟨some (iv y13), rfl, ?_⟩
    show wp S 276 1985 [(0, rf 0), (1, rf 2), (2, rf 252), (3, rf 275), (4, iv x4)] [iv y13] s13 Q
    refine i_istore (l' := [(0, rf 0), (1, rf 2), (2, rf 252), (3, rf 275), (4, iv x4), (5, iv y13)]) r_276_1985 (n_276_1985 _) (by decide) rfl ?_
    refine i_aload_n (a := 252) r_276_1987 (n_276_1987 _) rfl ?_
    refine i_aload_n (a := 0) r_276_1988 (n_276_1988 _) rfl ?_
    refine i_iload (x := x4) r_276_1989 (n_276_1989 _) rfl ?_
    refine i_iconst r_276_1991 (n_276_1991 _) ?_
    refine i_iadd r_276_1992 (n_276_1992 _) ?_
    refine i_script hS r_276_1993 (n_276_1993 _) g1.2.2 g1.1 g1.2.1 (fun q15 => ?_)
    refine i_aload_n (a := 0) r_276_1994 (n_276_1994 _) rfl ?_
    refine i_iload (x := x4) r_276_1995 (n_276_1995 _) rfl ?_
    refine i_iconst r_276_1997 (n_276_1997 _) ?_
    refine i_iadd r_276_1998 (n_276_1998 _) ?_
    refine i_script hS r_276_1999 (n_276_1999 _) g3.2.2 g3.1 g3.2.1 (fun q16 => ?_)
    refine i_aload_n (a := 0) r_276_2000 (n_276_2000 _) rfl ?_
    refine i_iload (x := x4) r_276_2001 (n_276_2001 _) rfl ?_
    refine i_iconst r_276_2003 (n_276_2003 _) ?_
    refine i_iadd r_276_2004 (n_276_2004 _) ?_
    refine i_script hS r_276_2005 (n_276_2005 _) g5.2.2 g5.1 g5.2.1 (fun q17 => ?_)
    refine i_i2l r_276_2006 (n_276_2006 _) ?_
    refine i_bipush r_276_2007 (n_276_2007 _) rfl ?_
    refine i_lshl r_276_2009 (n_276_2009 _) ?_
    refine i_aload_n (a := 0) r_276_2010 (n_276_2010 _) rfl ?_
    refine i_iload (x := x4) r_276_2011 (n_276_2011 _) rfl ?_
    refine i_iconst r_276_2013 (n_276_2013 _) ?_
    refine i_iadd r_276_2014 (n_276_2014 _) ?_
    refine i_script hS r_276_2015 (n_276_2015 _) g7.2.2 g7.1 g7.2.1 (fun q18 => ?_)
    refine i_i2l r_276_2016 (n_276_2016 _) ?_
    refine i_ldc2 r_276_2017 (n_276_2017 _) rfl ?_
    refine i_land r_276_2020 (n_276_2020 _) ?_
    refine i_lor r_276_2021 (n_276_2021 _) ?_
    refine i_aload_n (a := 0) r_276_2022 (n_276_2022 _) rfl ?_
    refine i_iload (x := x4) r_276_2023 (n_276_2023 _) rfl ?_
    refine i_iconst r_276_2025 (n_276_2025 _) ?_
    refine i_iadd r_276_2026 (n_276_2026 _) ?_
    refine i_script hS r_276_2027 (n_276_2027 _) g9.2.2 g9.1 g9.2.1 (fun q19 => ?_)
    refine i_i2l r_276_2028 (n_276_2028 _) ?_
    refine i_bipush r_276_2029 (n_276_2029 _) rfl ?_
    refine i_lshl r_276_2031 (n_276_2031 _) ?_
    refine i_aload_n (a := 0) r_276_2032 (n_276_2032 _) rfl ?_
    refine i_iload (x := x4) r_276_2033 (n_276_2033 _) rfl ?_
    refine i_bipush r_276_2035 (n_276_2035 _) rfl ?_
    refine i_iadd r_276_2037 (n_276_2037 _) ?_
    refine i_script hS r_276_2038 (n_276_2038 _) g11.2.2 g11.1 g11.2.1 (fun q20 => ?_)
    refine i_i2l r_276_2039 (n_276_2039 _) ?_
    refine i_ldc2 r_276_2040 (n_276_2040 _) rfl ?_
    refine i_land r_276_2043 (n_276_2043 _) ?_
    refine i_lor r_276_2044 (n_276_2044 _) ?_
    refine wp_virt (b := 252) (rest := []) (Ls := [(0, rf 252), (1, iv ((xs (x4 + 1).toNat).toInt)), (2, iv ((xs (x4 + 2).toNat).toInt)), (3, .long ((zshlL (zi2l ((xs (x4 + 3).toNat).toInt)) 32) ||| ((zi2l ((xs (x4 + 4).toNat).toInt)) &&& 4294967295))), (5, .long ((zshlL (zi2l ((xs (x4 + 5).toNat).toInt)) 32) ||| ((zi2l ((xs (x4 + 6).toNat).toInt)) &&& 4294967295)))]) r_276_2045 (n_276_2045 _) rfl ⟨rfl, rfl, by decide, by decide⟩ rfl rfl lf_252 ⟨rfl, Nat.le_of_ble_eq_true rfl, Nat.le_of_ble_eq_true rfl⟩ rfl h ?_
    intro o21 s21 h
    rcases h with ⟨y21, q22, rfl, h⟩ | ⟨e21, rfl, h⟩
    · refine .inl ⟨some (iv y21), rfl, ?_⟩
      show wp S 276 2048 [(0, rf 0), (1, rf 2), (2, rf 252), (3, rf 275), (4, iv x4), (5, iv y13)] [iv y21] s21 Q
      refine i_istore (l' := [(0, rf 0), (1, rf 2), (2, rf 252), (3, rf 275), (4, iv x4), (5, iv y13), (6, iv y21)]) r_276_2048 (n_276_2048 _) (by decide) rfl ?_
      refine i_aload_n (a := 252) r_276_2050 (n_276_2050 _) rfl ?_
      refine wp_virt (b := 252) (rest := []) (Ls := [(0, rf 252)]) r_276_2051 (n_276_2051 _) rfl ⟨rfl, rfl, by decide, by decide⟩ rfl rfl lf_252 ⟨rfl, Nat.le_of_ble_eq_true rfl, Nat.le_of_ble_eq_true rfl⟩ rfl K_Model_thrown ?_
      rintro _ _ ⟨rfl, rfl⟩
      refine .inl ⟨some (iv (zI s21 252 3)), rfl, ?_⟩
      show wp S 276 2054 [(0, rf 0), (1, rf 2), (2, rf 252), (3, rf 275), (4, iv x4), (5, iv y13), (6, iv y21)] [iv (zI s21 252 3)] s21 Q
      refine wp_rd (a := 252) (j := 3) (fun q24 => ?_)
      refine i_iload (x := y13) r_276_2054 (n_276_2054 _) rfl ?_
      refine i_icmp (t := 2061) r_276_2056 (n_276_2056 _) rfl (T_eq q24 q14) (fun c25 => ?_) (fun c25 => ?_)
      · replace h := h.1 c25
        refine i_iload (x := y13) r_276_2061 (n_276_2061 _) rfl ?_
        refine i_if (t := 2078) r_276_2063 (n_276_2063 _) rfl (T_ne q14 ⟨by omega, by omega⟩) (fun c26 => ?_) (fun c26 => ?_)
        · replace h := h.1 c26
          refine i_goto (t := 2908) r_276_2078 (n_276_2078 _) rfl ?_
          refine i_iinc (x := x4) (l' := [(0, rf 0), (1, rf 2), (2, rf 252), (3, rf 275), (4, iv (x4 + 7)), (5, iv y13), (6, iv y21)]) r_276_2908 (n_276_2908 _) (by decide) rfl rfl ?_
          refine i_goto (t := 23) r_276_2911 (n_276_2911 _) rfl ?_
          exact wp_pr (l' := [(0, rf 0), (1, rf 2), (2, rf 252), (3, rf 275), (4, iv (x4 + 7))]) rfl h
        · replace h := h.2 c26
          refine i_aload_n (a := 275) r_276_2066 (n_276_2066 _) rfl ?_
          refine i_iconst r_276_2067 (n_276_2067 _) ?_
          refine i_laload (a := 275) (j := 0) r_276_2068 (n_276_2068 _) lf_275 ⟨by omega, by omega⟩ (by omega) (by omega) ?_
          refine i_iload (x := y21) r_276_2069 (n_276_2069 _) rfl ?_
          refine i_i2l r_276_2071 (n_276_2071 _) ?_
          refine i_lcmp r_276_2072 (n_276_2072 _) ?_
          refine i_if (t := 2078) r_276_2073 (n_276_2073 _) rfl (T_eq (zcmp_rng _ _) ⟨by omega, by omega⟩) (fun c27 => ?_) (fun c27 => ?_)
          · replace h := h.1 c27
            refine i_goto (t := 2908) r_276_2078 (n_276_2078 _) rfl ?_
            refine i_iinc (x := x4) (l' := [(0, rf 0), (1, rf 2), (2, rf 252), (3, rf 275), (4, iv (x4 + 7)), (5, iv y13), (6, iv y21)]) r_276_2908 (n_276_2908 _) (by decide) rfl rfl ?_
            refine i_goto (t := 23) r_276_2911 (n_276_2911 _) rfl ?_
            exact wp_pr (l' := [(0, rf 0), (1, rf 2), (2, rf 252), (3, rf 275), (4, iv (x4 + 7))]) rfl h
          · replace h := h.2 c27
            refine i_iconst r_276_2076 (n_276_2076 _) ?_
            exact i_zreturn r_276_2077 (n_276_2077 _) rfl (by decide) h
      · replace h := h.2 c25
        refine i_iconst r_276_2059 (n_276_2059 _) ?_
        exact i_zreturn r_276_2060 (n_276_2060 _) rfl (by decide) h
    · skip
      exact h.elim
  · skip
    exact h.elim
theorem v_Law_law_2081 {S : Option (Nat × (Nat → Int32))} {L : Nat} {xs : Nat → Int32} (hS : S = some (L, xs)) {s : zSt} {Q : Option Value ⊕ Nat → zSt → Prop} {x4 : Int} 
    (h : (0 ≤ (x4 + 1) ∧ (x4 + 1) < (L : Int) ∧ rng (x4 + 1)) ∧ ((0 ≤ (x4 + 2) ∧ (x4 + 2) < (L : Int) ∧ rng (x4 + 2)) ∧ ((0 ≤ (x4 + 3) ∧ (x4 + 3) < (L : Int) ∧ rng (x4 + 3)) ∧ (wp S 151 0 [(0, rf 2), (1, iv ((xs (x4 + 1).toNat).toInt)), (2, iv ((xs (x4 + 2).toNat).toInt)), (3, iv ((xs (x4 + 3).toNat).toInt)), (4, rf 275)] [] s (fun o7 s7 => zkI (fun y7 => wp S 264 0 [(0, rf 252), (1, iv ((xs (x4 + 1).toNat).toInt)), (2, iv ((xs (x4 + 2).toNat).toInt)), (3, iv ((xs (x4 + 3).toNat).toInt))] [] s7 (fun o12 s12 => zkI (fun y12 => ((zI s12 252 3) = y7 → (y7 ≠ 0 → wp S 276 23 [(0, rf 0), (1, rf 2), (2, rf 252), (3, rf 275), (4, iv (x4 + 7))] [] s12 Q) ∧ (y7 = 0 → ((zcmp (zL s12 275 0) (zi2l y12)) = 0 → wp S 276 23 [(0, rf 0), (1, rf 2), (2, rf 252), (3, rf 275), (4, iv (x4 + 7))] [] s12 Q) ∧ ((zcmp (zL s12 275 0) (zi2l y12)) ≠ 0 → Q (rI 0) s12))) ∧ ((zI s12 252 3) ≠ y7 → Q (rI 0) s12)) (fun e12 => False) o12)) (fun e7 => False) o7))))) :
    wp S 276 2081 [(0, rf 0), (1, rf 2), (2, rf 252), (3, rf 275), (4, iv x4)] [] s Q := by
  refine i_aload_n (a := 2) r_276_2081 rfl rfl ?_
  refine i_aload_n (a := 0) r_276_2082 (n_276_2082 _) rfl ?_
  refine i_iload (x := x4) r_276_2083 (n_276_2083 _) rfl ?_
  refine i_iconst r_276_2085 (n_276_2085 _) ?_
  refine i_iadd r_276_2086 (n_276_2086 _) ?_
  obtain ⟨g1, h⟩ := h
  refine i_script hS r_276_2087 (n_276_2087 _) g1.2.2 g1.1 g1.2.1 (fun q2 => ?_)
  refine i_aload_n (a := 0) r_276_2088 (n_276_2088 _) rfl ?_
  refine i_iload (x := x4) r_276_2089 (n_276_2089 _) rfl ?_
  refine i_iconst r_276_2091 (n_276_2091 _) ?_
  refine i_iadd r_276_2092 (n_276_2092 _) ?_
  obtain ⟨g3, h⟩ := h
  refine i_script hS r_276_2093 (n_276_2093 _) g3.2.2 g3.1 g3.2.1 (fun q4 => ?_)
  refine i_aload_n (a := 0) r_276_2094 (n_276_2094 _) rfl ?_
  refine i_iload (x := x4) r_276_2095 (n_276_2095 _) rfl ?_
  refine i_iconst r_276_2097 (n_276_2097 _) ?_
  refine i_iadd r_276_2098 (n_276_2098 _) ?_
  obtain ⟨g5, h⟩ := h
  refine i_script hS r_276_2099 (n_276_2099 _) g5.2.2 g5.1 g5.2.1 (fun q6 => ?_)
  refine i_aload_n (a := 275) r_276_2100 (n_276_2100 _) rfl ?_
  refine wp_stat (rest := []) (Ls := [(0, rf 2), (1, iv ((xs (x4 + 1).toNat).toInt)), (2, iv ((xs (x4 + 2).toNat).toInt)), (3, iv ((xs (x4 + 3).toNat).toInt)), (4, rf 275)]) r_276_2101 (n_276_2101 _) rfl ⟨rfl, by decide, by decide, by decide⟩ rfl rfl ⟨rfl, Nat.le_of_ble_eq_true rfl, Nat.le_of_ble_eq_true rfl⟩ rfl h ?_
  intro o7 s7 h
  rcases h with ⟨y7, q8, rfl, h⟩ | ⟨e7, rfl, h⟩
  · refine .inl ⟨some (iv y7), rfl, ?_⟩
    show wp S 276 2104 [(0, rf 0), (1, rf 2), (2, rf 252), (3, rf 275), (4, iv x4)] [iv y7] s7 Q
    refine i_istore (l' := [(0, rf 0), (1, rf 2), (2, rf 252), (3, rf 275), (4, iv x4), (5, iv y7)]) r_276_2104 (n_276_2104 _) (by decide) rfl ?_
    refine i_aload_n (a := 252) r_276_2106 (n_276_2106 _) rfl ?_
    refine i_aload_n (a := 0) r_276_2107 (n_276_2107 _) rfl ?_
    refine i_iload (x := x4) r_276_2108 (n_276_2108 _) rfl ?_
    refine i_iconst r_276_2110 (n_276_2110 _) ?_
    refine i_iadd r_276_2111 (n_276_2111 _) ?_
    refine i_script hS r_276_2112 (n_276_2112 _) g1.2.2 g1.1 g1.2.1 (fun q9 => ?_)
    refine i_aload_n (a := 0) r_276_2113 (n_276_2113 _) rfl ?_
    refine i_iload (x := x4) r_276_2114 (n_276_2114 _) rfl ?_
    refine i_iconst r_276_2116 (n_276_2116 _) ?_
    refine i_iadd r_276_2117 (n_276_2117 _) ?_
    refine i_script hS r_276_2118 (n_276_2118 _) g3.2.2 g3.1 g3.2.1 (fun q10 => ?_)
    refine i_aload_n (a := 0) r_276_2119 (n_276_2119 _) rfl ?_
    refine i_iload (x := x4) r_276_2120 (n_276_2120 _) rfl ?_
    refine i_iconst r_276_2122 (n_276_2122 _) ?_
    refine i_iadd r_276_2123 (n_276_2123 _) ?_
    refine i_script hS r_276_2124 (n_276_2124 _) g5.2.2 g5.1 g5.2.1 (fun q11 => ?_)
    refine wp_virt (b := 252) (rest := []) (Ls := [(0, rf 252), (1, iv ((xs (x4 + 1).toNat).toInt)), (2, iv ((xs (x4 + 2).toNat).toInt)), (3, iv ((xs (x4 + 3).toNat).toInt))]) r_276_2125 (n_276_2125 _) rfl ⟨rfl, rfl, by decide, by decide⟩ rfl rfl lf_252 ⟨rfl, Nat.le_of_ble_eq_true rfl, Nat.le_of_ble_eq_true rfl⟩ rfl h ?_
    intro o12 s12 h
    rcases h with ⟨y12, q13, rfl, h⟩ | ⟨e12, rfl, h⟩
    · refine .inl ⟨some (iv y12), rfl, ?_⟩
      show wp S 276 2128 [(0, rf 0), (1, rf 2), (2, rf 252), (3, rf 275), (4, iv x4), (5, iv y7)] [iv y12] s12 Q
      refine i_istore (l' := [(0, rf 0), (1, rf 2), (2, rf 252), (3, rf 275), (4, iv x4), (5, iv y7), (6, iv y12)]) r_276_2128 (n_276_2128 _) (by decide) rfl ?_
      refine i_aload_n (a := 252) r_276_2130 (n_276_2130 _) rfl ?_
      refine wp_virt (b := 252) (rest := []) (Ls := [(0, rf 252)]) r_276_2131 (n_276_2131 _) rfl ⟨rfl, rfl, by decide, by decide⟩ rfl rfl lf_252 ⟨rfl, Nat.le_of_ble_eq_true rfl, Nat.le_of_ble_eq_true rfl⟩ rfl K_Model_thrown ?_
      rintro _ _ ⟨rfl, rfl⟩
      refine .inl ⟨some (iv (zI s12 252 3)), rfl, ?_⟩
      show wp S 276 2134 [(0, rf 0), (1, rf 2), (2, rf 252), (3, rf 275), (4, iv x4), (5, iv y7), (6, iv y12)] [iv (zI s12 252 3)] s12 Q
      refine wp_rd (a := 252) (j := 3) (fun q15 => ?_)
      refine i_iload (x := y7) r_276_2134 (n_276_2134 _) rfl ?_
      refine i_icmp (t := 2141) r_276_2136 (n_276_2136 _) rfl (T_eq q15 q8) (fun c16 => ?_) (fun c16 => ?_)
      · replace h := h.1 c16
        refine i_iload (x := y7) r_276_2141 (n_276_2141 _) rfl ?_
        refine i_if (t := 2158) r_276_2143 (n_276_2143 _) rfl (T_ne q8 ⟨by omega, by omega⟩) (fun c17 => ?_) (fun c17 => ?_)
        · replace h := h.1 c17
          refine i_goto (t := 2908) r_276_2158 (n_276_2158 _) rfl ?_
          refine i_iinc (x := x4) (l' := [(0, rf 0), (1, rf 2), (2, rf 252), (3, rf 275), (4, iv (x4 + 7)), (5, iv y7), (6, iv y12)]) r_276_2908 (n_276_2908 _) (by decide) rfl rfl ?_
          refine i_goto (t := 23) r_276_2911 (n_276_2911 _) rfl ?_
          exact wp_pr (l' := [(0, rf 0), (1, rf 2), (2, rf 252), (3, rf 275), (4, iv (x4 + 7))]) rfl h
        · replace h := h.2 c17
          refine i_aload_n (a := 275) r_276_2146 (n_276_2146 _) rfl ?_
          refine i_iconst r_276_2147 (n_276_2147 _) ?_
          refine i_laload (a := 275) (j := 0) r_276_2148 (n_276_2148 _) lf_275 ⟨by omega, by omega⟩ (by omega) (by omega) ?_
          refine i_iload (x := y12) r_276_2149 (n_276_2149 _) rfl ?_
          refine i_i2l r_276_2151 (n_276_2151 _) ?_
          refine i_lcmp r_276_2152 (n_276_2152 _) ?_
          refine i_if (t := 2158) r_276_2153 (n_276_2153 _) rfl (T_eq (zcmp_rng _ _) ⟨by omega, by omega⟩) (fun c18 => ?_) (fun c18 => ?_)
          · replace h := h.1 c18
            refine i_goto (t := 2908) r_276_2158 (n_276_2158 _) rfl ?_
            refine i_iinc (x := x4) (l' := [(0, rf 0), (1, rf 2), (2, rf 252), (3, rf 275), (4, iv (x4 + 7)), (5, iv y7), (6, iv y12)]) r_276_2908 (n_276_2908 _) (by decide) rfl rfl ?_
            refine i_goto (t := 23) r_276_2911 (n_276_2911 _) rfl ?_
            exact wp_pr (l' := [(0, rf 0), (1, rf 2), (2, rf 252), (3, rf 275), (4, iv (x4 + 7))]) rfl h
          · replace h := h.2 c18
            refine i_iconst r_276_2156 (n_276_2156 _) ?_
            exact i_zreturn r_276_2157 (n_276_2157 _) rfl (by decide) h
      · replace h := h.2 c16
        refine i_iconst r_276_2139 (n_276_2139 _) ?_
        exact i_zreturn r_276_2140 (n_276_2140 _) rfl (by decide) h
    · skip
      exact h.elim
  · skip
    exact h.elim
theorem v_Law_law_2161 {S : Option (Nat × (Nat → Int32))} {L : Nat} {xs : Nat → Int32} (hS : S = some (L, xs)) {s : zSt} {Q : Option Value ⊕ Nat → zSt → Prop} {x4 : Int} 
    (h : (0 ≤ (x4 + 1) ∧ (x4 + 1) < (L : Int) ∧ rng (x4 + 1)) ∧ ((0 ≤ (x4 + 2) ∧ (x4 + 2) < (L : Int) ∧ rng (x4 + 2)) ∧ ((0 ≤ (x4 + 3) ∧ (x4 + 3) < (L : Int) ∧ rng (x4 + 3)) ∧ ((0 ≤ (x4 + 4) ∧ (x4 + 4) < (L : Int) ∧ rng (x4 + 4)) ∧ ((0 ≤ (x4 + 5) ∧ (x4 + 5) < (L : Int) ∧ rng (x4 + 5)) ∧ (wp S 153 0 [(0, rf 2), (1, iv ((xs (x4 + 1).toNat).toInt)), (2, iv ((xs (x4 + 2).toNat).toInt)), (3, iv ((xs (x4 + 3).toNat).toInt)), (4, .long ((zshlL (zi2l ((xs (x4 + 4).toNat).toInt)) 32) ||| ((zi2l ((xs (x4 + 5).toNat).toInt)) &&& 4294967295))), (6, rf 275)] [] s (fun o11 s11 => zkI (fun y11 => wp S 265 0 [(0, rf 252), (1, iv ((xs (x4 + 1).toNat).toInt)), (2, iv ((xs (x4 + 2).toNat).toInt)), (3, iv ((xs (x4 + 3).toNat).toInt)), (4, .long ((zshlL (zi2l ((xs (x4 + 4).toNat).toInt)) 32) ||| ((zi2l ((xs (x4 + 5).toNat).toInt)) &&& 4294967295)))] [] s11 (fun o18 s18 => zkI (fun y18 => ((zI s18 252 3) = y11 → (y11 ≠ 0 → wp S 276 23 [(0, rf 0), (1, rf 2), (2, rf 252), (3, rf 275), (4, iv (x4 + 7))] [] s18 Q) ∧ (y11 = 0 → ((zcmp (zL s18 275 0) (zi2l y18)) = 0 → wp S 276 23 [(0, rf 0), (1, rf 2), (2, rf 252), (3, rf 275), (4, iv (x4 + 7))] [] s18 Q) ∧ ((zcmp (zL s18 275 0) (zi2l y18)) ≠ 0 → Q (rI 0) s18))) ∧ ((zI s18 252 3) ≠ y11 → Q (rI 0) s18)) (fun e18 => False) o18)) (fun e11 => False) o11))))))) :
    wp S 276 2161 [(0, rf 0), (1, rf 2), (2, rf 252), (3, rf 275), (4, iv x4)] [] s Q := by
  refine i_aload_n (a := 2) r_276_2161 rfl rfl ?_
  refine i_aload_n (a := 0) r_276_2162 (n_276_2162 _) rfl ?_
  refine i_iload (x := x4) r_276_2163 (n_276_2163 _) rfl ?_
  refine i_iconst r_276_2165 (n_276_2165 _) ?_
  refine i_iadd r_276_2166 (n_276_2166 _) ?_
  obtain ⟨g1, h⟩ := h
  refine i_script hS r_276_2167 (n_276_2167 _) g1.2.2 g1.1 g1.2.1 (fun q2 => ?_)
  refine i_aload_n (a := 0) r_276_2168 (n_276_2168 _) rfl ?_
  refine i_iload (x := x4) r_276_2169 (n_276_2169 _) rfl ?_
  refine i_iconst r_276_2171 (n_276_2171 _) ?_
  refine i_iadd r_276_2172 (n_276_2172 _) ?_
  obtain ⟨g3, h⟩ := h
  refine i_script hS r_276_2173 (n_276_2173 _) g3.2.2 g3.1 g3.2.1 (fun q4 => ?_)
  refine i_aload_n (a := 0) r_276_2174 (n_276_2174 _) rfl ?_
  refine i_iload (x := x4) r_276_2175 (n_276_2175 _) rfl ?_
  refine i_iconst r_276_2177 (n_276_2177 _) ?_
  refine i_iadd r_276_2178 (n_276_2178 _) ?_
  obtain ⟨g5, h⟩ := h
  refine i_script hS r_276_2179 (n_276_2179 _) g5.2.2 g5.1 g5.2.1 (fun q6 => ?_)
  refine i_aload_n (a := 0) r_276_2180 (n_276_2180 _) rfl ?_
  refine i_iload (x := x4) r_276_2181 (n_276_2181 _) rfl ?_
  refine i_iconst r_276_2183 (n_276_2183 _) ?_
  refine i_iadd r_276_2184 (n_276_2184 _) ?_
  obtain ⟨g7, h⟩ := h
  refine i_script hS r_276_2185 (n_276_2185 _) g7.2.2 g7.1 g7.2.1 (fun q8 => ?_)
  refine i_i2l r_276_2186 (n_276_2186 _) ?_
  refine i_bipush r_276_2187 (n_276_2187 _) rfl ?_
  refine i_lshl r_276_2189 (n_276_2189 _) ?_
  refine i_aload_n (a := 0) r_276_2190 (n_276_2190 _) rfl ?_
  refine i_iload (x := x4) r_276_2191 (n_276_2191 _) rfl ?_
  refine i_iconst r_276_2193 (n_276_2193 _) ?_
  refine i_iadd r_276_2194 (n_276_2194 _) ?_
  obtain ⟨g9, h⟩ := h
  refine i_script hS r_276_2195 (n_276_2195 _) g9.2.2 g9.1 g9.2.1 (fun q10 => ?_)
  refine i_i2l r_276_2196 (n_276_2196 _) ?_
  refine i_ldc2 r_276_2197 (n_276_2197 _) rfl ?_
  refine i_land r_276_2200 (n_276_2200 _) ?_
  refine i_lor r_276_2201 (n_276_2201 _) ?_
  refine i_aload_n (a := 275) r_276_2202 (n_276_2202 _) rfl ?_
  refine wp_stat (rest := []) (Ls := [(0, rf 2), (1, iv ((xs (x4 + 1).toNat).toInt)), (2, iv ((xs (x4 + 2).toNat).toInt)), (3, iv ((xs (x4 + 3).toNat).toInt)), (4, .long ((zshlL (zi2l ((xs (x4 + 4).toNat).toInt)) 32) ||| ((zi2l ((xs (x4 + 5).toNat).toInt)) &&& 4294967295))), (6, rf 275)]) r_276_2203 (n_276_2203 _) rfl ⟨rfl, by decide, by decide, by decide⟩ rfl rfl ⟨rfl, Nat.le_of_ble_eq_true rfl, Nat.le_of_ble_eq_true rfl⟩ rfl h ?_
  intro o11 s11 h
  rcases h with ⟨y11, q12, rfl, h⟩ | ⟨e11, rfl, h⟩
  · refine .inl ⟨some (iv y11), rfl, ?_⟩
    show wp S 276 2206 [(0, rf 0), (1, rf 2), (2, rf 252), (3, rf 275), (4, iv x4)] [iv y11] s11 Q
    refine i_istore (l' := [(0, rf 0), (1, rf 2), (2, rf 252), (3, rf 275), (4, iv x4), (5, iv y11)]) r_276_2206 (n_276_2206 _) (by decide) rfl ?_
    refine i_aload_n (a := 252) r_276_2208 (n_276_2208 _) rfl ?_
    refine i_aload_n (a := 0) r_276_2209 (n_276_2209 _) rfl ?_
    refine i_iload (x := x4) r_276_2210 (n_276_2210 _) rfl ?_
    refine i_iconst r_276_2212 (n_276_2212 _) ?_
    refine i_iadd r_276_2213 (n_276_2213 _) ?_
    refine i_script hS r_276_2214 (n_276_2214 _) g1.2.2 g1.1 g1.2.1 (fun q13 => ?_)
    refine i_aload_n (a := 0) r_276_2215 (n_276_2215 _) rfl ?_
    refine i_iload (x := x4) r_276_2216 (n_276_2216 _) rfl ?_
    refine i_iconst r_276_2218 (n_276_2218 _) ?_
    refine i_iadd r_276_2219 (n_276_2219 _) ?_
    refine i_script hS r_276_2220 (n_276_2220 _) g3.2.2 g3.1 g3.2.1 (fun q14 => ?_)
    refine i_aload_n (a := 0) r_276_2221 (n_276_2221 _) rfl ?_
    refine i_iload (x := x4) r_276_2222 (n_276_2222 _) rfl ?_
    refine i_iconst r_276_2224 (n_276_2224 _) ?_
    refine i_iadd r_276_2225 (n_276_2225 _) ?_
    refine i_script hS r_276_2226 (n_276_2226 _) g5.2.2 g5.1 g5.2.1 (fun q15 => ?_)
    refine i_aload_n (a := 0) r_276_2227 (n_276_2227 _) rfl ?_
    refine i_iload (x := x4) r_276_2228 (n_276_2228 _) rfl ?_
    refine i_iconst r_276_2230 (n_276_2230 _) ?_
    refine i_iadd r_276_2231 (n_276_2231 _) ?_
    refine i_script hS r_276_2232 (n_276_2232 _) g7.2.2 g7.1 g7.2.1 (fun q16 => ?_)
    refine i_i2l r_276_2233 (n_276_2233 _) ?_
    refine i_bipush r_276_2234 (n_276_2234 _) rfl ?_
    refine i_lshl r_276_2236 (n_276_2236 _) ?_
    refine i_aload_n (a := 0) r_276_2237 (n_276_2237 _) rfl ?_
    refine i_iload (x := x4) r_276_2238 (n_276_2238 _) rfl ?_
    refine i_iconst r_276_2240 (n_276_2240 _) ?_
    refine i_iadd r_276_2241 (n_276_2241 _) ?_
    refine i_script hS r_276_2242 (n_276_2242 _) g9.2.2 g9.1 g9.2.1 (fun q17 => ?_)
    refine i_i2l r_276_2243 (n_276_2243 _) ?_
    refine i_ldc2 r_276_2244 (n_276_2244 _) rfl ?_
    refine i_land r_276_2247 (n_276_2247 _) ?_
    refine i_lor r_276_2248 (n_276_2248 _) ?_
    refine wp_virt (b := 252) (rest := []) (Ls := [(0, rf 252), (1, iv ((xs (x4 + 1).toNat).toInt)), (2, iv ((xs (x4 + 2).toNat).toInt)), (3, iv ((xs (x4 + 3).toNat).toInt)), (4, .long ((zshlL (zi2l ((xs (x4 + 4).toNat).toInt)) 32) ||| ((zi2l ((xs (x4 + 5).toNat).toInt)) &&& 4294967295)))]) r_276_2249 (n_276_2249 _) rfl ⟨rfl, rfl, by decide, by decide⟩ rfl rfl lf_252 ⟨rfl, Nat.le_of_ble_eq_true rfl, Nat.le_of_ble_eq_true rfl⟩ rfl h ?_
    intro o18 s18 h
    rcases h with ⟨y18, q19, rfl, h⟩ | ⟨e18, rfl, h⟩
    · refine .inl ⟨some (iv y18), rfl, ?_⟩
      show wp S 276 2252 [(0, rf 0), (1, rf 2), (2, rf 252), (3, rf 275), (4, iv x4), (5, iv y11)] [iv y18] s18 Q
      refine i_istore (l' := [(0, rf 0), (1, rf 2), (2, rf 252), (3, rf 275), (4, iv x4), (5, iv y11), (6, iv y18)]) r_276_2252 (n_276_2252 _) (by decide) rfl ?_
      refine i_aload_n (a := 252) r_276_2254 (n_276_2254 _) rfl ?_
      refine wp_virt (b := 252) (rest := []) (Ls := [(0, rf 252)]) r_276_2255 (n_276_2255 _) rfl ⟨rfl, rfl, by decide, by decide⟩ rfl rfl lf_252 ⟨rfl, Nat.le_of_ble_eq_true rfl, Nat.le_of_ble_eq_true rfl⟩ rfl K_Model_thrown ?_
      rintro _ _ ⟨rfl, rfl⟩
      refine .inl ⟨some (iv (zI s18 252 3)), rfl, ?_⟩
      show wp S 276 2258 [(0, rf 0), (1, rf 2), (2, rf 252), (3, rf 275), (4, iv x4), (5, iv y11), (6, iv y18)] [iv (zI s18 252 3)] s18 Q
      refine wp_rd (a := 252) (j := 3) (fun q21 => ?_)
      refine i_iload (x := y11) r_276_2258 (n_276_2258 _) rfl ?_
      refine i_icmp (t := 2265) r_276_2260 (n_276_2260 _) rfl (T_eq q21 q12) (fun c22 => ?_) (fun c22 => ?_)
      · replace h := h.1 c22
        refine i_iload (x := y11) r_276_2265 (n_276_2265 _) rfl ?_
        refine i_if (t := 2282) r_276_2267 (n_276_2267 _) rfl (T_ne q12 ⟨by omega, by omega⟩) (fun c23 => ?_) (fun c23 => ?_)
        · replace h := h.1 c23
          refine i_goto (t := 2908) r_276_2282 (n_276_2282 _) rfl ?_
          refine i_iinc (x := x4) (l' := [(0, rf 0), (1, rf 2), (2, rf 252), (3, rf 275), (4, iv (x4 + 7)), (5, iv y11), (6, iv y18)]) r_276_2908 (n_276_2908 _) (by decide) rfl rfl ?_
          refine i_goto (t := 23) r_276_2911 (n_276_2911 _) rfl ?_
          exact wp_pr (l' := [(0, rf 0), (1, rf 2), (2, rf 252), (3, rf 275), (4, iv (x4 + 7))]) rfl h
        · replace h := h.2 c23
          refine i_aload_n (a := 275) r_276_2270 (n_276_2270 _) rfl ?_
          refine i_iconst r_276_2271 (n_276_2271 _) ?_
          refine i_laload (a := 275) (j := 0) r_276_2272 (n_276_2272 _) lf_275 ⟨by omega, by omega⟩ (by omega) (by omega) ?_
          refine i_iload (x := y18) r_276_2273 (n_276_2273 _) rfl ?_
          refine i_i2l r_276_2275 (n_276_2275 _) ?_
          refine i_lcmp r_276_2276 (n_276_2276 _) ?_
          refine i_if (t := 2282) r_276_2277 (n_276_2277 _) rfl (T_eq (zcmp_rng _ _) ⟨by omega, by omega⟩) (fun c24 => ?_) (fun c24 => ?_)
          · replace h := h.1 c24
            refine i_goto (t := 2908) r_276_2282 (n_276_2282 _) rfl ?_
            refine i_iinc (x := x4) (l' := [(0, rf 0), (1, rf 2), (2, rf 252), (3, rf 275), (4, iv (x4 + 7)), (5, iv y11), (6, iv y18)]) r_276_2908 (n_276_2908 _) (by decide) rfl rfl ?_
            refine i_goto (t := 23) r_276_2911 (n_276_2911 _) rfl ?_
            exact wp_pr (l' := [(0, rf 0), (1, rf 2), (2, rf 252), (3, rf 275), (4, iv (x4 + 7))]) rfl h
          · replace h := h.2 c24
            refine i_iconst r_276_2280 (n_276_2280 _) ?_
            exact i_zreturn r_276_2281 (n_276_2281 _) rfl (by decide) h
      · replace h := h.2 c22
        refine i_iconst r_276_2263 (n_276_2263 _) ?_
        exact i_zreturn r_276_2264 (n_276_2264 _) rfl (by decide) h
    · skip
      exact h.elim
  · skip
    exact h.elim

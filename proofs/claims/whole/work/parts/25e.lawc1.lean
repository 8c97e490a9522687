/-! ===== the law: its cases ===== -/
theorem v_Law_law_853 {S : Option (Nat × (Nat → Int32))} {L : Nat} {xs : Nat → Int32} (hS : S = some (L, xs)) {s : zSt} {Q : Option Value ⊕ Nat → zSt → Prop} {x4 : Int} 
    (h : (0 ≤ (x4 + 1) ∧ (x4 + 1) < (L : Int) ∧ rng (x4 + 1)) ∧ (wp S 87 0 [(0, rf 2), (1, iv ((xs (x4 + 1).toNat).toInt)), (2, rf 275)] [] s (fun o3 s3 => zkI (fun y3 => wp S 220 0 [(0, rf 252), (1, iv ((xs (x4 + 1).toNat).toInt))] [] s3 (fun o6 s6 => zkI (fun y6 => ((zI s6 252 3) = y3 → (y3 ≠ 0 → wp S 276 23 [(0, rf 0), (1, rf 2), (2, rf 252), (3, rf 275), (4, iv (x4 + 7))] [] s6 Q) ∧ (y3 = 0 → ((zcmp (zL s6 275 0) (zi2l y6)) = 0 → wp S 276 23 [(0, rf 0), (1, rf 2), (2, rf 252), (3, rf 275), (4, iv (x4 + 7))] [] s6 Q) ∧ ((zcmp (zL s6 275 0) (zi2l y6)) ≠ 0 → Q (rI 0) s6))) ∧ ((zI s6 252 3) ≠ y3 → Q (rI 0) s6)) (fun e6 => False) o6)) (fun e3 => False) o3))) :
    wp S 276 853 [(0, rf 0), (1, rf 2), (2, rf 252), (3, rf 275), (4, iv x4)] [] s Q := by
  refine i_aload_n (a := 2) r_276_853 rfl rfl ?_
  refine i_aload_n (a := 0) r_276_854 (n_276_854 _) rfl ?_
  refine i_iload (x := x4) r_276_855 (n_276_855 _) rfl ?_
  refine i_iconst r_276_857 (n_276_857 _) ?_
  refine i_iadd r_276_858 (n_276_858 _) ?_
  obtain ⟨g1, h⟩ := h
  refine i_script hS r_276_859 (n_276_859 _) g1.2.2 g1.1 g1.2.1 (fun q2 => ?_)
  refine i_aload_n (a := 275) r_276_860 (n_276_860 _) rfl ?_
  refine wp_stat (rest := []) (Ls := [(0, rf 2), (1, iv ((xs (x4 + 1).toNat).toInt)), (2, rf 275)]) r_276_861 (n_276_861 _) rfl ⟨rfl, by decide, by decide, by decide⟩ rfl rfl ⟨rfl, Nat.le_of_ble_eq_true rfl, Nat.le_of_ble_eq_true rfl⟩ rfl h ?_
  intro o3 s3 h
  rcases h with ⟨y3, q4, rfl, h⟩ | ⟨e3, rfl, h⟩
  · refine .inl ⟨some (iv y3), rfl, ?_⟩
    show wp S 276 864 [(0, rf 0), (1, rf 2), (2, rf 252), (3, rf 275), (4, iv x4)] [iv y3] s3 Q
    refine i_istore (l' := [(0, rf 0), (1, rf 2), (2, rf 252), (3, rf 275), (4, iv x4), (5, iv y3)]) r_276_864 (n_276_864 _) (by decide) rfl ?_
    refine i_aload_n (a := 252) r_276_866 (n_276_866 _) rfl ?_
    refine i_aload_n (a := 0) r_276_867 (n_276_867 _) rfl ?_
    refine i_iload (x := x4) r_276_868 (n_276_868 _) rfl ?_
    refine i_iconst r_276_870 (n_276_870 _) ?_
    refine i_iadd r_276_871 (n_276_871 _) ?_
    refine i_script hS r_276_872 (n_276_872 _) g1.2.2 g1.1 g1.2.1 (fun q5 => ?_)
    refine wp_virt (b := 252) (rest := []) (Ls := [(0, rf 252), (1, iv ((xs (x4 + 1).toNat).toInt))]) r_276_873 (n_276_873 _) rfl ⟨rfl, rfl, by decide, by decide⟩ rfl rfl lf_252 ⟨rfl, Nat.le_of_ble_eq_true rfl, Nat.le_of_ble_eq_true rfl⟩ rfl h ?_
    intro o6 s6 h
    rcases h with ⟨y6, q7, rfl, h⟩ | ⟨e6, rfl, h⟩
    · refine .inl ⟨some (iv y6), rfl, ?_⟩
      show wp S 276 876 [(0, rf 0), (1, rf 2), (2, rf 252), (3, rf 275), (4, iv x4), (5, iv y3)] [iv y6] s6 Q
      refine i_istore (l' := [(0, rf 0), (1, rf 2), (2, rf 252), (3, rf 275), (4, iv x4), (5, iv y3), (6, iv y6)]) r_276_876 (n_276_876 _) (by decide) rfl ?_
      refine i_aload_n (a := 252) r_276_878 (n_276_878 _) rfl ?_
      refine wp_virt (b := 252) (rest := []) (Ls := [(0, rf 252)]) r_276_879 (n_276_879 _) rfl ⟨rfl, rfl, by decide, by decide⟩ rfl rfl lf_252 ⟨rfl, Nat.le_of_ble_eq_true rfl, Nat.le_of_ble_eq_true rfl⟩ rfl K_Model_thrown ?_
      rintro _ _ ⟨rfl, rfl⟩
      refine .inl ⟨some (iv (zI s6 252 3)), rfl, ?_⟩
      show wp S 276 882 [(0, rf 0), (1, rf 2), (2, rf 252), (3, rf 275), (4, iv x4), (5, iv y3), (6, iv y6)] [iv (zI s6 252 3)] s6 Q
      refine wp_rd (a := 252) (j := 3) (fun q9 => ?_)
      refine i_iload (x := y3) r_276_882 (n_276_882 _) rfl ?_
      refine i_icmp (t := 889) r_276_884 (n_276_884 _) rfl (T_eq q9 q4) (fun c10 => ?_) (fun c10 => ?_)
      · replace h := h.1 c10
        refine i_iload (x := y3) r_276_889 (n_276_889 _) rfl ?_
        refine i_if (t := 906) r_276_891 (n_276_891 _) rfl (T_ne q4 ⟨by omega, by omega⟩) (fun c11 => ?_) (fun c11 => ?_)
        · replace h := h.1 c11
          refine i_goto (t := 2908) r_276_906 (n_276_906 _) rfl ?_
          refine i_iinc (x := x4) (l' := [(0, rf 0), (1, rf 2), (2, rf 252), (3, rf 275), (4, iv (x4 + 7)), (5, iv y3), (6, iv y6)]) r_276_2908 (n_276_2908 _) (by decide) rfl rfl ?_
          refine i_goto (t := 23) r_276_2911 (n_276_2911 _) rfl ?_
          exact wp_pr (l' := [(0, rf 0), (1, rf 2), (2, rf 252), (3, rf 275), (4, iv (x4 + 7))]) rfl h
        · replace h := h.2 c11
          refine i_aload_n (a := 275) r_276_894 (n_276_894 _) rfl ?_
          refine i_iconst r_276_895 (n_276_895 _) ?_
          refine i_laload (a := 275) (j := 0) r_276_896 (n_276_896 _) lf_275 ⟨by omega, by omega⟩ (by omega) (by omega) ?_
          refine i_iload (x := y6) r_276_897 (n_276_897 _) rfl ?_
          refine i_i2l r_276_899 (n_276_899 _) ?_
          refine i_lcmp r_276_900 (n_276_900 _) ?_
          refine i_if (t := 906) r_276_901 (n_276_901 _) rfl (T_eq (zcmp_rng _ _) ⟨by omega, by omega⟩) (fun c12 => ?_) (fun c12 => ?_)
          · replace h := h.1 c12
            refine i_goto (t := 2908) r_276_906 (n_276_906 _) rfl ?_
            refine i_iinc (x := x4) (l' := [(0, rf 0), (1, rf 2), (2, rf 252), (3, rf 275), (4, iv (x4 + 7)), (5, iv y3), (6, iv y6)]) r_276_2908 (n_276_2908 _) (by decide) rfl rfl ?_
            refine i_goto (t := 23) r_276_2911 (n_276_2911 _) rfl ?_
            exact wp_pr (l' := [(0, rf 0), (1, rf 2), (2, rf 252), (3, rf 275), (4, iv (x4 + 7))]) rfl h
          · replace h := h.2 c12
            refine i_iconst r_276_904 (n_276_904 _) ?_
            exact i_zreturn r_276_905 (n_276_905 _) rfl (by decide) h
      · replace h := h.2 c10
        refine i_iconst r_276_887 (n_276_887 _) ?_
        exact i_zreturn r_276_888 (n_276_888 _) rfl (by decide) h
    · skip
      exact h.elim
  · skip
    exact h.elim
theorem v_Law_law_909 {S : Option (Nat × (Nat → Int32))} {L : Nat} {xs : Nat → Int32} (hS : S = some (L, xs)) {s : zSt} {Q : Option Value ⊕ Nat → zSt → Prop} {x4 : Int} 
    (h : wp S 11 0 [(0, rf 2)] [] s (fun o1 s1 => zkI (fun y1 => wp S 221 0 [(0, rf 252)] [] s1 (fun o3 s3 => zkI (fun y3 => (y1 = y3 → wp S 276 23 [(0, rf 0), (1, rf 2), (2, rf 252), (3, rf 275), (4, iv (x4 + 7))] [] s3 Q) ∧ (y1 ≠ y3 → Q (rI 0) s3)) (fun e3 => False) o3)) (fun e1 => False) o1)) :
    wp S 276 909 [(0, rf 0), (1, rf 2), (2, rf 252), (3, rf 275), (4, iv x4)] [] s Q := by
  refine i_aload_n (a := 2) r_276_909 rfl rfl ?_
  refine wp_virt (b := 2) (rest := []) (Ls := [(0, rf 2)]) r_276_910 (n_276_910 _) rfl ⟨rfl, rfl, by decide, by decide⟩ rfl rfl lf_2 ⟨rfl, Nat.le_of_ble_eq_true rfl, Nat.le_of_ble_eq_true rfl⟩ rfl h ?_
  intro o1 s1 h
  rcases h with ⟨y1, q2, rfl, h⟩ | ⟨e1, rfl, h⟩
  · refine .inl ⟨some (iv y1), rfl, ?_⟩
    show wp S 276 913 [(0, rf 0), (1, rf 2), (2, rf 252), (3, rf 275), (4, iv x4)] [iv y1] s1 Q
    refine i_aload_n (a := 252) r_276_913 (n_276_913 _) rfl ?_
    refine wp_virt (b := 252) (rest := [iv y1]) (Ls := [(0, rf 252)]) r_276_914 (n_276_914 _) rfl ⟨rfl, rfl, by decide, by decide⟩ rfl rfl lf_252 ⟨rfl, Nat.le_of_ble_eq_true rfl, Nat.le_of_ble_eq_true rfl⟩ rfl h ?_
    intro o3 s3 h
    rcases h with ⟨y3, q4, rfl, h⟩ | ⟨e3, rfl, h⟩
    · refine .inl ⟨some (iv y3), rfl, ?_⟩
      show wp S 276 917 [(0, rf 0), (1, rf 2), (2, rf 252), (3, rf 275), (4, iv x4)] [iv y3, iv y1] s3 Q
      refine i_icmp (t := 2908) r_276_917 (n_276_917 _) rfl (T_eq q2 q4) (fun c5 => ?_) (fun c5 => ?_)
      · replace h := h.1 c5
        refine i_iinc (x := x4) (l' := [(0, rf 0), (1, rf 2), (2, rf 252), (3, rf 275), (4, iv (x4 + 7))]) r_276_2908 (n_276_2908 _) (by decide) rfl rfl ?_
        refine i_goto (t := 23) r_276_2911 (n_276_2911 _) rfl ?_
        exact wp_pr (l' := [(0, rf 0), (1, rf 2), (2, rf 252), (3, rf 275), (4, iv (x4 + 7))]) rfl h
      · replace h := h.2 c5
        refine i_iconst r_276_920 (n_276_920 _) ?_
        exact i_zreturn r_276_921 (n_276_921 _) rfl (by decide) h
    · skip
      exact h.elim
  · skip
    exact h.elim
theorem v_Law_law_922 {S : Option (Nat × (Nat → Int32))} {L : Nat} {xs : Nat → Int32} (hS : S = some (L, xs)) {s : zSt} {Q : Option Value ⊕ Nat → zSt → Prop} {x4 : Int} 
    (h : (0 ≤ (x4 + 1) ∧ (x4 + 1) < (L : Int) ∧ rng (x4 + 1)) ∧ (wp S 90 0 [(0, rf 2), (1, iv ((xs (x4 + 1).toNat).toInt)), (2, rf 275)] [] s (fun o3 s3 => zkI (fun y3 => wp S 222 0 [(0, rf 252), (1, iv ((xs (x4 + 1).toNat).toInt))] [] s3 (fun o6 s6 => zkI (fun y6 => ((zI s6 252 3) = y3 → (y3 ≠ 0 → wp S 276 23 [(0, rf 0), (1, rf 2), (2, rf 252), (3, rf 275), (4, iv (x4 + 7))] [] s6 Q) ∧ (y3 = 0 → ((zcmp (zL s6 275 0) (zi2l y6)) = 0 → wp S 276 23 [(0, rf 0), (1, rf 2), (2, rf 252), (3, rf 275), (4, iv (x4 + 7))] [] s6 Q) ∧ ((zcmp (zL s6 275 0) (zi2l y6)) ≠ 0 → Q (rI 0) s6))) ∧ ((zI s6 252 3) ≠ y3 → Q (rI 0) s6)) (fun e6 => False) o6)) (fun e3 => False) o3))) :
    wp S 276 922 [(0, rf 0), (1, rf 2), (2, rf 252), (3, rf 275), (4, iv x4)] [] s Q := by
  refine i_aload_n (a := 2) r_276_922 rfl rfl ?_
  refine i_aload_n (a := 0) r_276_923 (n_276_923 _) rfl ?_
  refine i_iload (x := x4) r_276_924 (n_276_924 _) rfl ?_
  refine i_iconst r_276_926 (n_276_926 _) ?_
  refine i_iadd r_276_927 (n_276_927 _) ?_
  obtain ⟨g1, h⟩ := h
  refine i_script hS r_276_928 (n_276_928 _) g1.2.2 g1.1 g1.2.1 (fun q2 => ?_)
  refine i_aload_n (a := 275) r_276_929 (n_276_929 _) rfl ?_
  refine wp_stat (rest := []) (Ls := [(0, rf 2), (1, iv ((xs (x4 + 1).toNat).toInt)), (2, rf 275)]) r_276_930 (n_276_930 _) rfl ⟨rfl, by decide, by decide, by decide⟩ rfl rfl ⟨rfl, Nat.le_of_ble_eq_true rfl, Nat.le_of_ble_eq_true rfl⟩ rfl h ?_
  intro o3 s3 h
  rcases h with ⟨y3, q4, rfl, h⟩ | ⟨e3, rfl, h⟩
  · refine .inl ⟨some (iv y3), rfl, ?_⟩
    show wp S 276 933 [(0, rf 0), (1, rf 2), (2, rf 252), (3, rf 275), (4, iv x4)] [iv y3] s3 Q
    refine i_istore (l' := [(0, rf 0), (1, rf 2), (2, rf 252), (3, rf 275), (4, iv x4), (5, iv y3)]) r_276_933 (n_276_933 _) (by decide) rfl ?_
    refine i_aload_n (a := 252) r_276_935 (n_276_935 _) rfl ?_
    refine i_aload_n (a := 0) r_276_936 (n_276_936 _) rfl ?_
    refine i_iload (x := x4) r_276_937 (n_276_937 _) rfl ?_
    refine i_iconst r_276_939 (n_276_939 _) ?_
    refine i_iadd r_276_940 (n_276_940 _) ?_
    refine i_script hS r_276_941 (n_276_941 _) g1.2.2 g1.1 g1.2.1 (fun q5 => ?_)
    refine wp_virt (b := 252) (rest := []) (Ls := [(0, rf 252), (1, iv ((xs (x4 + 1).toNat).toInt))]) r_276_942 (n_276_942 _) rfl ⟨rfl, rfl, by decide, by decide⟩ rfl rfl lf_252 ⟨rfl, Nat.le_of_ble_eq_true rfl, Nat.le_of_ble_eq_true rfl⟩ rfl h ?_
    intro o6 s6 h
    rcases h with ⟨y6, q7, rfl, h⟩ | ⟨e6, rfl, h⟩
    · refine .inl ⟨some (iv y6), rfl, ?_⟩
      show wp S 276 945 [(0, rf 0), (1, rf 2), (2, rf 252), (3, rf 275), (4, iv x4), (5, iv y3)] [iv y6] s6 Q
      refine i_istore (l' := [(0, rf 0), (1, rf 2), (2, rf 252), (3, rf 275), (4, iv x4), (5, iv y3), (6, iv y6)]) r_276_945 (n_276_945 _) (by decide) rfl ?_
      refine i_aload_n (a := 252) r_276_947 (n_276_947 _) rfl ?_
      refine wp_virt (b := 252) (rest := []) (Ls := [(0, rf 252)]) r_276_948 (n_276_948 _) rfl ⟨rfl, rfl, by decide, by decide⟩ rfl rfl lf_252 ⟨rfl, Nat.le_of_ble_eq_true rfl, Nat.le_of_ble_eq_true rfl⟩ rfl K_Model_thrown ?_
      rintro _ _ ⟨rfl, rfl⟩
      refine .inl ⟨some (iv (zI s6 252 3)), rfl, ?_⟩
      show wp S 276 951 [(0, rf 0), (1, rf 2), (2, rf 252), (3, rf 275), (4, iv x4), (5, iv y3), (6, iv y6)] [iv (zI s6 252 3)] s6 Q
      refine wp_rd (a := 252) (j := 3) (fun q9 => ?_)
      refine i_iload (x := y3) r_276_951 (n_276_951 _) rfl ?_
      refine i_icmp (t := 958) r_276_953 (n_276_953 _) rfl (T_eq q9 q4) (fun c10 => ?_) (fun c10 => ?_)
      · replace h := h.1 c10
        refine i_iload (x := y3) r_276_958 (n_276_958 _) rfl ?_
        refine i_if (t := 975) r_276_960 (n_276_960 _) rfl (T_ne q4 ⟨by omega, by omega⟩) (fun c11 => ?_) (fun c11 => ?_)
        · replace h := h.1 c11
          refine i_goto (t := 2908) r_276_975 (n_276_975 _) rfl ?_
          refine i_iinc (x := x4) (l' := [(0, rf 0), (1, rf 2), (2, rf 252), (3, rf 275), (4, iv (x4 + 7)), (5, iv y3), (6, iv y6)]) r_276_2908 (n_276_2908 _) (by decide) rfl rfl ?_
          refine i_goto (t := 23) r_276_2911 (n_276_2911 _) rfl ?_
          exact wp_pr (l' := [(0, rf 0), (1, rf 2), (2, rf 252), (3, rf 275), (4, iv (x4 + 7))]) rfl h
        · replace h := h.2 c11
          refine i_aload_n (a := 275) r_276_963 (n_276_963 _) rfl ?_
          refine i_iconst r_276_964 (n_276_964 _) ?_
          refine i_laload (a := 275) (j := 0) r_276_965 (n_276_965 _) lf_275 ⟨by omega, by omega⟩ (by omega) (by omega) ?_
          refine i_iload (x := y6) r_276_966 (n_276_966 _) rfl ?_
          refine i_i2l r_276_968 (n_276_968 _) ?_
          refine i_lcmp r_276_969 (n_276_969 _) ?_
          refine i_if (t := 975) r_276_970 (n_276_970 _) rfl (T_eq (zcmp_rng _ _) ⟨by omega, by omega⟩) (fun c12 => ?_) (fun c12 => ?_)
          · replace h := h.1 c12
            refine i_goto (t := 2908) r_276_975 (n_276_975 _) rfl ?_
            refine i_iinc (x := x4) (l' := [(0, rf 0), (1, rf 2), (2, rf 252), (3, rf 275), (4, iv (x4 + 7)), (5, iv y3), (6, iv y6)]) r_276_2908 (n_276_2908 _) (by decide) rfl rfl ?_
            refine i_goto (t := 23) r_276_2911 (n_276_2911 _) rfl ?_
            exact wp_pr (l' := [(0, rf 0), (1, rf 2), (2, rf 252), (3, rf 275), (4, iv (x4 + 7))]) rfl h
          · replace h := h.2 c12
            refine i_iconst r_276_973 (n_276_973 _) ?_
            exact i_zreturn r_276_974 (n_276_974 _) rfl (by decide) h
      · replace h := h.2 c10
        refine i_iconst r_276_956 (n_276_956 _) ?_
        exact i_zreturn r_276_957 (n_276_957 _) rfl (by decide) h
    · skip
      exact h.elim
  · skip
    exact h.elim
theorem v_Law_law_978 {S : Option (Nat × (Nat → Int32))} {L : Nat} {xs : Nat → Int32} (hS : S = some (L, xs)) {s : zSt} {Q : Option Value ⊕ Nat → zSt → Prop} {x4 : Int} 
    (h : (0 ≤ (x4 + 1) ∧ (x4 + 1) < (L : Int) ∧ rng (x4 + 1)) ∧ ((0 ≤ (x4 + 2) ∧ (x4 + 2) < (L : Int) ∧ rng (x4 + 2)) ∧ ((0 ≤ (x4 + 3) ∧ (x4 + 3) < (L : Int) ∧ rng (x4 + 3)) ∧ ((0 ≤ (x4 + 4) ∧ (x4 + 4) < (L : Int) ∧ rng (x4 + 4)) ∧ (wp S 101 0 [(0, rf 2), (1, iv ((xs (x4 + 1).toNat).toInt)), (2, iv ((xs (x4 + 2).toNat).toInt)), (3, iv ((xs (x4 + 3).toNat).toInt)), (4, iv ((xs (x4 + 4).toNat).toInt)), (5, rf 275)] [] s (fun o9 s9 => zkI (fun y9 => wp S 228 0 [(0, rf 252), (1, iv ((xs (x4 + 1).toNat).toInt)), (2, iv ((xs (x4 + 2).toNat).toInt)), (3, iv ((xs (x4 + 3).toNat).toInt)), (4, iv ((xs (x4 + 4).toNat).toInt))] [] s9 (fun o15 s15 => zkI (fun y15 => ((zI s15 252 3) = y9 → (y9 ≠ 0 → wp S 276 23 [(0, rf 0), (1, rf 2), (2, rf 252), (3, rf 275), (4, iv (x4 + 7))] [] s15 Q) ∧ (y9 = 0 → ((zcmp (zL s15 275 0) (zi2l y15)) = 0 → wp S 276 23 [(0, rf 0), (1, rf 2), (2, rf 252), (3, rf 275), (4, iv (x4 + 7))] [] s15 Q) ∧ ((zcmp (zL s15 275 0) (zi2l y15)) ≠ 0 → Q (rI 0) s15))) ∧ ((zI s15 252 3) ≠ y9 → Q (rI 0) s15)) (fun e15 => False) o15)) (fun e9 => False) o9)))))) :
    wp S 276 978 [(0, rf 0), (1, rf 2), (2, rf 252), (3, rf 275), (4, iv x4)] [] s Q := by
  refine i_aload_n (a := 2) r_276_978 rfl rfl ?_
  refine i_aload_n (a := 0) r_276_979 (n_276_979 _) rfl ?_
  refine i_iload (x := x4) r_276_980 (n_276_980 _) rfl ?_
  refine i_iconst r_276_982 (n_276_982 _) ?_
  refine i_iadd r_276_983 (n_276_983 _) ?_
  obtain ⟨g1, h⟩ := h
  refine i_script hS r_276_984 (n_276_984 _) g1.2.2 g1.1 g1.2.1 (fun q2 => ?_)
  refine i_aload_n (a := 0) r_276_985 (n_276_985 _) rfl ?_
  refine i_iload (x := x4) r_276_986 (n_276_986 _) rfl ?_
  refine i_iconst r_276_988 (n_276_988 _) ?_
  refine i_iadd r_276_989 (n_276_989 _) ?_
  obtain ⟨g3, h⟩ := h
  refine i_script hS r_276_990 (n_276_990 _) g3.2.2 g3.1 g3.2.1 (fun q4 => ?_)
  refine i_aload_n (a := 0) r_276_991 (n_276_991 _) rfl ?_
  refine i_iload (x := x4) r_276_992 (n_276_992 _) rfl ?_
  refine i_iconst r_276_994 (n_276_994 _) ?_
  refine i_iadd r_276_995 (n_276_995 _) ?_
  obtain ⟨g5, h⟩ := h
  refine i_script hS r_276_996 (n_276_996 _) g5.2.2 g5.1 g5.2.1 (fun q6 => ?_)
  refine i_aload_n (a := 0) r_276_997 (n_276_997 _) rfl ?_
  refine i_iload (x := x4) r_276_998 (n_276_998 _) rfl ?_
  refine i_iconst r_276_1000 (n_276_1000 _) ?_
  refine i_iadd r_276_1001 (n_276_1001 _) ?_
  obtain ⟨g7, h⟩ := h
  refine i_script hS r_276_1002 (n_276_1002 _) g7.2.2 g7.1 g7.2.1 (fun q8 => ?_)
  refine i_aload_n (a := 275) r_276_1003 (n_276_1003 _) rfl ?_
  refine wp_stat (rest := []) (Ls := [(0, rf 2), (1, iv ((xs (x4 + 1).toNat).toInt)), (2, iv ((xs (x4 + 2).toNat).toInt)), (3, iv ((xs (x4 + 3).toNat).toInt)), (4, iv ((xs (x4 + 4).toNat).toInt)), (5, rf 275)]) r_276_1004 (n_276_1004 _) rfl ⟨rfl, by decide, by decide, by decide⟩ rfl rfl ⟨rfl, Nat.le_of_ble_eq_true rfl, Nat.le_of_ble_eq_true rfl⟩ rfl h ?_
  intro o9 s9 h
  rcases h with ⟨y9, q10, rfl, h⟩ | ⟨e9, rfl, h⟩
  · refine .inl ⟨some (iv y9), rfl, ?_⟩
    show wp S 276 1007 [(0, rf 0), (1, rf 2), (2, rf 252), (3, rf 275), (4, iv x4)] [iv y9] s9 Q
    refine i_istore (l' := [(0, rf 0), (1, rf 2), (2, rf 252), (3, rf 275), (4, iv x4), (5, iv y9)]) r_276_1007 (n_276_1007 _) (by decide) rfl ?_
    refine i_aload_n (a := 252) r_276_1009 (n_276_1009 _) rfl ?_
    refine i_aload_n (a := 0) r_276_1010 (n_276_1010 _) rfl ?_
    refine i_iload (x := x4) r_276_1011 (n_276_1011 _) rfl ?_
    refine i_iconst r_276_1013 (n_276_1013 _) ?_
    refine i_iadd r_276_1014 (n_276_1014 _) ?_
    refine i_script hS r_276_1015 (n_276_1015 _) g1.2.2 g1.1 g1.2.1 (fun q11 => ?_)
    refine i_aload_n (a := 0) r_276_1016 (n_276_1016 _) rfl ?_
    refine i_iload (x := x4) r_276_1017 (n_276_1017 _) rfl ?_
    refine i_iconst r_276_1019 (n_276_1019 _) ?_
    refine i_iadd r_276_1020 (n_276_1020 _) ?_
    refine i_script hS r_276_1021 (n_276_1021 _) g3.2.2 g3.1 g3.2.1 (fun q12 => ?_)
    refine i_aload_n (a := 0) r_276_1022 (n_276_1022 _) rfl ?_
    refine i_iload (x := x4) r_276_1023 (n_276_1023 _) rfl ?_
    refine i_iconst r_276_1025 (n_276_1025 _) ?_
    refine i_iadd r_276_1026 (n_276_1026 _) ?_
    refine i_script hS r_276_1027 (n_276_1027 _) g5.2.2 g5.1 g5.2.1 (fun q13 => ?_)
    refine i_aload_n (a := 0) r_276_1028 (n_276_1028 _) rfl ?_
    refine i_iload (x := x4) r_276_1029 (n_276_1029 _) rfl ?_
    refine i_iconst r_276_1031 (n_276_1031 _) ?_
    refine i_iadd r_276_1032 (n_276_1032 _) ?_
    refine i_script hS r_276_1033 (n_276_1033 _) g7.2.2 g7.1 g7.2.1 (fun q14 => ?_)
    refine wp_virt (b := 252) (rest := []) (Ls := [(0, rf 252), (1, iv ((xs (x4 + 1).toNat).toInt)), (2, iv ((xs (x4 + 2).toNat).toInt)), (3, iv ((xs (x4 + 3).toNat).toInt)), (4, iv ((xs (x4 + 4).toNat).toInt))]) r_276_1034 (n_276_1034 _) rfl ⟨rfl, rfl, by decide, by decide⟩ rfl rfl lf_252 ⟨rfl, Nat.le_of_ble_eq_true rfl, Nat.le_of_ble_eq_true rfl⟩ rfl h ?_
    intro o15 s15 h
    rcases h with ⟨y15, q16, rfl, h⟩ | ⟨e15, rfl, h⟩
    · refine .inl ⟨some (iv y15), rfl, ?_⟩
      show wp S 276 1037 [(0, rf 0), (1, rf 2), (2, rf 252), (3, rf 275), (4, iv x4), (5, iv y9)] [iv y15] s15 Q
      refine i_istore (l' := [(0, rf 0), (1, rf 2), (2, rf 252), (3, rf 275), (4, iv x4), (5, iv y9), (6, iv y15)]) r_276_1037 (n_276_1037 _) (by decide) rfl ?_
      refine i_aload_n (a := 252) r_276_1039 (n_276_1039 _) rfl ?_
      refine wp_virt (b := 252) (rest := []) (Ls := [(0, rf 252)]) r_276_1040 (n_276_1040 _) rfl ⟨rfl, rfl, by decide, by decide⟩ rfl rfl lf_252 ⟨rfl, Nat.le_of_ble_eq_true rfl, Nat.le_of_ble_eq_true rfl⟩ rfl K_Model_thrown ?_
      rintro _ _ ⟨rfl, rfl⟩
      refine .inl ⟨some (iv (zI s15 252 3)), rfl, ?_⟩
      show wp S 276 1043 [(0, rf 0), (1, rf 2), (2, rf 252), (3, rf 275), (4, iv x4), (5, iv y9), (6, iv y15)] [iv (zI s15 252 3)] s15 Q
      refine wp_rd (a := 252) (j := 3) (fun q18 => ?_)
      refine i_iload (x := y9) r_276_1043 (n_276_1043 _) rfl ?_
      refine i_icmp (t := 1050) r_276_1045 (n_276_1045 _) rfl (T_eq q18 q10) (fun c19 => ?_) (fun c19 => ?_)
      · replace h := h.1 c19
        refine i_iload (x := y9) r_276_1050 (n_276_1050 _) rfl ?_
        refine i_if (t := 1067) r_276_1052 (n_276_1052 _) rfl (T_ne q10 ⟨by omega, by omega⟩) (fun c20 => ?_) (fun c20 => ?_)
        · replace h := h.1 c20
          refine i_goto (t := 2908) r_276_1067 (n_276_1067 _) rfl ?_
          refine i_iinc (x := x4) (l' := [(0, rf 0), (1, rf 2), (2, rf 252), (3, rf 275), (4, iv (x4 + 7)), (5, iv y9), (6, iv y15)]) r_276_2908 (n_276_2908 _) (by decide) rfl rfl ?_
          refine i_goto (t := 23) r_276_2911 (n_276_2911 _) rfl ?_
          exact wp_pr (l' := [(0, rf 0), (1, rf 2), (2, rf 252), (3, rf 275), (4, iv (x4 + 7))]) rfl h
        · replace h := h.2 c20
          refine i_aload_n (a := 275) r_276_1055 (n_276_1055 _) rfl ?_
          refine i_iconst r_276_1056 (n_276_1056 _) ?_
          refine i_laload (a := 275) (j := 0) r_276_1057 (n_276_1057 _) lf_275 ⟨by omega, by omega⟩ (by omega) (by omega) ?_
          refine i_iload (x := y15) r_276_1058 (n_276_1058 _) rfl ?_
          refine i_i2l r_276_1060 (n_276_1060 _) ?_
          refine i_lcmp r_276_1061 (n_276_1061 _) ?_
          refine i_if (t := 1067) r_276_1062 (n_276_1062 _) rfl (T_eq (zcmp_rng _ _) ⟨by omega, by omega⟩) (fun c21 => ?_) (fun c21 => ?_)
          · replace h := h.1 c21
            refine i_goto (t := 2908) r_276_1067 (n_276_1067 _) rfl ?_
            refine i_iinc (x := x4) (l' := [(0, rf 0), (1, rf 2), (2, rf 252), (3, rf 275), (4, iv (x4 + 7)), (5, iv y9), (6, iv y15)]) r_276_2908 (n_276_2908 _) (by decide) rfl rfl ?_
            refine i_goto (t := 23) r_276_2911 (n_276_2911 _) rfl ?_
            exact wp_pr (l' := [(0, rf 0), (1, rf 2), (2, rf 252), (3, rf 275), (4, iv (x4 + 7))]) rfl h
          · replace h := h.2 c21
            refine i_iconst r_276_1065 (n_276_1065 _) ?_
            exact i_zreturn r_276_1066 (n_276_1066 _) rfl (by decide) h
      · replace h := h.2 c19
        refine i_iconst r_276_1048 (n_276_1048 _) ?_
        exact i_zreturn r_276_1049 (n_276_1049 _) rfl (by decide) h
    · skip
      exact h.elim
  · skip
    exact h.elim
theorem v_Law_law_1070 {S : Option (Nat × (Nat → Int32))} {L : Nat} {xs : Nat → Int32} (hS : S = some (L, xs)) {s : zSt} {Q : Option Value ⊕ Nat → zSt → Prop} {x4 : Int} 
    (h : (0 ≤ (x4 + 1) ∧ (x4 + 1) < (L : Int) ∧ rng (x4 + 1)) ∧ (wp S 110 0 [(0, rf 2), (1, iv ((xs (x4 + 1).toNat).toInt)), (2, rf 275)] [] s (fun o3 s3 => zkI (fun y3 => wp S 238 0 [(0, rf 252), (1, iv ((xs (x4 + 1).toNat).toInt))] [] s3 (fun o6 s6 => zkI (fun y6 => ((zI s6 252 3) = y3 → (y3 ≠ 0 → wp S 276 23 [(0, rf 0), (1, rf 2), (2, rf 252), (3, rf 275), (4, iv (x4 + 7))] [] s6 Q) ∧ (y3 = 0 → ((zcmp (zL s6 275 0) (zi2l y6)) = 0 → wp S 276 23 [(0, rf 0), (1, rf 2), (2, rf 252), (3, rf 275), (4, iv (x4 + 7))] [] s6 Q) ∧ ((zcmp (zL s6 275 0) (zi2l y6)) ≠ 0 → Q (rI 0) s6))) ∧ ((zI s6 252 3) ≠ y3 → Q (rI 0) s6)) (fun e6 => False) o6)) (fun e3 => False) o3))) :
    wp S 276 1070 [(0, rf 0), (1, rf 2), (2, rf 252), (3, rf 275), (4, iv x4)] [] s Q := by
  refine i_aload_n (a := 2) r_276_1070 rfl rfl ?_
  refine i_aload_n (a := 0) r_276_1071 (n_276_1071 _) rfl ?_
  refine i_iload (x := x4) r_276_1072 (n_276_1072 _) rfl ?_
  refine i_iconst r_276_1074 (n_276_1074 _) ?_
  refine i_iadd r_276_1075 (n_276_1075 _) ?_
  obtain ⟨g1, h⟩ := h
  refine i_script hS r_276_1076 (n_276_1076 _) g1.2.2 g1.1 g1.2.1 (fun q2 => ?_)
  refine i_aload_n (a := 275) r_276_1077 (n_276_1077 _) rfl ?_
  refine wp_stat (rest := []) (Ls := [(0, rf 2), (1, iv ((xs (x4 + 1).toNat).toInt)), (2, rf 275)]) r_276_1078 (n_276_1078 _) rfl ⟨rfl, by decide, by decide, by decide⟩ rfl rfl ⟨rfl, Nat.le_of_ble_eq_true rfl, Nat.le_of_ble_eq_true rfl⟩ rfl h ?_
  intro o3 s3 h
  rcases h with ⟨y3, q4, rfl, h⟩ | ⟨e3, rfl, h⟩
  · refine .inl ⟨some (iv y3), rfl, ?_⟩
    show wp S 276 1081 [(0, rf 0), (1, rf 2), (2, rf 252), (3, rf 275), (4, iv x4)] [iv y3] s3 Q
    refine i_istore (l' := [(0, rf 0), (1, rf 2), (2, rf 252), (3, rf 275), (4, iv x4), (5, iv y3)]) r_276_1081 (n_276_1081 _) (by decide) rfl ?_
    refine i_aload_n (a := 252) r_276_1083 (n_276_1083 _) rfl ?_
    refine i_aload_n (a := 0) r_276_1084 (n_276_1084 _) rfl ?_
    refine i_iload (x := x4) r_276_1085 (n_276_1085 _) rfl ?_
    refine i_iconst r_276_1087 (n_276_1087 _) ?_
    refine i_iadd r_276_1088 (n_276_1088 _) ?_
    refine i_script hS r_276_1089 (n_276_1089 _) g1.2.2 g1.1 g1.2.1 (fun q5 => ?_)
    refine wp_virt (b := 252) (rest := []) (Ls := [(0, rf 252), (1, iv ((xs (x4 + 1).toNat).toInt))]) r_276_1090 (n_276_1090 _) rfl ⟨rfl, rfl, by decide, by decide⟩ rfl rfl lf_252 ⟨rfl, Nat.le_of_ble_eq_true rfl, Nat.le_of_ble_eq_true rfl⟩ rfl h ?_
    intro o6 s6 h
    rcases h with ⟨y6, q7, rfl, h⟩ | ⟨e6, rfl, h⟩
    · refine .inl ⟨some (iv y6), rfl, ?_⟩
      show wp S 276 1093 [(0, rf 0), (1, rf 2), (2, rf 252), (3, rf 275), (4, iv x4), (5, iv y3)] [iv y6] s6 Q
      refine i_istore (l' := [(0, rf 0), (1, rf 2), (2, rf 252), (3, rf 275), (4, iv x4), (5, iv y3), (6, iv y6)]) r_276_1093 (n_276_1093 _) (by decide) rfl ?_
      refine i_aload_n (a := 252) r_276_1095 (n_276_1095 _) rfl ?_
      refine wp_virt (b := 252) (rest := []) (Ls := [(0, rf 252)]) r_276_1096 (n_276_1096 _) rfl ⟨rfl, rfl, by decide, by decide⟩ rfl rfl lf_252 ⟨rfl, Nat.le_of_ble_eq_true rfl, Nat.le_of_ble_eq_true rfl⟩ rfl K_Model_thrown ?_
      rintro _ _ ⟨rfl, rfl⟩
      refine .inl ⟨some (iv (zI s6 252 3)), rfl, ?_⟩
      show wp S 276 1099 [(0, rf 0), (1, rf 2), (2, rf 252), (3, rf 275), (4, iv x4), (5, iv y3), (6, iv y6)] [iv (zI s6 252 3)] s6 Q
      refine wp_rd (a := 252) (j := 3) (fun q9 => ?_)
      refine i_iload (x := y3) r_276_1099 (n_276_1099 _) rfl ?_
      refine i_icmp (t := 1106) r_276_1101 (n_276_1101 _) rfl (T_eq q9 q4) (fun c10 => ?_) (fun c10 => ?_)
      · replace h := h.1 c10
        refine i_iload (x := y3) r_276_1106 (n_276_1106 _) rfl ?_
        refine i_if (t := 1123) r_276_1108 (n_276_1108 _) rfl (T_ne q4 ⟨by omega, by omega⟩) (fun c11 => ?_) (fun c11 => ?_)
        · replace h := h.1 c11
          refine i_goto (t := 2908) r_276_1123 (n_276_1123 _) rfl ?_
          refine i_iinc (x := x4) (l' := [(0, rf 0), (1, rf 2), (2, rf 252), (3, rf 275), (4, iv (x4 + 7)), (5, iv y3), (6, iv y6)]) r_276_2908 (n_276_2908 _) (by decide) rfl rfl ?_
          refine i_goto (t := 23) r_276_2911 (n_276_2911 _) rfl ?_
          exact wp_pr (l' := [(0, rf 0), (1, rf 2), (2, rf 252), (3, rf 275), (4, iv (x4 + 7))]) rfl h
        · replace h := h.2 c11
          refine i_aload_n (a := 275) r_276_1111 (n_276_1111 _) rfl ?_
          refine i_iconst r_276_1112 (n_276_1112 _) ?_
          refine i_laload (a := 275) (j := 0) r_276_1113 (n_276_1113 _) lf_275 ⟨by omega, by omega⟩ (by omega) (by omega) ?_
          refine i_iload (x := y6) r_276_1114 (n_276_1114 _) rfl ?_
          refine i_i2l r_276_1116 (n_276_1116 _) ?_
          refine i_lcmp r_276_1117 (n_276_1117 _) ?_
          refine i_if (t := 1123) r_276_1118 (n_276_1118 _) rfl (T_eq (zcmp_rng _ _) ⟨by omega, by omega⟩) (fun c12 => ?_) (fun c12 => ?_)
          · replace h := h.1 c12
            refine i_goto (t := 2908) r_276_1123 (n_276_1123 _) rfl ?_
            refine i_iinc (x := x4) (l' := [(0, rf 0), (1, rf 2), (2, rf 252), (3, rf 275), (4, iv (x4 + 7)), (5, iv y3), (6, iv y6)]) r_276_2908 (n_276_2908 _) (by decide) rfl rfl ?_
            refine i_goto (t := 23) r_276_2911 (n_276_2911 _) rfl ?_
            exact wp_pr (l' := [(0, rf 0), (1, rf 2), (2, rf 252), (3, rf 275), (4, iv (x4 + 7))]) rfl h
          · replace h := h.2 c12
            refine i_iconst r_276_1121 (n_276_1121 _) ?_
            exact i_zreturn r_276_1122 (n_276_1122 _) rfl (by decide) h
      · replace h := h.2 c10
        refine i_iconst r_276_1104 (n_276_1104 _) ?_
        exact i_zreturn r_276_1105 (n_276_1105 _) rfl (by decide) h
    · skip
      exact h.elim
  · skip
    exact h.elim
theorem v_Law_law_1126 {S : Option (Nat × (Nat → Int32))} {L : Nat} {xs : Nat → Int32} (hS : S = some (L, xs)) {s : zSt} {Q : Option Value ⊕ Nat → zSt → Prop} {x4 : Int} 
    (h : wp S 12 0 [(0, rf 2)] [] s (fun o1 s1 => zkI (fun y1 => wp S 239 0 [(0, rf 252)] [] s1 (fun o3 s3 => zkI (fun y3 => (y1 = y3 → wp S 276 23 [(0, rf 0), (1, rf 2), (2, rf 252), (3, rf 275), (4, iv (x4 + 7))] [] s3 Q) ∧ (y1 ≠ y3 → Q (rI 0) s3)) (fun e3 => False) o3)) (fun e1 => False) o1)) :
    wp S 276 1126 [(0, rf 0), (1, rf 2), (2, rf 252), (3, rf 275), (4, iv x4)] [] s Q := by
  refine i_aload_n (a := 2) r_276_1126 rfl rfl ?_
  refine wp_virt (b := 2) (rest := []) (Ls := [(0, rf 2)]) r_276_1127 (n_276_1127 _) rfl ⟨rfl, rfl, by decide, by decide⟩ rfl rfl lf_2 ⟨rfl, Nat.le_of_ble_eq_true rfl, Nat.le_of_ble_eq_true rfl⟩ rfl h ?_
  intro o1 s1 h
  rcases h with ⟨y1, q2, rfl, h⟩ | ⟨e1, rfl, h⟩
  · refine .inl ⟨some (iv y1), rfl, ?_⟩
    show wp S 276 1130 [(0, rf 0), (1, rf 2), (2, rf 252), (3, rf 275), (4, iv x4)] [iv y1] s1 Q
    refine i_aload_n (a := 252) r_276_1130 (n_276_1130 _) rfl ?_
    refine wp_virt (b := 252) (rest := [iv y1]) (Ls := [(0, rf 252)]) r_276_1131 (n_276_1131 _) rfl ⟨rfl, rfl, by decide, by decide⟩ rfl rfl lf_252 ⟨rfl, Nat.le_of_ble_eq_true rfl, Nat.le_of_ble_eq_true rfl⟩ rfl h ?_
    intro o3 s3 h
    rcases h with ⟨y3, q4, rfl, h⟩ | ⟨e3, rfl, h⟩
    · refine .inl ⟨some (iv y3), rfl, ?_⟩
      show wp S 276 1134 [(0, rf 0), (1, rf 2), (2, rf 252), (3, rf 275), (4, iv x4)] [iv y3, iv y1] s3 Q
      refine i_icmp (t := 2908) r_276_1134 (n_276_1134 _) rfl (T_eq q2 q4) (fun c5 => ?_) (fun c5 => ?_)
      · replace h := h.1 c5
        refine i_iinc (x := x4) (l' := [(0, rf 0), (1, rf 2), (2, rf 252), (3, rf 275), (4, iv (x4 + 7))]) r_276_2908 (n_276_2908 _) (by decide) rfl rfl ?_
        refine i_goto (t := 23) r_276_2911 (n_276_2911 _) rfl ?_
        exact wp_pr (l' := [(0, rf 0), (1, rf 2), (2, rf 252), (3, rf 275), (4, iv (x4 + 7))]) rfl h
      · replace h := h.2 c5
        refine i_iconst r_276_1137 (n_276_1137 _) ?_
        exact i_zreturn r_276_1138 (n_276_1138 _) rfl (by decide) h
    · skip
      exact h.elim
  · skip
    exact h.elim
theorem v_Law_law_1139 {S : Option (Nat × (Nat → Int32))} {L : Nat} {xs : Nat → Int32} (hS : S = some (L, xs)) {s : zSt} {Q : Option Value ⊕ Nat → zSt → Prop} {x4 : Int} 
    (h : (0 ≤ (x4 + 1) ∧ (x4 + 1) < (L : Int) ∧ rng (x4 + 1)) ∧ ((0 ≤ (x4 + 2) ∧ (x4 + 2) < (L : Int) ∧ rng (x4 + 2)) ∧ (wp S 113 0 [(0, rf 2), (1, iv ((xs (x4 + 1).toNat).toInt)), (2, iv ((xs (x4 + 2).toNat).toInt)), (3, rf 275)] [] s (fun o5 s5 => zkI (fun y5 => wp S 241 0 [(0, rf 252), (1, iv ((xs (x4 + 1).toNat).toInt)), (2, iv ((xs (x4 + 2).toNat).toInt))] [] s5 (fun o9 s9 => zkI (fun y9 => ((zI s9 252 3) = y5 → (y5 ≠ 0 → wp S 276 23 [(0, rf 0), (1, rf 2), (2, rf 252), (3, rf 275), (4, iv (x4 + 7))] [] s9 Q) ∧ (y5 = 0 → ((zcmp (zL s9 275 0) (zi2l y9)) = 0 → wp S 276 23 [(0, rf 0), (1, rf 2), (2, rf 252), (3, rf 275), (4, iv (x4 + 7))] [] s9 Q) ∧ ((zcmp (zL s9 275 0) (zi2l y9)) ≠ 0 → Q (rI 0) s9))) ∧ ((zI s9 252 3) ≠ y5 → Q (rI 0) s9)) (fun e9 => False) o9)) (fun e5 => False) o5)))) :
    wp S 276 1139 [(0, rf 0), (1, rf 2), (2, rf 252), (3, rf 275), (4, iv x4)] [] s Q := by
  refine i_aload_n (a := 2) r_276_1139 rfl rfl ?_
  refine i_aload_n (a := 0) r_276_1140 (n_276_1140 _) rfl ?_
  refine i_iload (x := x4) r_276_1141 (n_276_1141 _) rfl ?_
  refine i_iconst r_276_1143 (n_276_1143 _) ?_
  refine i_iadd r_276_1144 (n_276_1144 _) ?_
  obtain ⟨g1, h⟩ := h
  refine i_script hS r_276_1145 (n_276_1145 _) g1.2.2 g1.1 g1.2.1 (fun q2 => ?_)
  refine i_aload_n (a := 0) r_276_1146 (n_276_1146 _) rfl ?_
  refine i_iload (x := x4) r_276_1147 (n_276_1147 _) rfl ?_
  refine i_iconst r_276_1149 (n_276_1149 _) ?_
  refine i_iadd r_276_1150 (n_276_1150 _) ?_
  obtain ⟨g3, h⟩ := h
  refine i_script hS r_276_1151 (n_276_1151 _) g3.2.2 g3.1 g3.2.1 (fun q4 => ?_)
  refine i_aload_n (a := 275) r_276_1152 (n_276_1152 _) rfl ?_
  refine wp_stat (rest := []) (Ls := [(0, rf 2), (1, iv ((xs (x4 + 1).toNat).toInt)), (2, iv ((xs (x4 + 2).toNat).toInt)), (3, rf 275)]) r_276_1153 (n_276_1153 _) rfl ⟨rfl, by decide, by decide, by decide⟩ rfl rfl ⟨rfl, Nat.le_of_ble_eq_true rfl, Nat.le_of_ble_eq_true rfl⟩ rfl h ?_
  intro o5 s5 h
  rcases h with ⟨y5, q6, rfl, h⟩ | ⟨e5, rfl, h⟩
  · refine .inl ⟨some (iv y5), rfl, ?_⟩
    show wp S 276 1156 [(0, rf 0), (1, rf 2), (2, rf 252), (3, rf 275), (4, iv x4)] [iv y5] s5 Q
    refine i_istore (l' := [(0, rf 0), (1, rf 2), (2, rf 252), (3, rf 275), (4, iv x4), (5, iv y5)]) r_276_1156 (n_276_1156 _) (by decide) rfl ?_
    refine i_aload_n (a := 252) r_276_1158 (n_276_1158 _) rfl ?_
    refine i_aload_n (a := 0) r_276_1159 (n_276_1159 _) rfl ?_
    refine i_iload (x := x4) r_276_1160 (n_276_1160 _) rfl ?_
    refine i_iconst r_276_1162 (n_276_1162 _) ?_
    refine i_iadd r_276_1163 (n_276_1163 _) ?_
    refine i_script hS r_276_1164 (n_276_1164 _) g1.2.2 g1.1 g1.2.1 (fun q7 => ?_)
    refine i_aload_n (a := 0) r_276_1165 (n_276_1165 _) rfl ?_
    refine i_iload (x := x4) r_276_1166 (n_276_1166 _) rfl ?_
    refine i_iconst r_276_1168 (n_276_1168 _) ?_
    refine i_iadd r_276_1169 (n_276_1169 _) ?_
    refine i_script hS r_276_1170 (n_276_1170 _) g3.2.2 g3.1 g3.2.1 (fun q8 => ?_)
    refine wp_virt (b := 252) (rest := []) (Ls := [(0, rf 252), (1, iv ((xs (x4 + 1).toNat).toInt)), (2, iv ((xs (x4 + 2).toNat).toInt))]) r_276_1171 (n_276_1171 _) rfl ⟨rfl, rfl, by decide, by decide⟩ rfl rfl lf_252 ⟨rfl, Nat.le_of_ble_eq_true rfl, Nat.le_of_ble_eq_true rfl⟩ rfl h ?_
    intro o9 s9 h
    rcases h with ⟨y9, q10, rfl, h⟩ | ⟨e9, rfl, h⟩
    · refine .inl ⟨some (iv y9), rfl, ?_⟩
      show wp S 276 1174 [(0, rf 0), (1, rf 2), (2, rf 252), (3, rf 275), (4, iv x4), (5, iv y5)] [iv y9] s9 Q
      refine i_istore (l' := [(0, rf 0), (1, rf 2), (2, rf 252), (3, rf 275), (4, iv x4), (5, iv y5), (6, iv y9)]) r_276_1174 (n_276_1174 _) (by decide) rfl ?_
      refine i_aload_n (a := 252) r_276_1176 (n_276_1176 _) rfl ?_
      refine wp_virt (b := 252) (rest := []) (Ls := [(0, rf 252)]) r_276_1177 (n_276_1177 _) rfl ⟨rfl, rfl, by decide, by decide⟩ rfl rfl lf_252 ⟨rfl, Nat.le_of_ble_eq_true rfl, Nat.le_of_ble_eq_true rfl⟩ rfl K_Model_thrown ?_
      rintro _ _ ⟨rfl, rfl⟩
      refine .inl ⟨some (iv (zI s9 252 3)), rfl, ?_⟩
      show wp S 276 1180 [(0, rf 0), (1, rf 2), (2, rf 252), (3, rf 275), (4, iv x4), (5, iv y5), (6, iv y9)] [iv (zI s9 252 3)] s9 Q
      refine wp_rd (a := 252) (j := 3) (fun q12 => ?_)
      refine i_iload (x := y5) r_276_1180 (n_276_1180 _) rfl ?_
      refine i_icmp (t := 1187) r_276_1182 (n_276_1182 _) rfl (T_eq q12 q6) (fun c13 => ?_) (fun c13 => ?_)
      · replace h := h.1 c13
        refine i_iload (x := y5) r_276_1187 (n_276_1187 _) rfl ?_
        refine i_if (t := 1204) r_276_1189 (n_276_1189 _) rfl (T_ne q6 ⟨by omega, by omega⟩) (fun c14 => ?_) (fun c14 => ?_)
        · replace h := h.1 c14
          refine i_goto (t := 2908) r_276_1204 (n_276_1204 _) rfl ?_
          refine i_iinc (x := x4) (l' := [(0, rf 0), (1, rf 2), (2, rf 252), (3, rf 275), (4, iv (x4 + 7)), (5, iv y5), (6, iv y9)]) r_276_2908 (n_276_2908 _) (by decide) rfl rfl ?_
          refine i_goto (t := 23) r_276_2911 (n_276_2911 _) rfl ?_
          exact wp_pr (l' := [(0, rf 0), (1, rf 2), (2, rf 252), (3, rf 275), (4, iv (x4 + 7))]) rfl h
        · replace h := h.2 c14
          refine i_aload_n (a := 275) r_276_1192 (n_276_1192 _) rfl ?_
          refine i_iconst r_276_1193 (n_276_1193 _) ?_
          refine i_laload (a := 275) (j := 0) r_276_1194 (n_276_1194 _) lf_275 ⟨by omega, by omega⟩ (by omega) (by omega) ?_
          refine i_iload (x := y9) r_276_1195 (n_276_1195 _) rfl ?_
          refine i_i2l r_276_1197 (n_276_1197 _) ?_
          refine i_lcmp r_276_1198 (n_276_1198 _) ?_
          refine i_if (t := 1204) r_276_1199 (n_276_1199 _) rfl (T_eq (zcmp_rng _ _) ⟨by omega, by omega⟩) (fun c15 => ?_) (fun c15 => ?_)
          · replace h := h.1 c15
            refine i_goto (t := 2908) r_276_1204 (n_276_1204 _) rfl ?_
            refine i_iinc (x := x4) (l' := [(0, rf 0), (1, rf 2), (2, rf 252), (3, rf 275), (4, iv (x4 + 7)), (5, iv y5), (6, iv y9)]) r_276_2908 (n_276_2908 _) (by decide) rfl rfl ?_
            refine i_goto (t := 23) r_276_2911 (n_276_2911 _) rfl ?_
            exact wp_pr (l' := [(0, rf 0), (1, rf 2), (2, rf 252), (3, rf 275), (4, iv (x4 + 7))]) rfl h
          · replace h := h.2 c15
            refine i_iconst r_276_1202 (n_276_1202 _) ?_
            exact i_zreturn r_276_1203 (n_276_1203 _) rfl (by decide) h
      · replace h := h.2 c13
        refine i_iconst r_276_1185 (n_276_1185 _) ?_
        exact i_zreturn r_276_1186 (n_276_1186 _) rfl (by decide) h
    · skip
      exact h.elim
  · skip
    exact h.elim
theorem v_Law_law_1207 {S : Option (Nat × (Nat → Int32))} {L : Nat} {xs : Nat → Int32} (hS : S = some (L, xs)) {s : zSt} {Q : Option Value ⊕ Nat → zSt → Prop} {x4 : Int} 
    (h : (0 ≤ (x4 + 1) ∧ (x4 + 1) < (L : Int) ∧ rng (x4 + 1)) ∧ ((0 ≤ (x4 + 2) ∧ (x4 + 2) < (L : Int) ∧ rng (x4 + 2)) ∧ ((0 ≤ (x4 + 3) ∧ (x4 + 3) < (L : Int) ∧ rng (x4 + 3)) ∧ (wp S 115 0 [(0, rf 2), (1, iv ((xs (x4 + 1).toNat).toInt)), (2, iv ((xs (x4 + 2).toNat).toInt)), (3, iv ((xs (x4 + 3).toNat).toInt)), (4, rf 275)] [] s (fun o7 s7 => zkI (fun y7 => wp S 242 0 [(0, rf 252), (1, iv ((xs (x4 + 1).toNat).toInt)), (2, iv ((xs (x4 + 2).toNat).toInt)), (3, iv ((xs (x4 + 3).toNat).toInt))] [] s7 (fun o12 s12 => zkI (fun y12 => ((zI s12 252 3) = y7 → (y7 ≠ 0 → wp S 276 23 [(0, rf 0), (1, rf 2), (2, rf 252), (3, rf 275), (4, iv (x4 + 7))] [] s12 Q) ∧ (y7 = 0 → ((zcmp (zL s12 275 0) (zi2l y12)) = 0 → wp S 276 23 [(0, rf 0), (1, rf 2), (2, rf 252), (3, rf 275), (4, iv (x4 + 7))] [] s12 Q) ∧ ((zcmp (zL s12 275 0) (zi2l y12)) ≠ 0 → Q (rI 0) s12))) ∧ ((zI s12 252 3) ≠ y7 → Q (rI 0) s12)) (fun e12 => False) o12)) (fun e7 => False) o7))))) :
    wp S 276 1207 [(0, rf 0), (1, rf 2), (2, rf 252), (3, rf 275), (4, iv x4)] [] s Q := by
  refine i_aload_n (a := 2) r_276_1207 rfl rfl ?_
  refine i_aload_n (a := 0) r_276_1208 (n_276_1208 _) rfl ?_
  refine i_iload (x := x4) r_276_1209 (n_276_1209 _) rfl ?_
  refine i_iconst r_276_1211 (n_276_1211 _) ?_
  refine i_iadd r_276_1212 (n_276_1212 _) ?_
  obtain ⟨g1, h⟩ := h
  refine i_script hS r_276_1213 (n_276_1213 _) g1.2.2 g1.1 g1.2.1 (fun q2 => ?_)
  refine i_aload_n (a := 0) r_276_1214 (n_276_1214 _) rfl ?_
  refine i_iload (x := x4) r_276_1215 (n_276_1215 _) rfl ?_
  refine i_iconst r_276_1217 (n_276_1217 _) ?_
  refine i_iadd r_276_1218 (n_276_1218 _) ?_
  obtain ⟨g3, h⟩ := h
  refine i_script hS r_276_1219 (n_276_1219 _) g3.2.2 g3.1 g3.2.1 (fun q4 => ?_)
  refine i_aload_n (a := 0) r_276_1220 (n_276_1220 _) rfl ?_
  refine i_iload (x := x4) r_276_1221 (n_276_1221 _) rfl ?_
  refine i_iconst r_276_1223 (n_276_1223 _) ?_
  refine i_iadd r_276_1224 (n_276_1224 _) ?_
  obtain ⟨g5, h⟩ := h
  refine i_script hS r_276_1225 (n_276_1225 _) g5.2.2 g5.1 g5.2.1 (fun q6 => ?_)
  refine i_aload_n (a := 275) r_276_1226 (n_276_1226 _) rfl ?_
  refine wp_stat (rest := []) (Ls := [(0, rf 2), (1, iv ((xs (x4 + 1).toNat).toInt)), (2, iv ((xs (x4 + 2).toNat).toInt)), (3, iv ((xs (x4 + 3).toNat).toInt)), (4, rf 275)]) r_276_1227 (n_276_1227 _) rfl ⟨rfl, by decide, by decide, by decide⟩ rfl rfl ⟨rfl, Nat.le_of_ble_eq_true rfl, Nat.le_of_ble_eq_true rfl⟩ rfl h ?_
  intro o7 s7 h
  rcases h with ⟨y7, q8, rfl, h⟩ | ⟨e7, rfl, h⟩
  · refine .inl ⟨some (iv y7), rfl, ?_⟩
    show wp S 276 1230 [(0, rf 0), (1, rf 2), (2, rf 252), (3, rf 275), (4, iv x4)] [iv y7] s7 Q
    refine i_istore (l' := [(0, rf 0), (1, rf 2), (2, rf 252), (3, rf 275), (4, iv x4), (5, iv y7)]) r_276_1230 (n_276_1230 _) (by decide) rfl ?_
    refine i_aload_n (a := 252) r_276_1232 (n_276_1232 _) rfl ?_
    refine i_aload_n (a := 0) r_276_1233 (n_276_1233 _) rfl ?_
    refine i_iload (x := x4) r_276_1234 (n_276_1234 _) rfl ?_
    refine i_iconst r_276_1236 (n_276_1236 _) ?_
    refine i_iadd r_276_1237 (n_276_1237 _) ?_
    refine i_script hS r_276_1238 (n_276_1238 _) g1.2.2 g1.1 g1.2.1 (fun q9 => ?_)
    refine i_aload_n (a := 0) r_276_1239 (n_276_1239 _) rfl ?_
    refine i_iload (x := x4) r_276_1240 (n_276_1240 _) rfl ?_
    refine i_iconst r_276_1242 (n_276_1242 _) ?_
    refine i_iadd r_276_1243 (n_276_1243 _) ?_
    refine i_script hS r_276_1244 (n_276_1244 _) g3.2.2 g3.1 g3.2.1 (fun q10 => ?_)
    refine i_aload_n (a := 0) r_276_1245 (n_276_1245 _) rfl ?_
    refine i_iload (x := x4) r_276_1246 (n_276_1246 _) rfl ?_
    refine i_iconst r_276_1248 (n_276_1248 _) ?_
    refine i_iadd r_276_1249 (n_276_1249 _) ?_
    refine i_script hS r_276_1250 (n_276_1250 _) g5.2.2 g5.1 g5.2.1 (fun q11 => ?_)
    refine wp_virt (b := 252) (rest := []) (Ls := [(0, rf 252), (1, iv ((xs (x4 + 1).toNat).toInt)), (2, iv ((xs (x4 + 2).toNat).toInt)), (3, iv ((xs (x4 + 3).toNat).toInt))]) r_276_1251 (n_276_1251 _) rfl ⟨rfl, rfl, by decide, by decide⟩ rfl rfl lf_252 ⟨rfl, Nat.le_of_ble_eq_true rfl, Nat.le_of_ble_eq_true rfl⟩ rfl h ?_
    intro o12 s12 h
    rcases h with ⟨y12, q13, rfl, h⟩ | ⟨e12, rfl, h⟩
    · refine .inl ⟨some (iv y12), rfl, ?_⟩
      show wp S 276 1254 [(0, rf 0), (1, rf 2), (2, rf 252), (3, rf 275), (4, iv x4), (5, iv y7)] [iv y12] s12 Q
      refine i_istore (l' := [(0, rf 0), (1, rf 2), (2, rf 252), (3, rf 275), (4, iv x4), (5, iv y7), (6, iv y12)]) r_276_1254 (n_276_1254 _) (by decide) rfl ?_
      refine i_aload_n (a := 252) r_276_1256 (n_276_1256 _) rfl ?_
      refine wp_virt (b := 252) (rest := []) (Ls := [(0, rf 252)]) r_276_1257 (n_276_1257 _) rfl ⟨rfl, rfl, by decide, by decide⟩ rfl rfl lf_252 ⟨rfl, Nat.le_of_ble_eq_true rfl, Nat.le_of_ble_eq_true rfl⟩ rfl K_Model_thrown ?_
      rintro _ _ ⟨rfl, rfl⟩
      refine .inl ⟨some (iv (zI s12 252 3)), rfl, ?_⟩
      show wp S 276 1260 [(0, rf 0), (1, rf 2), (2, rf 252), (3, rf 275), (4, iv x4), (5, iv y7), (6, iv y12)] [iv (zI s12 252 3)] s12 Q
      refine wp_rd (a := 252) (j := 3) (fun q15 => ?_)
      refine i_iload (x := y7) r_276_1260 (n_276_1260 _) rfl ?_
      refine i_icmp (t := 1267) r_276_1262 (n_276_1262 _) rfl (T_eq q15 q8) (fun c16 => ?_) (fun c16 => ?_)
      · replace h := h.1 c16
        refine i_iload (x := y7) r_276_1267 (n_276_1267 _) rfl ?_
        refine i_if (t := 1284) r_276_1269 (n_276_1269 _) rfl (T_ne q8 ⟨by omega, by omega⟩) (fun c17 => ?_) (fun c17 => ?_)
        · replace h := h.1 c17
          refine i_goto (t := 2908) r_276_1284 (n_276_1284 _) rfl ?_
          refine i_iinc (x := x4) (l' := [(0, rf 0), (1, rf 2), (2, rf 252), (3, rf 275), (4, iv (x4 + 7)), (5, iv y7), (6, iv y12)]) r_276_2908 (n_276_2908 _) (by decide) rfl rfl ?_
          refine i_goto (t := 23) r_276_2911 (n_276_2911 _) rfl ?_
          exact wp_pr (l' := [(0, rf 0), (1, rf 2), (2, rf 252), (3, rf 275), (4, iv (x4 + 7))]) rfl h
        · replace h := h.2 c17
          refine i_aload_n (a := 275) r_276_1272 (n_276_1272 _) rfl ?_
          refine i_iconst r_276_1273 (n_276_1273 _) ?_
          refine i_laload (a := 275) (j := 0) r_276_1274 (n_276_1274 _) lf_275 ⟨by omega, by omega⟩ (by omega) (by omega) ?_
          refine i_iload (x := y12) r_276_1275 (n_276_1275 _) rfl ?_
          refine i_i2l r_276_1277 (n_276_1277 _) ?_
          refine i_lcmp r_276_1278 (n_276_1278 _) ?_
          refine i_if (t := 1284) r_276_1279 (n_276_1279 _) rfl (T_eq (zcmp_rng _ _) ⟨by omega, by omega⟩) (fun c18 => ?_) (fun c18 => ?_)
          · replace h := h.1 c18
            refine i_goto (t := 2908) r_276_1284 (n_276_1284 _) rfl ?_
            refine i_iinc (x := x4) (l' := [(0, rf 0), (1, rf 2), (2, rf 252), (3, rf 275), (4, iv (x4 + 7)), (5, iv y7), (6, iv y12)]) r_276_2908 (n_276_2908 _) (by decide) rfl rfl ?_
            refine i_goto (t := 23) r_276_2911 (n_276_2911 _) rfl ?_
            exact wp_pr (l' := [(0, rf 0), (1, rf 2), (2, rf 252), (3, rf 275), (4, iv (x4 + 7))]) rfl h
          · replace h := h.2 c18
            refine i_iconst r_276_1282 (n_276_1282 _) ?_
            exact i_zreturn r_276_1283 (n_276_1283 _) rfl (by decide) h
      · replace h := h.2 c16
        refine i_iconst r_276_1265 (n_276_1265 _) ?_
        exact i_zreturn r_276_1266 (n_276_1266 _) rfl (by decide) h
    · skip
      exact h.elim
  · skip
    exact h.elim
theorem v_Law_law_1287 {S : Option (Nat × (Nat → Int32))} {L : Nat} {xs : Nat → Int32} (hS : S = some (L, xs)) {s : zSt} {Q : Option Value ⊕ Nat → zSt → Prop} {x4 : Int} 
    (h : (0 ≤ (x4 + 1) ∧ (x4 + 1) < (L : Int) ∧ rng (x4 + 1)) ∧ ((0 ≤ (x4 + 2) ∧ (x4 + 2) < (L : Int) ∧ rng (x4 + 2)) ∧ ((0 ≤ (x4 + 3) ∧ (x4 + 3) < (L : Int) ∧ rng (x4 + 3)) ∧ (wp S 124 0 [(0, rf 2), (1, iv ((xs (x4 + 1).toNat).toInt)), (2, iv ((xs (x4 + 2).toNat).toInt)), (3, iv ((xs (x4 + 3).toNat).toInt)), (4, rf 275)] [] s (fun o7 s7 => zkI (fun y7 => wp S 247 0 [(0, rf 252), (1, iv ((xs (x4 + 1).toNat).toInt)), (2, iv ((xs (x4 + 2).toNat).toInt)), (3, iv ((xs (x4 + 3).toNat).toInt))] [] s7 (fun o12 s12 => zkL (fun y12 => ((zI s12 252 3) = y7 → (y7 ≠ 0 → wp S 276 23 [(0, rf 0), (1, rf 2), (2, rf 252), (3, rf 275), (4, iv (x4 + 7))] [] s12 Q) ∧ (y7 = 0 → ((zcmp (zL s12 275 0) y12) = 0 → wp S 276 23 [(0, rf 0), (1, rf 2), (2, rf 252), (3, rf 275), (4, iv (x4 + 7))] [] s12 Q) ∧ ((zcmp (zL s12 275 0) y12) ≠ 0 → Q (rI 0) s12))) ∧ ((zI s12 252 3) ≠ y7 → Q (rI 0) s12)) (fun e12 => False) o12)) (fun e7 => False) o7))))) :
    wp S 276 1287 [(0, rf 0), (1, rf 2), (2, rf 252), (3, rf 275), (4, iv x4)] [] s Q := by
  refine i_aload_n (a := 2) r_276_1287 rfl rfl ?_
  refine i_aload_n (a := 0) r_276_1288 (n_276_1288 _) rfl ?_
  refine i_iload (x := x4) r_276_1289 (n_276_1289 _) rfl ?_
  refine i_iconst r_276_1291 (n_276_1291 _) ?_
  refine i_iadd r_276_1292 (n_276_1292 _) ?_
  obtain ⟨g1, h⟩ := h
  refine i_script hS r_276_1293 (n_276_1293 _) g1.2.2 g1.1 g1.2.1 (fun q2 => ?_)
  refine i_aload_n (a := 0) r_276_1294 (n_276_1294 _) rfl ?_
  refine i_iload (x := x4) r_276_1295 (n_276_1295 _) rfl ?_
  refine i_iconst r_276_1297 (n_276_1297 _) ?_
  refine i_iadd r_276_1298 (n_276_1298 _) ?_
  obtain ⟨g3, h⟩ := h
  refine i_script hS r_276_1299 (n_276_1299 _) g3.2.2 g3.1 g3.2.1 (fun q4 => ?_)
  refine i_aload_n (a := 0) r_276_1300 (n_276_1300 _) rfl ?_
  refine i_iload (x := x4) r_276_1301 (n_276_1301 _) rfl ?_
  refine i_iconst r_276_1303 (n_276_1303 _) ?_
  refine i_iadd r_276_1304 (n_276_1304 _) ?_
  obtain ⟨g5, h⟩ := h
  refine i_script hS r_276_1305 (n_276_1305 _) g5.2.2 g5.1 g5.2.1 (fun q6 => ?_)
  refine i_aload_n (a := 275) r_276_1306 (n_276_1306 _) rfl ?_
  refine wp_stat (rest := []) (Ls := [(0, rf 2), (1, iv ((xs (x4 + 1).toNat).toInt)), (2, iv ((xs (x4 + 2).toNat).toInt)), (3, iv ((xs (x4 + 3).toNat).toInt)), (4, rf 275)]) r_276_1307 (n_276_1307 _) rfl ⟨rfl, by decide, by decide, by decide⟩ rfl rfl ⟨rfl, Nat.le_of_ble_eq_true rfl, Nat.le_of_ble_eq_true rfl⟩ rfl h ?_
  intro o7 s7 h
  rcases h with ⟨y7, q8, rfl, h⟩ | ⟨e7, rfl, h⟩
  · refine .inl ⟨some (iv y7), rfl, ?_⟩
    show wp S 276 1310 [(0, rf 0), (1, rf 2), (2, rf 252), (3, rf 275), (4, iv x4)] [iv y7] s7 Q
    refine i_istore (l' := [(0, rf 0), (1, rf 2), (2, rf 252), (3, rf 275), (4, iv x4), (5, iv y7)]) r_276_1310 (n_276_1310 _) (by decide) rfl ?_
    refine i_aload_n (a := 252) r_276_1312 (n_276_1312 _) rfl ?_
    refine i_aload_n (a := 0) r_276_1313 (n_276_1313 _) rfl ?_
    refine i_iload (x := x4) r_276_1314 (n_276_1314 _) rfl ?_
    refine i_iconst r_276_1316 (n_276_1316 _) ?_
    refine i_iadd r_276_1317 (n_276_1317 _) ?_
    refine i_script hS r_276_1318 (n_276_1318 _) g1.2.2 g1.1 g1.2.1 (fun q9 => ?_)
    refine i_aload_n (a := 0) r_276_1319 (n_276_1319 _) rfl ?_
    refine i_iload (x := x4) r_276_1320 (n_276_1320 _) rfl ?_
    refine i_iconst r_276_1322 (n_276_1322 _) ?_
    refine i_iadd r_276_1323 (n_276_1323 _) ?_
    refine i_script hS r_276_1324 (n_276_1324 _) g3.2.2 g3.1 g3.2.1 (fun q10 => ?_)
    refine i_aload_n (a := 0) r_276_1325 (n_276_1325 _) rfl ?_
    refine i_iload (x := x4) r_276_1326 (n_276_1326 _) rfl ?_
    refine i_iconst r_276_1328 (n_276_1328 _) ?_
    refine i_iadd r_276_1329 (n_276_1329 _) ?_
    refine i_script hS r_276_1330 (n_276_1330 _) g5.2.2 g5.1 g5.2.1 (fun q11 => ?_)
    refine wp_virt (b := 252) (rest := []) (Ls := [(0, rf 252), (1, iv ((xs (x4 + 1).toNat).toInt)), (2, iv ((xs (x4 + 2).toNat).toInt)), (3, iv ((xs (x4 + 3).toNat).toInt))]) r_276_1331 (n_276_1331 _) rfl ⟨rfl, rfl, by decide, by decide⟩ rfl rfl lf_252 ⟨rfl, Nat.le_of_ble_eq_true rfl, Nat.le_of_ble_eq_true rfl⟩ rfl h ?_
    intro o12 s12 h
    rcases h with ⟨y12, rfl, h⟩ | ⟨e12, rfl, h⟩
    · refine .inl ⟨some (.long y12), rfl, ?_⟩
      show wp S 276 1334 [(0, rf 0), (1, rf 2), (2, rf 252), (3, rf 275), (4, iv x4), (5, iv y7)] [.long y12] s12 Q
      refine i_lstore (l' := [(0, rf 0), (1, rf 2), (2, rf 252), (3, rf 275), (4, iv x4), (5, iv y7), (6, .long y12)]) r_276_1334 (n_276_1334 _) (by decide) rfl ?_
      refine i_aload_n (a := 252) r_276_1336 (n_276_1336 _) rfl ?_
      refine wp_virt (b := 252) (rest := []) (Ls := [(0, rf 252)]) r_276_1337 (n_276_1337 _) rfl ⟨rfl, rfl, by decide, by decide⟩ rfl rfl lf_252 ⟨rfl, Nat.le_of_ble_eq_true rfl, Nat.le_of_ble_eq_true rfl⟩ rfl K_Model_thrown ?_
      rintro _ _ ⟨rfl, rfl⟩
      refine .inl ⟨some (iv (zI s12 252 3)), rfl, ?_⟩
      show wp S 276 1340 [(0, rf 0), (1, rf 2), (2, rf 252), (3, rf 275), (4, iv x4), (5, iv y7), (6, .long y12)] [iv (zI s12 252 3)] s12 Q
      refine wp_rd (a := 252) (j := 3) (fun q15 => ?_)
      refine i_iload (x := y7) r_276_1340 (n_276_1340 _) rfl ?_
      refine i_icmp (t := 1347) r_276_1342 (n_276_1342 _) rfl (T_eq q15 q8) (fun c16 => ?_) (fun c16 => ?_)
      · replace h := h.1 c16
        refine i_iload (x := y7) r_276_1347 (n_276_1347 _) rfl ?_
        refine i_if (t := 1363) r_276_1349 (n_276_1349 _) rfl (T_ne q8 ⟨by omega, by omega⟩) (fun c17 => ?_) (fun c17 => ?_)
        · replace h := h.1 c17
          refine i_goto (t := 2908) r_276_1363 (n_276_1363 _) rfl ?_
          refine i_iinc (x := x4) (l' := [(0, rf 0), (1, rf 2), (2, rf 252), (3, rf 275), (4, iv (x4 + 7)), (5, iv y7), (6, .long y12)]) r_276_2908 (n_276_2908 _) (by decide) rfl rfl ?_
          refine i_goto (t := 23) r_276_2911 (n_276_2911 _) rfl ?_
          exact wp_pr (l' := [(0, rf 0), (1, rf 2), (2, rf 252), (3, rf 275), (4, iv (x4 + 7))]) rfl h
        · replace h := h.2 c17
          refine i_aload_n (a := 275) r_276_1352 (n_276_1352 _) rfl ?_
          refine i_iconst r_276_1353 (n_276_1353 _) ?_
          refine i_laload (a := 275) (j := 0) r_276_1354 (n_276_1354 _) lf_275 ⟨by omega, by omega⟩ (by omega) (by omega) ?_
          refine i_lload (u := y12) r_276_1355 (n_276_1355 _) rfl ?_
          refine i_lcmp r_276_1357 (n_276_1357 _) ?_
          refine i_if (t := 1363) r_276_1358 (n_276_1358 _) rfl (T_eq (zcmp_rng _ _) ⟨by omega, by omega⟩) (fun c18 => ?_) (fun c18 => ?_)
          · replace h := h.1 c18
            refine i_goto (t := 2908) r_276_1363 (n_276_1363 _) rfl ?_
            refine i_iinc (x := x4) (l' := [(0, rf 0), (1, rf 2), (2, rf 252), (3, rf 275), (4, iv (x4 + 7)), (5, iv y7), (6, .long y12)]) r_276_2908 (n_276_2908 _) (by decide) rfl rfl ?_
            refine i_goto (t := 23) r_276_2911 (n_276_2911 _) rfl ?_
            exact wp_pr (l' := [(0, rf 0), (1, rf 2), (2, rf 252), (3, rf 275), (4, iv (x4 + 7))]) rfl h
          · replace h := h.2 c18
            refine i_iconst r_276_1361 (n_276_1361 _) ?_
            exact i_zreturn r_276_1362 (n_276_1362 _) rfl (by decide) h
      · replace h := h.2 c16
        refine i_iconst r_276_1345 (n_276_1345 _) ?_
        exact i_zreturn r_276_1346 (n_276_1346 _) rfl (by decide) h
    · skip
      exact h.elim
  · skip
    exact h.elim
theorem v_Law_law_1366 {S : Option (Nat × (Nat → Int32))} {L : Nat} {xs : Nat → Int32} (hS : S = some (L, xs)) {s : zSt} {Q : Option Value ⊕ Nat → zSt → Prop} {x4 : Int} 
    (h : (0 ≤ (x4 + 1) ∧ (x4 + 1) < (L : Int) ∧ rng (x4 + 1)) ∧ ((0 ≤ (x4 + 2) ∧ (x4 + 2) < (L : Int) ∧ rng (x4 + 2)) ∧ ((0 ≤ (x4 + 3) ∧ (x4 + 3) < (L : Int) ∧ rng (x4 + 3)) ∧ ((0 ≤ (x4 + 4) ∧ (x4 + 4) < (L : Int) ∧ rng (x4 + 4)) ∧ ((0 ≤ (x4 + 5) ∧ (x4 + 5) < (L : Int) ∧ rng (x4 + 5)) ∧ (wp S 129 0 [(0, rf 2), (1, iv ((xs (x4 + 1).toNat).toInt)), (2, iv ((xs (x4 + 2).toNat).toInt)), (3, iv ((xs (x4 + 3).toNat).toInt)), (4, .long ((zshlL (zi2l ((xs (x4 + 4).toNat).toInt)) 32) ||| ((zi2l ((xs (x4 + 5).toNat).toInt)) &&& 4294967295))), (6, rf 275)] [] s (fun o11 s11 => zkI (fun y11 => wp S 251 0 [(0, rf 252), (1, iv ((xs (x4 + 1).toNat).toInt)), (2, iv ((xs (x4 + 2).toNat).toInt)), (3, iv ((xs (x4 + 3).toNat).toInt)), (4, .long ((zshlL (zi2l ((xs (x4 + 4).toNat).toInt)) 32) ||| ((zi2l ((xs (x4 + 5).toNat).toInt)) &&& 4294967295)))] [] s11 (fun o18 s18 => zkL (fun y18 => ((zI s18 252 3) = y11 → (y11 ≠ 0 → wp S 276 23 [(0, rf 0), (1, rf 2), (2, rf 252), (3, rf 275), (4, iv (x4 + 7))] [] s18 Q) ∧ (y11 = 0 → ((zcmp (zL s18 275 0) y18) = 0 → wp S 276 23 [(0, rf 0), (1, rf 2), (2, rf 252), (3, rf 275), (4, iv (x4 + 7))] [] s18 Q) ∧ ((zcmp (zL s18 275 0) y18) ≠ 0 → Q (rI 0) s18))) ∧ ((zI s18 252 3) ≠ y11 → Q (rI 0) s18)) (fun e18 => False) o18)) (fun e11 => False) o11))))))) :
    wp S 276 1366 [(0, rf 0), (1, rf 2), (2, rf 252), (3, rf 275), (4, iv x4)] [] s Q := by
  refine i_aload_n (a := 2) r_276_1366 rfl rfl ?_
  refine i_aload_n (a := 0) r_276_1367 (n_276_1367 _) rfl ?_
  refine i_iload (x := x4) r_276_1368 (n_276_1368 _) rfl ?_
  refine i_iconst r_276_1370 (n_276_1370 _) ?_
  refine i_iadd r_276_1371 (n_276_1371 _) ?_
  obtain ⟨g1, h⟩ := h
  refine i_script hS r_276_1372 (n_276_1372 _) g1.2.2 g1.1 g1.2.1 (fun q2 => ?_)
  refine i_aload_n (a := 0) r_276_1373 (n_276_1373 _) rfl ?_
  refine i_iload (x := x4) r_276_1374 (n_276_1374 _) rfl ?_
  refine i_iconst r_276_1376 (n_276_1376 _) ?_
  refine i_iadd r_276_1377 (n_276_1377 _) ?_
  obtain ⟨g3, h⟩ := h
  refine i_script hS r_276_1378 (n_276_1378 _) g3.2.2 g3.1 g3.2.1 (fun q4 => ?_)
  refine i_aload_n (a := 0) r_276_1379 (n_276_1379 _) rfl ?_
  refine i_iload (x := x4) r_276_1380 (n_276_1380 _) rfl ?_
  refine i_iconst r_276_1382 (n_276_1382 _) ?_
  refine i_iadd r_276_1383 (n_276_1383 _) ?_
  obtain ⟨g5, h⟩ := h
  refine i_script hS r_276_1384 (n_276_1384 _) g5.2.2 g5.1 g5.2.1 (fun q6 => ?_)
  refine i_aload_n (a := 0) r_276_1385 (n_276_1385 _) rfl ?_
  refine i_iload (x := x4) r_276_1386 (n_276_1386 _) rfl ?_
  refine i_iconst r_276_1388 (n_276_1388 _) ?_
  refine i_iadd r_276_1389 (n_276_1389 _) ?_
  obtain ⟨g7, h⟩ := h
  refine i_script hS r_276_1390 (n_276_1390 _) g7.2.2 g7.1 g7.2.1 (fun q8 => ?_)
  refine i_i2l r_276_1391 (n_276_1391 _) ?_
  refine i_bipush r_276_1392 (n_276_1392 _) rfl ?_
  refine i_lshl r_276_1394 (n_276_1394 _) ?_
  refine i_aload_n (a := 0) r_276_1395 (n_276_1395 _) rfl ?_
  refine i_iload (x := x4) r_276_1396 (n_276_1396 _) rfl ?_
  refine i_iconst r_276_1398 (n_276_1398 _) ?_
  refine i_iadd r_276_1399 (n_276_1399 _) ?_
  obtain ⟨g9, h⟩ := h
  refine i_script hS r_276_1400 (n_276_1400 _) g9.2.2 g9.1 g9.2.1 (fun q10 => ?_)
  refine i_i2l r_276_1401 (n_276_1401 _) ?_
  refine i_ldc2 r_276_1402 (n_276_1402 _) rfl ?_
  refine i_land r_276_1405 (n_276_1405 _) ?_
  refine i_lor r_276_1406 (n_276_1406 _) ?_
  refine i_aload_n (a := 275) r_276_1407 (n_276_1407 _) rfl ?_
  refine wp_stat (rest := []) (Ls := [(0, rf 2), (1, iv ((xs (x4 + 1).toNat).toInt)), (2, iv ((xs (x4 + 2).toNat).toInt)), (3, iv ((xs (x4 + 3).toNat).toInt)), (4, .long ((zshlL (zi2l ((xs (x4 + 4).toNat).toInt)) 32) ||| ((zi2l ((xs (x4 + 5).toNat).toInt)) &&& 4294967295))), (6, rf 275)]) r_276_1408 (n_276_1408 _) rfl ⟨rfl, by decide, by decide, by decide⟩ rfl rfl ⟨rfl, Nat.le_of_ble_eq_true rfl, Nat.le_of_ble_eq_true rfl⟩ rfl h ?_
  intro o11 s11 h
  rcases h with ⟨y11, q12, rfl, h⟩ | ⟨e11, rfl, h⟩
  · refine .inl ⟨some (iv y11), rfl, ?_⟩
    show wp S 276 1411 [(0, rf 0), (1, rf 2), (2, rf 252), (3, rf 275), (4, iv x4)] [iv y11] s11 Q
    refine i_istore (l' := [(0, rf 0), (1, rf 2), (2, rf 252), (3, rf 275), (4, iv x4), (5, iv y11)]) r_276_1411 (n_276_1411 _) (by decide) rfl ?_
    refine i_aload_n (a := 252) r_276_1413 (n_276_1413 _) rfl ?_
    refine i_aload_n (a := 0) r_276_1414 (n_276_1414 _) rfl ?_
    refine i_iload (x := x4) r_276_1415 (n_276_1415 _) rfl ?_
    refine i_iconst r_276_1417 (n_276_1417 _) ?_
    refine i_iadd r_276_1418 (n_276_1418 _) ?_
    refine i_script hS r_276_1419 (n_276_1419 _) g1.2.2 g1.1 g1.2.1 (fun q13 => ?_)
    refine i_aload_n (a := 0) r_276_1420 (n_276_1420 _) rfl ?_
    refine i_iload (x := x4) r_276_1421 (n_276_1421 _) rfl ?_
    refine i_iconst r_276_1423 (n_276_1423 _) ?_
    refine i_iadd r_276_1424 (n_276_1424 _) ?_
    refine i_script hS r_276_1425 (n_276_1425 _) g3.2.2 g3.1 g3.2.1 (fun q14 => ?_)
    refine i_aload_n (a := 0) r_276_1426 (n_276_1426 _) rfl ?_
    refine i_iload (x := x4) r_276_1427 (n_276_1427 _) rfl ?_
    refine i_iconst r_276_1429 (n_276_1429 _) ?_
    refine i_iadd r_276_1430 (n_276_1430 _) ?_
    refine i_script hS r_276_1431 (n_276_1431 _) g5.2.2 g5.1 g5.2.1 (fun q15 => ?_)
    refine i_aload_n (a := 0) r_276_1432 (n_276_1432 _) rfl ?_
    refine i_iload (x := x4) r_276_1433 (n_276_1433 _) rfl ?_
    refine i_iconst r_276_1435 (n_276_1435 _) ?_
    refine i_iadd r_276_1436 (n_276_1436 _) ?_
    refine i_script hS r_276_1437 (n_276_1437 _) g7.2.2 g7.1 g7.2.1 (fun q16 => ?_)
    refine i_i2l r_276_1438 (n_276_1438 _) ?_
    refine i_bipush r_276_1439 (n_276_1439 _) rfl ?_
    refine i_lshl r_276_1441 (n_276_1441 _) ?_
    refine i_aload_n (a := 0) r_276_1442 (n_276_1442 _) rfl ?_
    refine i_iload (x := x4) r_276_1443 (n_276_1443 _) rfl ?_
    refine i_iconst r_276_1445 (n_276_1445 _) ?_
    refine i_iadd r_276_1446 (n_276_1446 _) ?_
    refine i_script hS r_276_1447 (n_276_1447 _) g9.2.2 g9.1 g9.2.1 (fun q17 => ?_)
    refine i_i2l r_276_1448 (n_276_1448 _) ?_
    refine i_ldc2 r_276_1449 (n_276_1449 _) rfl ?_
    refine i_land r_276_1452 (n_276_1452 _) ?_
    refine i_lor r_276_1453 (n_276_1453 _) ?_
    refine wp_virt (b := 252) (rest := []) (Ls := [(0, rf 252), (1, iv ((xs (x4 + 1).toNat).toInt)), (2, iv ((xs (x4 + 2).toNat).toInt)), (3, iv ((xs (x4 + 3).toNat).toInt)), (4, .long ((zshlL (zi2l ((xs (x4 + 4).toNat).toInt)) 32) ||| ((zi2l ((xs (x4 + 5).toNat).toInt)) &&& 4294967295)))]) r_276_1454 (n_276_1454 _) rfl ⟨rfl, rfl, by decide, by decide⟩ rfl rfl lf_252 ⟨rfl, Nat.le_of_ble_eq_true rfl, Nat.le_of_ble_eq_true rfl⟩ rfl h ?_
    intro o18 s18 h
    rcases h with ⟨y18, rfl, h⟩ | ⟨e18, rfl, h⟩
    · refine .inl ⟨some (.long y18), rfl, ?_⟩
      show wp S 276 1457 [(0, rf 0), (1, rf 2), (2, rf 252), (3, rf 275), (4, iv x4), (5, iv y11)] [.long y18] s18 Q
      refine i_lstore (l' := [(0, rf 0), (1, rf 2), (2, rf 252), (3, rf 275), (4, iv x4), (5, iv y11), (6, .long y18)]) r_276_1457 (n_276_1457 _) (by decide) rfl ?_
      refine i_aload_n (a := 252) r_276_1459 (n_276_1459 _) rfl ?_
      refine wp_virt (b := 252) (rest := []) (Ls := [(0, rf 252)]) r_276_1460 (n_276_1460 _) rfl ⟨rfl, rfl, by decide, by decide⟩ rfl rfl lf_252 ⟨rfl, Nat.le_of_ble_eq_true rfl, Nat.le_of_ble_eq_true rfl⟩ rfl K_Model_thrown ?_
      rintro _ _ ⟨rfl, rfl⟩
      refine .inl ⟨some (iv (zI s18 252 3)), rfl, ?_⟩
      show wp S 276 1463 [(0, rf 0), (1, rf 2), (2, rf 252), (3, rf 275), (4, iv x4), (5, iv y11), (6, .long y18)] [iv (zI s18 252 3)] s18 Q
      refine wp_rd (a := 252) (j := 3) (fun q21 => ?_)
      refine i_iload (x := y11) r_276_1463 (n_276_1463 _) rfl ?_
      refine i_icmp (t := 1470) r_276_1465 (n_276_1465 _) rfl (T_eq q21 q12) (fun c22 => ?_) (fun c22 => ?_)
      · replace h := h.1 c22
        refine i_iload (x := y11) r_276_1470 (n_276_1470 _) rfl ?_
        refine i_if (t := 1486) r_276_1472 (n_276_1472 _) rfl (T_ne q12 ⟨by omega, by omega⟩) (fun c23 => ?_) (fun c23 => ?_)
        · replace h := h.1 c23
          refine i_goto (t := 2908) r_276_1486 (n_276_1486 _) rfl ?_
          refine i_iinc (x := x4) (l' := [(0, rf 0), (1, rf 2), (2, rf 252), (3, rf 275), (4, iv (x4 + 7)), (5, iv y11), (6, .long y18)]) r_276_2908 (n_276_2908 _) (by decide) rfl rfl ?_
          refine i_goto (t := 23) r_276_2911 (n_276_2911 _) rfl ?_
          exact wp_pr (l' := [(0, rf 0), (1, rf 2), (2, rf 252), (3, rf 275), (4, iv (x4 + 7))]) rfl h
        · replace h := h.2 c23
          refine i_aload_n (a := 275) r_276_1475 (n_276_1475 _) rfl ?_
          refine i_iconst r_276_1476 (n_276_1476 _) ?_
          refine i_laload (a := 275) (j := 0) r_276_1477 (n_276_1477 _) lf_275 ⟨by omega, by omega⟩ (by omega) (by omega) ?_
          refine i_lload (u := y18) r_276_1478 (n_276_1478 _) rfl ?_
          refine i_lcmp r_276_1480 (n_276_1480 _) ?_
          refine i_if (t := 1486) r_276_1481 (n_276_1481 _) rfl (T_eq (zcmp_rng _ _) ⟨by omega, by omega⟩) (fun c24 => ?_) (fun c24 => ?_)
          · replace h := h.1 c24
            refine i_goto (t := 2908) r_276_1486 (n_276_1486 _) rfl ?_
            refine i_iinc (x := x4) (l' := [(0, rf 0), (1, rf 2), (2, rf 252), (3, rf 275), (4, iv (x4 + 7)), (5, iv y11), (6, .long y18)]) r_276_2908 (n_276_2908 _) (by decide) rfl rfl ?_
            refine i_goto (t := 23) r_276_2911 (n_276_2911 _) rfl ?_
            exact wp_pr (l' := [(0, rf 0), (1, rf 2), (2, rf 252), (3, rf 275), (4, iv (x4 + 7))]) rfl h
          · replace h := h.2 c24
            refine i_iconst r_276_1484 (n_276_1484 _) ?_
            exact i_zreturn r_276_1485 (n_276_1485 _) rfl (by decide) h
      · replace h := h.2 c22
        refine i_iconst r_276_1468 (n_276_1468 _) ?_
        exact i_zreturn r_276_1469 (n_276_1469 _) rfl (by decide) h
    · skip
      exact h.elim
  · skip
    exact h.elim

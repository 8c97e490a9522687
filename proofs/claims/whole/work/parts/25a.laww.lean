/-! ===== the law: its calls of the class ===== -/
theorem r_34_0 : xfetch 34 0 = some (.aload_n 2, 1) := by decide +kernel
theorem n_34_0 : ∀ l, xpr 34 0 l = l := xpr_no (by decide +kernel)
theorem r_34_1 : xfetch 34 1 = some (.iconst 0, 1) := by decide +kernel
theorem n_34_1 : ∀ l, xpr 34 1 l = l := xpr_no (by decide +kernel)
theorem r_34_2 : xfetch 34 2 = some (.aload_n 0, 1) := by decide +kernel
theorem n_34_2 : ∀ l, xpr 34 2 l = l := xpr_no (by decide +kernel)
theorem r_34_3 : xfetch 34 3 = some (.iload_n 1, 1) := by decide +kernel
theorem n_34_3 : ∀ l, xpr 34 3 l = l := xpr_no (by decide +kernel)
theorem r_34_4 : xfetch 34 4 = some (.invokevirtual 7, 3) := by decide +kernel
theorem n_34_4 : ∀ l, xpr 34 4 l = l := xpr_no (by decide +kernel)
theorem r_34_7 : xfetch 34 7 = some (.i2l, 1) := by decide +kernel
theorem n_34_7 : ∀ l, xpr 34 7 l = l := xpr_no (by decide +kernel)
theorem r_34_8 : xfetch 34 8 = some (.lastore, 1) := by decide +kernel
theorem n_34_8 : ∀ l, xpr 34 8 l = l := xpr_no (by decide +kernel)
theorem r_34_9 : xfetch 34 9 = some (.goto 9, 3) := by decide +kernel
theorem n_34_9 : ∀ l, xpr 34 9 l = l := xpr_no (by decide +kernel)
theorem r_34_13 : xfetch 34 13 = some (.iconst 1, 1) := by decide +kernel
theorem n_34_13 : ∀ l, xpr 34 13 l = l := xpr_no (by decide +kernel)
theorem r_34_14 : xfetch 34 14 = some (.ireturn, 1) := by decide +kernel
theorem n_34_14 : ∀ l, xpr 34 14 l = l := xpr_no (by decide +kernel)
theorem r_34_16 : xfetch 34 16 = some (.iconst 2, 1) := by decide +kernel
theorem n_34_16 : ∀ l, xpr 34 16 l = l := xpr_no (by decide +kernel)
theorem r_34_17 : xfetch 34 17 = some (.ireturn, 1) := by decide +kernel
theorem n_34_17 : ∀ l, xpr 34 17 l = l := xpr_no (by decide +kernel)
theorem r_34_18 : xfetch 34 18 = some (.iconst 0, 1) := by decide +kernel
theorem n_34_18 : ∀ l, xpr 34 18 l = l := xpr_no (by decide +kernel)
theorem r_34_19 : xfetch 34 19 = some (.ireturn, 1) := by decide +kernel
theorem n_34_19 : ∀ l, xpr 34 19 l = l := xpr_no (by decide +kernel)
theorem r_52_0 : xfetch 52 0 = some (.aload 5, 2) := by decide +kernel
theorem n_52_0 : ∀ l, xpr 52 0 l = l := xpr_no (by decide +kernel)
theorem r_52_2 : xfetch 52 2 = some (.iconst 0, 1) := by decide +kernel
theorem n_52_2 : ∀ l, xpr 52 2 l = l := xpr_no (by decide +kernel)
theorem r_52_3 : xfetch 52 3 = some (.aload_n 0, 1) := by decide +kernel
theorem n_52_3 : ∀ l, xpr 52 3 l = l := xpr_no (by decide +kernel)
theorem r_52_4 : xfetch 52 4 = some (.iload_n 1, 1) := by decide +kernel
theorem n_52_4 : ∀ l, xpr 52 4 l = l := xpr_no (by decide +kernel)
theorem r_52_5 : xfetch 52 5 = some (.iload_n 2, 1) := by decide +kernel
theorem n_52_5 : ∀ l, xpr 52 5 l = l := xpr_no (by decide +kernel)
theorem r_52_6 : xfetch 52 6 = some (.iload_n 3, 1) := by decide +kernel
theorem n_52_6 : ∀ l, xpr 52 6 l = l := xpr_no (by decide +kernel)
theorem r_52_7 : xfetch 52 7 = some (.iload 4, 2) := by decide +kernel
theorem n_52_7 : ∀ l, xpr 52 7 l = l := xpr_no (by decide +kernel)
theorem r_52_9 : xfetch 52 9 = some (.invokevirtual 17, 3) := by decide +kernel
theorem n_52_9 : ∀ l, xpr 52 9 l = l := xpr_no (by decide +kernel)
theorem r_52_12 : xfetch 52 12 = some (.i2l, 1) := by decide +kernel
theorem n_52_12 : ∀ l, xpr 52 12 l = l := xpr_no (by decide +kernel)
theorem r_52_13 : xfetch 52 13 = some (.lastore, 1) := by decide +kernel
theorem n_52_13 : ∀ l, xpr 52 13 l = l := xpr_no (by decide +kernel)
theorem r_52_14 : xfetch 52 14 = some (.goto 15, 3) := by decide +kernel
theorem n_52_14 : ∀ l, xpr 52 14 l = l := xpr_no (by decide +kernel)
theorem r_52_19 : xfetch 52 19 = some (.iconst 1, 1) := by decide +kernel
theorem n_52_19 : ∀ l, xpr 52 19 l = l := xpr_no (by decide +kernel)
theorem r_52_20 : xfetch 52 20 = some (.ireturn, 1) := by decide +kernel
theorem n_52_20 : ∀ l, xpr 52 20 l = l := xpr_no (by decide +kernel)
theorem r_52_23 : xfetch 52 23 = some (.iconst 2, 1) := by decide +kernel
theorem n_52_23 : ∀ l, xpr 52 23 l = l := xpr_no (by decide +kernel)
theorem r_52_24 : xfetch 52 24 = some (.ireturn, 1) := by decide +kernel
theorem n_52_24 : ∀ l, xpr 52 24 l = l := xpr_no (by decide +kernel)
theorem r_52_27 : xfetch 52 27 = some (.iconst 3, 1) := by decide +kernel
theorem n_52_27 : ∀ l, xpr 52 27 l = l := xpr_no (by decide +kernel)
theorem r_52_28 : xfetch 52 28 = some (.ireturn, 1) := by decide +kernel
theorem n_52_28 : ∀ l, xpr 52 28 l = l := xpr_no (by decide +kernel)
theorem r_52_29 : xfetch 52 29 = some (.iconst 0, 1) := by decide +kernel
theorem n_52_29 : ∀ l, xpr 52 29 l = l := xpr_no (by decide +kernel)
theorem r_52_30 : xfetch 52 30 = some (.ireturn, 1) := by decide +kernel
theorem n_52_30 : ∀ l, xpr 52 30 l = l := xpr_no (by decide +kernel)
theorem r_58_0 : xfetch 58 0 = some (.aload_n 3, 1) := by decide +kernel
theorem n_58_0 : ∀ l, xpr 58 0 l = l := xpr_no (by decide +kernel)
theorem r_58_1 : xfetch 58 1 = some (.iconst 0, 1) := by decide +kernel
theorem n_58_1 : ∀ l, xpr 58 1 l = l := xpr_no (by decide +kernel)
theorem r_58_2 : xfetch 58 2 = some (.aload_n 0, 1) := by decide +kernel
theorem n_58_2 : ∀ l, xpr 58 2 l = l := xpr_no (by decide +kernel)
theorem r_58_3 : xfetch 58 3 = some (.iload_n 1, 1) := by decide +kernel
theorem n_58_3 : ∀ l, xpr 58 3 l = l := xpr_no (by decide +kernel)
theorem r_58_4 : xfetch 58 4 = some (.iload_n 2, 1) := by decide +kernel
theorem n_58_4 : ∀ l, xpr 58 4 l = l := xpr_no (by decide +kernel)
theorem r_58_5 : xfetch 58 5 = some (.invokevirtual 23, 3) := by decide +kernel
theorem n_58_5 : ∀ l, xpr 58 5 l = l := xpr_no (by decide +kernel)
theorem r_58_8 : xfetch 58 8 = some (.i2l, 1) := by decide +kernel
theorem n_58_8 : ∀ l, xpr 58 8 l = l := xpr_no (by decide +kernel)
theorem r_58_9 : xfetch 58 9 = some (.lastore, 1) := by decide +kernel
theorem n_58_9 : ∀ l, xpr 58 9 l = l := xpr_no (by decide +kernel)
theorem r_58_10 : xfetch 58 10 = some (.goto 11, 3) := by decide +kernel
theorem n_58_10 : ∀ l, xpr 58 10 l = l := xpr_no (by decide +kernel)
theorem r_58_15 : xfetch 58 15 = some (.iconst 1, 1) := by decide +kernel
theorem n_58_15 : ∀ l, xpr 58 15 l = l := xpr_no (by decide +kernel)
theorem r_58_16 : xfetch 58 16 = some (.ireturn, 1) := by decide +kernel
theorem n_58_16 : ∀ l, xpr 58 16 l = l := xpr_no (by decide +kernel)
theorem r_58_19 : xfetch 58 19 = some (.iconst 2, 1) := by decide +kernel
theorem n_58_19 : ∀ l, xpr 58 19 l = l := xpr_no (by decide +kernel)
theorem r_58_20 : xfetch 58 20 = some (.ireturn, 1) := by decide +kernel
theorem n_58_20 : ∀ l, xpr 58 20 l = l := xpr_no (by decide +kernel)
theorem r_58_21 : xfetch 58 21 = some (.iconst 0, 1) := by decide +kernel
theorem n_58_21 : ∀ l, xpr 58 21 l = l := xpr_no (by decide +kernel)
theorem r_58_22 : xfetch 58 22 = some (.ireturn, 1) := by decide +kernel
theorem n_58_22 : ∀ l, xpr 58 22 l = l := xpr_no (by decide +kernel)
theorem r_61_0 : xfetch 61 0 = some (.aload 4, 2) := by decide +kernel
theorem n_61_0 : ∀ l, xpr 61 0 l = l := xpr_no (by decide +kernel)
theorem r_61_2 : xfetch 61 2 = some (.iconst 0, 1) := by decide +kernel
theorem n_61_2 : ∀ l, xpr 61 2 l = l := xpr_no (by decide +kernel)
theorem r_61_3 : xfetch 61 3 = some (.aload_n 0, 1) := by decide +kernel
theorem n_61_3 : ∀ l, xpr 61 3 l = l := xpr_no (by decide +kernel)
theorem r_61_4 : xfetch 61 4 = some (.iload_n 1, 1) := by decide +kernel
theorem n_61_4 : ∀ l, xpr 61 4 l = l := xpr_no (by decide +kernel)
theorem r_61_5 : xfetch 61 5 = some (.iload_n 2, 1) := by decide +kernel
theorem n_61_5 : ∀ l, xpr 61 5 l = l := xpr_no (by decide +kernel)
theorem r_61_6 : xfetch 61 6 = some (.iload_n 3, 1) := by decide +kernel
theorem n_61_6 : ∀ l, xpr 61 6 l = l := xpr_no (by decide +kernel)
theorem r_61_7 : xfetch 61 7 = some (.invokevirtual 27, 3) := by decide +kernel
theorem n_61_7 : ∀ l, xpr 61 7 l = l := xpr_no (by decide +kernel)
theorem r_61_10 : xfetch 61 10 = some (.i2l, 1) := by decide +kernel
theorem n_61_10 : ∀ l, xpr 61 10 l = l := xpr_no (by decide +kernel)
theorem r_61_11 : xfetch 61 11 = some (.lastore, 1) := by decide +kernel
theorem n_61_11 : ∀ l, xpr 61 11 l = l := xpr_no (by decide +kernel)
theorem r_61_12 : xfetch 61 12 = some (.goto 11, 3) := by decide +kernel
theorem n_61_12 : ∀ l, xpr 61 12 l = l := xpr_no (by decide +kernel)
theorem r_61_17 : xfetch 61 17 = some (.iconst 1, 1) := by decide +kernel
theorem n_61_17 : ∀ l, xpr 61 17 l = l := xpr_no (by decide +kernel)
theorem r_61_18 : xfetch 61 18 = some (.ireturn, 1) := by decide +kernel
theorem n_61_18 : ∀ l, xpr 61 18 l = l := xpr_no (by decide +kernel)
theorem r_61_21 : xfetch 61 21 = some (.iconst 2, 1) := by decide +kernel
theorem n_61_21 : ∀ l, xpr 61 21 l = l := xpr_no (by decide +kernel)
theorem r_61_22 : xfetch 61 22 = some (.ireturn, 1) := by decide +kernel
theorem n_61_22 : ∀ l, xpr 61 22 l = l := xpr_no (by decide +kernel)
theorem r_61_23 : xfetch 61 23 = some (.iconst 0, 1) := by decide +kernel
theorem n_61_23 : ∀ l, xpr 61 23 l = l := xpr_no (by decide +kernel)
theorem r_61_24 : xfetch 61 24 = some (.ireturn, 1) := by decide +kernel
theorem n_61_24 : ∀ l, xpr 61 24 l = l := xpr_no (by decide +kernel)
theorem r_63_0 : xfetch 63 0 = some (.aload 4, 2) := by decide +kernel
theorem n_63_0 : ∀ l, xpr 63 0 l = l := xpr_no (by decide +kernel)
theorem r_63_2 : xfetch 63 2 = some (.iconst 0, 1) := by decide +kernel
theorem n_63_2 : ∀ l, xpr 63 2 l = l := xpr_no (by decide +kernel)
theorem r_63_3 : xfetch 63 3 = some (.aload_n 0, 1) := by decide +kernel
theorem n_63_3 : ∀ l, xpr 63 3 l = l := xpr_no (by decide +kernel)
theorem r_63_4 : xfetch 63 4 = some (.iload_n 1, 1) := by decide +kernel
theorem n_63_4 : ∀ l, xpr 63 4 l = l := xpr_no (by decide +kernel)
theorem r_63_5 : xfetch 63 5 = some (.iload_n 2, 1) := by decide +kernel
theorem n_63_5 : ∀ l, xpr 63 5 l = l := xpr_no (by decide +kernel)
theorem r_63_6 : xfetch 63 6 = some (.iload_n 3, 1) := by decide +kernel
theorem n_63_6 : ∀ l, xpr 63 6 l = l := xpr_no (by decide +kernel)
theorem r_63_7 : xfetch 63 7 = some (.invokevirtual 31, 3) := by decide +kernel
theorem n_63_7 : ∀ l, xpr 63 7 l = l := xpr_no (by decide +kernel)
theorem r_63_10 : xfetch 63 10 = some (.i2l, 1) := by decide +kernel
theorem n_63_10 : ∀ l, xpr 63 10 l = l := xpr_no (by decide +kernel)
theorem r_63_11 : xfetch 63 11 = some (.lastore, 1) := by decide +kernel
theorem n_63_11 : ∀ l, xpr 63 11 l = l := xpr_no (by decide +kernel)
theorem r_63_12 : xfetch 63 12 = some (.goto 11, 3) := by decide +kernel
theorem n_63_12 : ∀ l, xpr 63 12 l = l := xpr_no (by decide +kernel)
theorem r_63_17 : xfetch 63 17 = some (.iconst 1, 1) := by decide +kernel
theorem n_63_17 : ∀ l, xpr 63 17 l = l := xpr_no (by decide +kernel)
theorem r_63_18 : xfetch 63 18 = some (.ireturn, 1) := by decide +kernel
theorem n_63_18 : ∀ l, xpr 63 18 l = l := xpr_no (by decide +kernel)
theorem r_63_21 : xfetch 63 21 = some (.iconst 2, 1) := by decide +kernel
theorem n_63_21 : ∀ l, xpr 63 21 l = l := xpr_no (by decide +kernel)
theorem r_63_22 : xfetch 63 22 = some (.ireturn, 1) := by decide +kernel
theorem n_63_22 : ∀ l, xpr 63 22 l = l := xpr_no (by decide +kernel)
theorem r_63_23 : xfetch 63 23 = some (.iconst 0, 1) := by decide +kernel
theorem n_63_23 : ∀ l, xpr 63 23 l = l := xpr_no (by decide +kernel)
theorem r_63_24 : xfetch 63 24 = some (.ireturn, 1) := by decide +kernel
theorem n_63_24 : ∀ l, xpr 63 24 l = l := xpr_no (by decide +kernel)
theorem r_66_0 : xfetch 66 0 = some (.aload 4, 2) := by decide +kernel
theorem n_66_0 : ∀ l, xpr 66 0 l = l := xpr_no (by decide +kernel)
theorem r_66_2 : xfetch 66 2 = some (.iconst 0, 1) := by decide +kernel
theorem n_66_2 : ∀ l, xpr 66 2 l = l := xpr_no (by decide +kernel)
theorem r_66_3 : xfetch 66 3 = some (.aload_n 0, 1) := by decide +kernel
theorem n_66_3 : ∀ l, xpr 66 3 l = l := xpr_no (by decide +kernel)
theorem r_66_4 : xfetch 66 4 = some (.iload_n 1, 1) := by decide +kernel
theorem n_66_4 : ∀ l, xpr 66 4 l = l := xpr_no (by decide +kernel)
theorem r_66_5 : xfetch 66 5 = some (.iload_n 2, 1) := by decide +kernel
theorem n_66_5 : ∀ l, xpr 66 5 l = l := xpr_no (by decide +kernel)
theorem r_66_6 : xfetch 66 6 = some (.iload_n 3, 1) := by decide +kernel
theorem n_66_6 : ∀ l, xpr 66 6 l = l := xpr_no (by decide +kernel)
theorem r_66_7 : xfetch 66 7 = some (.invokevirtual 34, 3) := by decide +kernel
theorem n_66_7 : ∀ l, xpr 66 7 l = l := xpr_no (by decide +kernel)
theorem r_66_10 : xfetch 66 10 = some (.i2l, 1) := by decide +kernel
theorem n_66_10 : ∀ l, xpr 66 10 l = l := xpr_no (by decide +kernel)
theorem r_66_11 : xfetch 66 11 = some (.lastore, 1) := by decide +kernel
theorem n_66_11 : ∀ l, xpr 66 11 l = l := xpr_no (by decide +kernel)
theorem r_66_12 : xfetch 66 12 = some (.goto 7, 3) := by decide +kernel
theorem n_66_12 : ∀ l, xpr 66 12 l = l := xpr_no (by decide +kernel)
theorem r_66_17 : xfetch 66 17 = some (.iconst 1, 1) := by decide +kernel
theorem n_66_17 : ∀ l, xpr 66 17 l = l := xpr_no (by decide +kernel)
theorem r_66_18 : xfetch 66 18 = some (.ireturn, 1) := by decide +kernel
theorem n_66_18 : ∀ l, xpr 66 18 l = l := xpr_no (by decide +kernel)
theorem r_66_19 : xfetch 66 19 = some (.iconst 0, 1) := by decide +kernel
theorem n_66_19 : ∀ l, xpr 66 19 l = l := xpr_no (by decide +kernel)
theorem r_66_20 : xfetch 66 20 = some (.ireturn, 1) := by decide +kernel
theorem n_66_20 : ∀ l, xpr 66 20 l = l := xpr_no (by decide +kernel)
theorem r_70_0 : xfetch 70 0 = some (.aload_n 2, 1) := by decide +kernel
theorem n_70_0 : ∀ l, xpr 70 0 l = l := xpr_no (by decide +kernel)
theorem r_70_1 : xfetch 70 1 = some (.iconst 0, 1) := by decide +kernel
theorem n_70_1 : ∀ l, xpr 70 1 l = l := xpr_no (by decide +kernel)
theorem r_70_2 : xfetch 70 2 = some (.aload_n 0, 1) := by decide +kernel
theorem n_70_2 : ∀ l, xpr 70 2 l = l := xpr_no (by decide +kernel)
theorem r_70_3 : xfetch 70 3 = some (.iload_n 1, 1) := by decide +kernel
theorem n_70_3 : ∀ l, xpr 70 3 l = l := xpr_no (by decide +kernel)
theorem r_70_4 : xfetch 70 4 = some (.invokevirtual 37, 3) := by decide +kernel
theorem n_70_4 : ∀ l, xpr 70 4 l = l := xpr_no (by decide +kernel)
theorem r_70_7 : xfetch 70 7 = some (.i2l, 1) := by decide +kernel
theorem n_70_7 : ∀ l, xpr 70 7 l = l := xpr_no (by decide +kernel)
theorem r_70_8 : xfetch 70 8 = some (.lastore, 1) := by decide +kernel
theorem n_70_8 : ∀ l, xpr 70 8 l = l := xpr_no (by decide +kernel)
theorem r_70_9 : xfetch 70 9 = some (.goto 6, 3) := by decide +kernel
theorem n_70_9 : ∀ l, xpr 70 9 l = l := xpr_no (by decide +kernel)
theorem r_70_13 : xfetch 70 13 = some (.iconst 1, 1) := by decide +kernel
theorem n_70_13 : ∀ l, xpr 70 13 l = l := xpr_no (by decide +kernel)
theorem r_70_14 : xfetch 70 14 = some (.ireturn, 1) := by decide +kernel
theorem n_70_14 : ∀ l, xpr 70 14 l = l := xpr_no (by decide +kernel)
theorem r_70_15 : xfetch 70 15 = some (.iconst 0, 1) := by decide +kernel
theorem n_70_15 : ∀ l, xpr 70 15 l = l := xpr_no (by decide +kernel)
theorem r_70_16 : xfetch 70 16 = some (.ireturn, 1) := by decide +kernel
theorem n_70_16 : ∀ l, xpr 70 16 l = l := xpr_no (by decide +kernel)
theorem r_74_0 : xfetch 74 0 = some (.aload_n 2, 1) := by decide +kernel
theorem n_74_0 : ∀ l, xpr 74 0 l = l := xpr_no (by decide +kernel)
theorem r_74_1 : xfetch 74 1 = some (.iconst 0, 1) := by decide +kernel
theorem n_74_1 : ∀ l, xpr 74 1 l = l := xpr_no (by decide +kernel)
theorem r_74_2 : xfetch 74 2 = some (.aload_n 0, 1) := by decide +kernel
theorem n_74_2 : ∀ l, xpr 74 2 l = l := xpr_no (by decide +kernel)
theorem r_74_3 : xfetch 74 3 = some (.iload_n 1, 1) := by decide +kernel
theorem n_74_3 : ∀ l, xpr 74 3 l = l := xpr_no (by decide +kernel)
theorem r_74_4 : xfetch 74 4 = some (.invokevirtual 40, 3) := by decide +kernel
theorem n_74_4 : ∀ l, xpr 74 4 l = l := xpr_no (by decide +kernel)
theorem r_74_7 : xfetch 74 7 = some (.i2l, 1) := by decide +kernel
theorem n_74_7 : ∀ l, xpr 74 7 l = l := xpr_no (by decide +kernel)
theorem r_74_8 : xfetch 74 8 = some (.lastore, 1) := by decide +kernel
theorem n_74_8 : ∀ l, xpr 74 8 l = l := xpr_no (by decide +kernel)
theorem r_74_9 : xfetch 74 9 = some (.goto 6, 3) := by decide +kernel
theorem n_74_9 : ∀ l, xpr 74 9 l = l := xpr_no (by decide +kernel)
theorem r_74_13 : xfetch 74 13 = some (.iconst 1, 1) := by decide +kernel
theorem n_74_13 : ∀ l, xpr 74 13 l = l := xpr_no (by decide +kernel)
theorem r_74_14 : xfetch 74 14 = some (.ireturn, 1) := by decide +kernel
theorem n_74_14 : ∀ l, xpr 74 14 l = l := xpr_no (by decide +kernel)
theorem r_74_15 : xfetch 74 15 = some (.iconst 0, 1) := by decide +kernel
theorem n_74_15 : ∀ l, xpr 74 15 l = l := xpr_no (by decide +kernel)
theorem r_74_16 : xfetch 74 16 = some (.ireturn, 1) := by decide +kernel
theorem n_74_16 : ∀ l, xpr 74 16 l = l := xpr_no (by decide +kernel)
theorem r_85_0 : xfetch 85 0 = some (.aload_n 3, 1) := by decide +kernel
theorem n_85_0 : ∀ l, xpr 85 0 l = l := xpr_no (by decide +kernel)
theorem r_85_1 : xfetch 85 1 = some (.iconst 0, 1) := by decide +kernel
theorem n_85_1 : ∀ l, xpr 85 1 l = l := xpr_no (by decide +kernel)
theorem r_85_2 : xfetch 85 2 = some (.aload_n 0, 1) := by decide +kernel
theorem n_85_2 : ∀ l, xpr 85 2 l = l := xpr_no (by decide +kernel)
theorem r_85_3 : xfetch 85 3 = some (.iload_n 1, 1) := by decide +kernel
theorem n_85_3 : ∀ l, xpr 85 3 l = l := xpr_no (by decide +kernel)
theorem r_85_4 : xfetch 85 4 = some (.iload_n 2, 1) := by decide +kernel
theorem n_85_4 : ∀ l, xpr 85 4 l = l := xpr_no (by decide +kernel)
theorem r_85_5 : xfetch 85 5 = some (.invokevirtual 43, 3) := by decide +kernel
theorem n_85_5 : ∀ l, xpr 85 5 l = l := xpr_no (by decide +kernel)
theorem r_85_8 : xfetch 85 8 = some (.i2l, 1) := by decide +kernel
theorem n_85_8 : ∀ l, xpr 85 8 l = l := xpr_no (by decide +kernel)
theorem r_85_9 : xfetch 85 9 = some (.lastore, 1) := by decide +kernel
theorem n_85_9 : ∀ l, xpr 85 9 l = l := xpr_no (by decide +kernel)
theorem r_85_10 : xfetch 85 10 = some (.goto 7, 3) := by decide +kernel
theorem n_85_10 : ∀ l, xpr 85 10 l = l := xpr_no (by decide +kernel)
theorem r_85_15 : xfetch 85 15 = some (.iconst 1, 1) := by decide +kernel
theorem n_85_15 : ∀ l, xpr 85 15 l = l := xpr_no (by decide +kernel)
theorem r_85_16 : xfetch 85 16 = some (.ireturn, 1) := by decide +kernel
theorem n_85_16 : ∀ l, xpr 85 16 l = l := xpr_no (by decide +kernel)
theorem r_85_17 : xfetch 85 17 = some (.iconst 0, 1) := by decide +kernel
theorem n_85_17 : ∀ l, xpr 85 17 l = l := xpr_no (by decide +kernel)
theorem r_85_18 : xfetch 85 18 = some (.ireturn, 1) := by decide +kernel
theorem n_85_18 : ∀ l, xpr 85 18 l = l := xpr_no (by decide +kernel)
theorem r_87_0 : xfetch 87 0 = some (.aload_n 2, 1) := by decide +kernel
theorem n_87_0 : ∀ l, xpr 87 0 l = l := xpr_no (by decide +kernel)
theorem r_87_1 : xfetch 87 1 = some (.iconst 0, 1) := by decide +kernel
theorem n_87_1 : ∀ l, xpr 87 1 l = l := xpr_no (by decide +kernel)
theorem r_87_2 : xfetch 87 2 = some (.aload_n 0, 1) := by decide +kernel
theorem n_87_2 : ∀ l, xpr 87 2 l = l := xpr_no (by decide +kernel)
theorem r_87_3 : xfetch 87 3 = some (.iload_n 1, 1) := by decide +kernel
theorem n_87_3 : ∀ l, xpr 87 3 l = l := xpr_no (by decide +kernel)
theorem r_87_4 : xfetch 87 4 = some (.invokevirtual 46, 3) := by decide +kernel
theorem n_87_4 : ∀ l, xpr 87 4 l = l := xpr_no (by decide +kernel)
theorem r_87_7 : xfetch 87 7 = some (.i2l, 1) := by decide +kernel
theorem n_87_7 : ∀ l, xpr 87 7 l = l := xpr_no (by decide +kernel)
theorem r_87_8 : xfetch 87 8 = some (.lastore, 1) := by decide +kernel
theorem n_87_8 : ∀ l, xpr 87 8 l = l := xpr_no (by decide +kernel)
theorem r_87_9 : xfetch 87 9 = some (.goto 9, 3) := by decide +kernel
theorem n_87_9 : ∀ l, xpr 87 9 l = l := xpr_no (by decide +kernel)
theorem r_87_13 : xfetch 87 13 = some (.iconst 1, 1) := by decide +kernel
theorem n_87_13 : ∀ l, xpr 87 13 l = l := xpr_no (by decide +kernel)
theorem r_87_14 : xfetch 87 14 = some (.ireturn, 1) := by decide +kernel
theorem n_87_14 : ∀ l, xpr 87 14 l = l := xpr_no (by decide +kernel)
theorem r_87_16 : xfetch 87 16 = some (.iconst 2, 1) := by decide +kernel
theorem n_87_16 : ∀ l, xpr 87 16 l = l := xpr_no (by decide +kernel)
theorem r_87_17 : xfetch 87 17 = some (.ireturn, 1) := by decide +kernel
theorem n_87_17 : ∀ l, xpr 87 17 l = l := xpr_no (by decide +kernel)
theorem r_87_18 : xfetch 87 18 = some (.iconst 0, 1) := by decide +kernel
theorem n_87_18 : ∀ l, xpr 87 18 l = l := xpr_no (by decide +kernel)
theorem r_87_19 : xfetch 87 19 = some (.ireturn, 1) := by decide +kernel
theorem n_87_19 : ∀ l, xpr 87 19 l = l := xpr_no (by decide +kernel)
theorem r_90_0 : xfetch 90 0 = some (.aload_n 2, 1) := by decide +kernel
theorem n_90_0 : ∀ l, xpr 90 0 l = l := xpr_no (by decide +kernel)
theorem r_90_1 : xfetch 90 1 = some (.iconst 0, 1) := by decide +kernel
theorem n_90_1 : ∀ l, xpr 90 1 l = l := xpr_no (by decide +kernel)
theorem r_90_2 : xfetch 90 2 = some (.aload_n 0, 1) := by decide +kernel
theorem n_90_2 : ∀ l, xpr 90 2 l = l := xpr_no (by decide +kernel)
theorem r_90_3 : xfetch 90 3 = some (.iload_n 1, 1) := by decide +kernel
theorem n_90_3 : ∀ l, xpr 90 3 l = l := xpr_no (by decide +kernel)
theorem r_90_4 : xfetch 90 4 = some (.invokevirtual 49, 3) := by decide +kernel
theorem n_90_4 : ∀ l, xpr 90 4 l = l := xpr_no (by decide +kernel)
theorem r_90_7 : xfetch 90 7 = some (.i2l, 1) := by decide +kernel
theorem n_90_7 : ∀ l, xpr 90 7 l = l := xpr_no (by decide +kernel)
theorem r_90_8 : xfetch 90 8 = some (.lastore, 1) := by decide +kernel
theorem n_90_8 : ∀ l, xpr 90 8 l = l := xpr_no (by decide +kernel)
theorem r_90_9 : xfetch 90 9 = some (.goto 9, 3) := by decide +kernel
theorem n_90_9 : ∀ l, xpr 90 9 l = l := xpr_no (by decide +kernel)
theorem r_90_13 : xfetch 90 13 = some (.iconst 1, 1) := by decide +kernel
theorem n_90_13 : ∀ l, xpr 90 13 l = l := xpr_no (by decide +kernel)
theorem r_90_14 : xfetch 90 14 = some (.ireturn, 1) := by decide +kernel
theorem n_90_14 : ∀ l, xpr 90 14 l = l := xpr_no (by decide +kernel)
theorem r_90_16 : xfetch 90 16 = some (.iconst 2, 1) := by decide +kernel
theorem n_90_16 : ∀ l, xpr 90 16 l = l := xpr_no (by decide +kernel)
theorem r_90_17 : xfetch 90 17 = some (.ireturn, 1) := by decide +kernel
theorem n_90_17 : ∀ l, xpr 90 17 l = l := xpr_no (by decide +kernel)
theorem r_90_18 : xfetch 90 18 = some (.iconst 0, 1) := by decide +kernel
theorem n_90_18 : ∀ l, xpr 90 18 l = l := xpr_no (by decide +kernel)
theorem r_90_19 : xfetch 90 19 = some (.ireturn, 1) := by decide +kernel
theorem n_90_19 : ∀ l, xpr 90 19 l = l := xpr_no (by decide +kernel)
theorem r_101_0 : xfetch 101 0 = some (.aload 5, 2) := by decide +kernel
theorem n_101_0 : ∀ l, xpr 101 0 l = l := xpr_no (by decide +kernel)
theorem r_101_2 : xfetch 101 2 = some (.iconst 0, 1) := by decide +kernel
theorem n_101_2 : ∀ l, xpr 101 2 l = l := xpr_no (by decide +kernel)
theorem r_101_3 : xfetch 101 3 = some (.aload_n 0, 1) := by decide +kernel
theorem n_101_3 : ∀ l, xpr 101 3 l = l := xpr_no (by decide +kernel)
theorem r_101_4 : xfetch 101 4 = some (.iload_n 1, 1) := by decide +kernel
theorem n_101_4 : ∀ l, xpr 101 4 l = l := xpr_no (by decide +kernel)
theorem r_101_5 : xfetch 101 5 = some (.iload_n 2, 1) := by decide +kernel
theorem n_101_5 : ∀ l, xpr 101 5 l = l := xpr_no (by decide +kernel)
theorem r_101_6 : xfetch 101 6 = some (.iload_n 3, 1) := by decide +kernel
theorem n_101_6 : ∀ l, xpr 101 6 l = l := xpr_no (by decide +kernel)
theorem r_101_7 : xfetch 101 7 = some (.iload 4, 2) := by decide +kernel
theorem n_101_7 : ∀ l, xpr 101 7 l = l := xpr_no (by decide +kernel)
theorem r_101_9 : xfetch 101 9 = some (.invokevirtual 52, 3) := by decide +kernel
theorem n_101_9 : ∀ l, xpr 101 9 l = l := xpr_no (by decide +kernel)
theorem r_101_12 : xfetch 101 12 = some (.i2l, 1) := by decide +kernel
theorem n_101_12 : ∀ l, xpr 101 12 l = l := xpr_no (by decide +kernel)
theorem r_101_13 : xfetch 101 13 = some (.lastore, 1) := by decide +kernel
theorem n_101_13 : ∀ l, xpr 101 13 l = l := xpr_no (by decide +kernel)
theorem r_101_14 : xfetch 101 14 = some (.goto 15, 3) := by decide +kernel
theorem n_101_14 : ∀ l, xpr 101 14 l = l := xpr_no (by decide +kernel)
theorem r_101_19 : xfetch 101 19 = some (.iconst 1, 1) := by decide +kernel
theorem n_101_19 : ∀ l, xpr 101 19 l = l := xpr_no (by decide +kernel)
theorem r_101_20 : xfetch 101 20 = some (.ireturn, 1) := by decide +kernel
theorem n_101_20 : ∀ l, xpr 101 20 l = l := xpr_no (by decide +kernel)
theorem r_101_23 : xfetch 101 23 = some (.iconst 2, 1) := by decide +kernel
theorem n_101_23 : ∀ l, xpr 101 23 l = l := xpr_no (by decide +kernel)
theorem r_101_24 : xfetch 101 24 = some (.ireturn, 1) := by decide +kernel
theorem n_101_24 : ∀ l, xpr 101 24 l = l := xpr_no (by decide +kernel)
theorem r_101_27 : xfetch 101 27 = some (.iconst 3, 1) := by decide +kernel
theorem n_101_27 : ∀ l, xpr 101 27 l = l := xpr_no (by decide +kernel)
theorem r_101_28 : xfetch 101 28 = some (.ireturn, 1) := by decide +kernel
theorem n_101_28 : ∀ l, xpr 101 28 l = l := xpr_no (by decide +kernel)
theorem r_101_29 : xfetch 101 29 = some (.iconst 0, 1) := by decide +kernel
theorem n_101_29 : ∀ l, xpr 101 29 l = l := xpr_no (by decide +kernel)
theorem r_101_30 : xfetch 101 30 = some (.ireturn, 1) := by decide +kernel
theorem n_101_30 : ∀ l, xpr 101 30 l = l := xpr_no (by decide +kernel)
theorem r_110_0 : xfetch 110 0 = some (.aload_n 2, 1) := by decide +kernel
theorem n_110_0 : ∀ l, xpr 110 0 l = l := xpr_no (by decide +kernel)
theorem r_110_1 : xfetch 110 1 = some (.iconst 0, 1) := by decide +kernel
theorem n_110_1 : ∀ l, xpr 110 1 l = l := xpr_no (by decide +kernel)
theorem r_110_2 : xfetch 110 2 = some (.aload_n 0, 1) := by decide +kernel
theorem n_110_2 : ∀ l, xpr 110 2 l = l := xpr_no (by decide +kernel)
theorem r_110_3 : xfetch 110 3 = some (.iload_n 1, 1) := by decide +kernel
theorem n_110_3 : ∀ l, xpr 110 3 l = l := xpr_no (by decide +kernel)
theorem r_110_4 : xfetch 110 4 = some (.invokevirtual 55, 3) := by decide +kernel
theorem n_110_4 : ∀ l, xpr 110 4 l = l := xpr_no (by decide +kernel)
theorem r_110_7 : xfetch 110 7 = some (.i2l, 1) := by decide +kernel
theorem n_110_7 : ∀ l, xpr 110 7 l = l := xpr_no (by decide +kernel)
theorem r_110_8 : xfetch 110 8 = some (.lastore, 1) := by decide +kernel
theorem n_110_8 : ∀ l, xpr 110 8 l = l := xpr_no (by decide +kernel)
theorem r_110_9 : xfetch 110 9 = some (.goto 6, 3) := by decide +kernel
theorem n_110_9 : ∀ l, xpr 110 9 l = l := xpr_no (by decide +kernel)
theorem r_110_13 : xfetch 110 13 = some (.iconst 1, 1) := by decide +kernel
theorem n_110_13 : ∀ l, xpr 110 13 l = l := xpr_no (by decide +kernel)
theorem r_110_14 : xfetch 110 14 = some (.ireturn, 1) := by decide +kernel
theorem n_110_14 : ∀ l, xpr 110 14 l = l := xpr_no (by decide +kernel)
theorem r_110_15 : xfetch 110 15 = some (.iconst 0, 1) := by decide +kernel
theorem n_110_15 : ∀ l, xpr 110 15 l = l := xpr_no (by decide +kernel)
theorem r_110_16 : xfetch 110 16 = some (.ireturn, 1) := by decide +kernel
theorem n_110_16 : ∀ l, xpr 110 16 l = l := xpr_no (by decide +kernel)
theorem r_113_0 : xfetch 113 0 = some (.aload_n 3, 1) := by decide +kernel
theorem n_113_0 : ∀ l, xpr 113 0 l = l := xpr_no (by decide +kernel)
theorem r_113_1 : xfetch 113 1 = some (.iconst 0, 1) := by decide +kernel
theorem n_113_1 : ∀ l, xpr 113 1 l = l := xpr_no (by decide +kernel)
theorem r_113_2 : xfetch 113 2 = some (.aload_n 0, 1) := by decide +kernel
theorem n_113_2 : ∀ l, xpr 113 2 l = l := xpr_no (by decide +kernel)
theorem r_113_3 : xfetch 113 3 = some (.iload_n 1, 1) := by decide +kernel
theorem n_113_3 : ∀ l, xpr 113 3 l = l := xpr_no (by decide +kernel)
theorem r_113_4 : xfetch 113 4 = some (.iload_n 2, 1) := by decide +kernel
theorem n_113_4 : ∀ l, xpr 113 4 l = l := xpr_no (by decide +kernel)
theorem r_113_5 : xfetch 113 5 = some (.invokevirtual 58, 3) := by decide +kernel
theorem n_113_5 : ∀ l, xpr 113 5 l = l := xpr_no (by decide +kernel)
theorem r_113_8 : xfetch 113 8 = some (.i2l, 1) := by decide +kernel
theorem n_113_8 : ∀ l, xpr 113 8 l = l := xpr_no (by decide +kernel)
theorem r_113_9 : xfetch 113 9 = some (.lastore, 1) := by decide +kernel
theorem n_113_9 : ∀ l, xpr 113 9 l = l := xpr_no (by decide +kernel)
theorem r_113_10 : xfetch 113 10 = some (.goto 11, 3) := by decide +kernel
theorem n_113_10 : ∀ l, xpr 113 10 l = l := xpr_no (by decide +kernel)
theorem r_113_15 : xfetch 113 15 = some (.iconst 1, 1) := by decide +kernel
theorem n_113_15 : ∀ l, xpr 113 15 l = l := xpr_no (by decide +kernel)
theorem r_113_16 : xfetch 113 16 = some (.ireturn, 1) := by decide +kernel
theorem n_113_16 : ∀ l, xpr 113 16 l = l := xpr_no (by decide +kernel)
theorem r_113_19 : xfetch 113 19 = some (.iconst 2, 1) := by decide +kernel
theorem n_113_19 : ∀ l, xpr 113 19 l = l := xpr_no (by decide +kernel)
theorem r_113_20 : xfetch 113 20 = some (.ireturn, 1) := by decide +kernel
theorem n_113_20 : ∀ l, xpr 113 20 l = l := xpr_no (by decide +kernel)
theorem r_113_21 : xfetch 113 21 = some (.iconst 0, 1) := by decide +kernel
theorem n_113_21 : ∀ l, xpr 113 21 l = l := xpr_no (by decide +kernel)
theorem r_113_22 : xfetch 113 22 = some (.ireturn, 1) := by decide +kernel
theorem n_113_22 : ∀ l, xpr 113 22 l = l := xpr_no (by decide +kernel)
theorem r_115_0 : xfetch 115 0 = some (.aload 4, 2) := by decide +kernel
theorem n_115_0 : ∀ l, xpr 115 0 l = l := xpr_no (by decide +kernel)
theorem r_115_2 : xfetch 115 2 = some (.iconst 0, 1) := by decide +kernel
theorem n_115_2 : ∀ l, xpr 115 2 l = l := xpr_no (by decide +kernel)
theorem r_115_3 : xfetch 115 3 = some (.aload_n 0, 1) := by decide +kernel
theorem n_115_3 : ∀ l, xpr 115 3 l = l := xpr_no (by decide +kernel)
theorem r_115_4 : xfetch 115 4 = some (.iload_n 1, 1) := by decide +kernel
theorem n_115_4 : ∀ l, xpr 115 4 l = l := xpr_no (by decide +kernel)
theorem r_115_5 : xfetch 115 5 = some (.iload_n 2, 1) := by decide +kernel
theorem n_115_5 : ∀ l, xpr 115 5 l = l := xpr_no (by decide +kernel)
theorem r_115_6 : xfetch 115 6 = some (.iload_n 3, 1) := by decide +kernel
theorem n_115_6 : ∀ l, xpr 115 6 l = l := xpr_no (by decide +kernel)
theorem r_115_7 : xfetch 115 7 = some (.invokevirtual 61, 3) := by decide +kernel
theorem n_115_7 : ∀ l, xpr 115 7 l = l := xpr_no (by decide +kernel)
theorem r_115_10 : xfetch 115 10 = some (.i2l, 1) := by decide +kernel
theorem n_115_10 : ∀ l, xpr 115 10 l = l := xpr_no (by decide +kernel)
theorem r_115_11 : xfetch 115 11 = some (.lastore, 1) := by decide +kernel
theorem n_115_11 : ∀ l, xpr 115 11 l = l := xpr_no (by decide +kernel)
theorem r_115_12 : xfetch 115 12 = some (.goto 7, 3) := by decide +kernel
theorem n_115_12 : ∀ l, xpr 115 12 l = l := xpr_no (by decide +kernel)
theorem r_115_17 : xfetch 115 17 = some (.iconst 1, 1) := by decide +kernel
theorem n_115_17 : ∀ l, xpr 115 17 l = l := xpr_no (by decide +kernel)
theorem r_115_18 : xfetch 115 18 = some (.ireturn, 1) := by decide +kernel
theorem n_115_18 : ∀ l, xpr 115 18 l = l := xpr_no (by decide +kernel)
theorem r_115_19 : xfetch 115 19 = some (.iconst 0, 1) := by decide +kernel
theorem n_115_19 : ∀ l, xpr 115 19 l = l := xpr_no (by decide +kernel)
theorem r_115_20 : xfetch 115 20 = some (.ireturn, 1) := by decide +kernel
theorem n_115_20 : ∀ l, xpr 115 20 l = l := xpr_no (by decide +kernel)
theorem r_124_0 : xfetch 124 0 = some (.aload 4, 2) := by decide +kernel
theorem n_124_0 : ∀ l, xpr 124 0 l = l := xpr_no (by decide +kernel)
theorem r_124_2 : xfetch 124 2 = some (.iconst 0, 1) := by decide +kernel
theorem n_124_2 : ∀ l, xpr 124 2 l = l := xpr_no (by decide +kernel)
theorem r_124_3 : xfetch 124 3 = some (.aload_n 0, 1) := by decide +kernel
theorem n_124_3 : ∀ l, xpr 124 3 l = l := xpr_no (by decide +kernel)
theorem r_124_4 : xfetch 124 4 = some (.iload_n 1, 1) := by decide +kernel
theorem n_124_4 : ∀ l, xpr 124 4 l = l := xpr_no (by decide +kernel)
theorem r_124_5 : xfetch 124 5 = some (.iload_n 2, 1) := by decide +kernel
theorem n_124_5 : ∀ l, xpr 124 5 l = l := xpr_no (by decide +kernel)
theorem r_124_6 : xfetch 124 6 = some (.iload_n 3, 1) := by decide +kernel
theorem n_124_6 : ∀ l, xpr 124 6 l = l := xpr_no (by decide +kernel)
theorem r_124_7 : xfetch 124 7 = some (.invokevirtual 64, 3) := by decide +kernel
theorem n_124_7 : ∀ l, xpr 124 7 l = l := xpr_no (by decide +kernel)
theorem r_124_10 : xfetch 124 10 = some (.lastore, 1) := by decide +kernel
theorem n_124_10 : ∀ l, xpr 124 10 l = l := xpr_no (by decide +kernel)
theorem r_124_11 : xfetch 124 11 = some (.goto 7, 3) := by decide +kernel
theorem n_124_11 : ∀ l, xpr 124 11 l = l := xpr_no (by decide +kernel)
theorem r_124_16 : xfetch 124 16 = some (.iconst 1, 1) := by decide +kernel
theorem n_124_16 : ∀ l, xpr 124 16 l = l := xpr_no (by decide +kernel)
theorem r_124_17 : xfetch 124 17 = some (.ireturn, 1) := by decide +kernel
theorem n_124_17 : ∀ l, xpr 124 17 l = l := xpr_no (by decide +kernel)
theorem r_124_18 : xfetch 124 18 = some (.iconst 0, 1) := by decide +kernel
theorem n_124_18 : ∀ l, xpr 124 18 l = l := xpr_no (by decide +kernel)
theorem r_124_19 : xfetch 124 19 = some (.ireturn, 1) := by decide +kernel
theorem n_124_19 : ∀ l, xpr 124 19 l = l := xpr_no (by decide +kernel)
theorem r_129_0 : xfetch 129 0 = some (.aload 6, 2) := by decide +kernel
theorem n_129_0 : ∀ l, xpr 129 0 l = l := xpr_no (by decide +kernel)
theorem r_129_2 : xfetch 129 2 = some (.iconst 0, 1) := by decide +kernel
theorem n_129_2 : ∀ l, xpr 129 2 l = l := xpr_no (by decide +kernel)
theorem r_129_3 : xfetch 129 3 = some (.aload_n 0, 1) := by decide +kernel
theorem n_129_3 : ∀ l, xpr 129 3 l = l := xpr_no (by decide +kernel)
theorem r_129_4 : xfetch 129 4 = some (.iload_n 1, 1) := by decide +kernel
theorem n_129_4 : ∀ l, xpr 129 4 l = l := xpr_no (by decide +kernel)
theorem r_129_5 : xfetch 129 5 = some (.iload_n 2, 1) := by decide +kernel
theorem n_129_5 : ∀ l, xpr 129 5 l = l := xpr_no (by decide +kernel)
theorem r_129_6 : xfetch 129 6 = some (.iload_n 3, 1) := by decide +kernel
theorem n_129_6 : ∀ l, xpr 129 6 l = l := xpr_no (by decide +kernel)
theorem r_129_7 : xfetch 129 7 = some (.lload 4, 2) := by decide +kernel
theorem n_129_7 : ∀ l, xpr 129 7 l = l := xpr_no (by decide +kernel)
theorem r_129_9 : xfetch 129 9 = some (.invokevirtual 68, 3) := by decide +kernel
theorem n_129_9 : ∀ l, xpr 129 9 l = l := xpr_no (by decide +kernel)
theorem r_129_12 : xfetch 129 12 = some (.lastore, 1) := by decide +kernel
theorem n_129_12 : ∀ l, xpr 129 12 l = l := xpr_no (by decide +kernel)
theorem r_129_13 : xfetch 129 13 = some (.goto 7, 3) := by decide +kernel
theorem n_129_13 : ∀ l, xpr 129 13 l = l := xpr_no (by decide +kernel)
theorem r_129_18 : xfetch 129 18 = some (.iconst 1, 1) := by decide +kernel
theorem n_129_18 : ∀ l, xpr 129 18 l = l := xpr_no (by decide +kernel)
theorem r_129_19 : xfetch 129 19 = some (.ireturn, 1) := by decide +kernel
theorem n_129_19 : ∀ l, xpr 129 19 l = l := xpr_no (by decide +kernel)
theorem r_129_20 : xfetch 129 20 = some (.iconst 0, 1) := by decide +kernel
theorem n_129_20 : ∀ l, xpr 129 20 l = l := xpr_no (by decide +kernel)
theorem r_129_21 : xfetch 129 21 = some (.ireturn, 1) := by decide +kernel
theorem n_129_21 : ∀ l, xpr 129 21 l = l := xpr_no (by decide +kernel)
theorem r_133_0 : xfetch 133 0 = some (.aload_n 2, 1) := by decide +kernel
theorem n_133_0 : ∀ l, xpr 133 0 l = l := xpr_no (by decide +kernel)
theorem r_133_1 : xfetch 133 1 = some (.iconst 0, 1) := by decide +kernel
theorem n_133_1 : ∀ l, xpr 133 1 l = l := xpr_no (by decide +kernel)
theorem r_133_2 : xfetch 133 2 = some (.aload_n 0, 1) := by decide +kernel
theorem n_133_2 : ∀ l, xpr 133 2 l = l := xpr_no (by decide +kernel)
theorem r_133_3 : xfetch 133 3 = some (.iload_n 1, 1) := by decide +kernel
theorem n_133_3 : ∀ l, xpr 133 3 l = l := xpr_no (by decide +kernel)
theorem r_133_4 : xfetch 133 4 = some (.invokevirtual 72, 3) := by decide +kernel
theorem n_133_4 : ∀ l, xpr 133 4 l = l := xpr_no (by decide +kernel)
theorem r_133_7 : xfetch 133 7 = some (.i2l, 1) := by decide +kernel
theorem n_133_7 : ∀ l, xpr 133 7 l = l := xpr_no (by decide +kernel)
theorem r_133_8 : xfetch 133 8 = some (.lastore, 1) := by decide +kernel
theorem n_133_8 : ∀ l, xpr 133 8 l = l := xpr_no (by decide +kernel)
theorem r_133_9 : xfetch 133 9 = some (.goto 6, 3) := by decide +kernel
theorem n_133_9 : ∀ l, xpr 133 9 l = l := xpr_no (by decide +kernel)
theorem r_133_13 : xfetch 133 13 = some (.iconst 1, 1) := by decide +kernel
theorem n_133_13 : ∀ l, xpr 133 13 l = l := xpr_no (by decide +kernel)
theorem r_133_14 : xfetch 133 14 = some (.ireturn, 1) := by decide +kernel
theorem n_133_14 : ∀ l, xpr 133 14 l = l := xpr_no (by decide +kernel)
theorem r_133_15 : xfetch 133 15 = some (.iconst 0, 1) := by decide +kernel
theorem n_133_15 : ∀ l, xpr 133 15 l = l := xpr_no (by decide +kernel)
theorem r_133_16 : xfetch 133 16 = some (.ireturn, 1) := by decide +kernel
theorem n_133_16 : ∀ l, xpr 133 16 l = l := xpr_no (by decide +kernel)
theorem r_136_0 : xfetch 136 0 = some (.aload_n 3, 1) := by decide +kernel
theorem n_136_0 : ∀ l, xpr 136 0 l = l := xpr_no (by decide +kernel)
theorem r_136_1 : xfetch 136 1 = some (.iconst 0, 1) := by decide +kernel
theorem n_136_1 : ∀ l, xpr 136 1 l = l := xpr_no (by decide +kernel)
theorem r_136_2 : xfetch 136 2 = some (.aload_n 0, 1) := by decide +kernel
theorem n_136_2 : ∀ l, xpr 136 2 l = l := xpr_no (by decide +kernel)
theorem r_136_3 : xfetch 136 3 = some (.iload_n 1, 1) := by decide +kernel
theorem n_136_3 : ∀ l, xpr 136 3 l = l := xpr_no (by decide +kernel)
theorem r_136_4 : xfetch 136 4 = some (.iload_n 2, 1) := by decide +kernel
theorem n_136_4 : ∀ l, xpr 136 4 l = l := xpr_no (by decide +kernel)
theorem r_136_5 : xfetch 136 5 = some (.invokevirtual 75, 3) := by decide +kernel
theorem n_136_5 : ∀ l, xpr 136 5 l = l := xpr_no (by decide +kernel)
theorem r_136_8 : xfetch 136 8 = some (.i2l, 1) := by decide +kernel
theorem n_136_8 : ∀ l, xpr 136 8 l = l := xpr_no (by decide +kernel)
theorem r_136_9 : xfetch 136 9 = some (.lastore, 1) := by decide +kernel
theorem n_136_9 : ∀ l, xpr 136 9 l = l := xpr_no (by decide +kernel)
theorem r_136_10 : xfetch 136 10 = some (.goto 11, 3) := by decide +kernel
theorem n_136_10 : ∀ l, xpr 136 10 l = l := xpr_no (by decide +kernel)
theorem r_136_15 : xfetch 136 15 = some (.iconst 1, 1) := by decide +kernel
theorem n_136_15 : ∀ l, xpr 136 15 l = l := xpr_no (by decide +kernel)
theorem r_136_16 : xfetch 136 16 = some (.ireturn, 1) := by decide +kernel
theorem n_136_16 : ∀ l, xpr 136 16 l = l := xpr_no (by decide +kernel)
theorem r_136_19 : xfetch 136 19 = some (.iconst 2, 1) := by decide +kernel
theorem n_136_19 : ∀ l, xpr 136 19 l = l := xpr_no (by decide +kernel)
theorem r_136_20 : xfetch 136 20 = some (.ireturn, 1) := by decide +kernel
theorem n_136_20 : ∀ l, xpr 136 20 l = l := xpr_no (by decide +kernel)
theorem r_136_21 : xfetch 136 21 = some (.iconst 0, 1) := by decide +kernel
theorem n_136_21 : ∀ l, xpr 136 21 l = l := xpr_no (by decide +kernel)
theorem r_136_22 : xfetch 136 22 = some (.ireturn, 1) := by decide +kernel
theorem n_136_22 : ∀ l, xpr 136 22 l = l := xpr_no (by decide +kernel)
theorem r_138_0 : xfetch 138 0 = some (.aload 4, 2) := by decide +kernel
theorem n_138_0 : ∀ l, xpr 138 0 l = l := xpr_no (by decide +kernel)
theorem r_138_2 : xfetch 138 2 = some (.iconst 0, 1) := by decide +kernel
theorem n_138_2 : ∀ l, xpr 138 2 l = l := xpr_no (by decide +kernel)
theorem r_138_3 : xfetch 138 3 = some (.aload_n 0, 1) := by decide +kernel
theorem n_138_3 : ∀ l, xpr 138 3 l = l := xpr_no (by decide +kernel)
theorem r_138_4 : xfetch 138 4 = some (.iload_n 1, 1) := by decide +kernel
theorem n_138_4 : ∀ l, xpr 138 4 l = l := xpr_no (by decide +kernel)
theorem r_138_5 : xfetch 138 5 = some (.iload_n 2, 1) := by decide +kernel
theorem n_138_5 : ∀ l, xpr 138 5 l = l := xpr_no (by decide +kernel)
theorem r_138_6 : xfetch 138 6 = some (.iload_n 3, 1) := by decide +kernel
theorem n_138_6 : ∀ l, xpr 138 6 l = l := xpr_no (by decide +kernel)
theorem r_138_7 : xfetch 138 7 = some (.invokevirtual 78, 3) := by decide +kernel
theorem n_138_7 : ∀ l, xpr 138 7 l = l := xpr_no (by decide +kernel)
theorem r_138_10 : xfetch 138 10 = some (.i2l, 1) := by decide +kernel
theorem n_138_10 : ∀ l, xpr 138 10 l = l := xpr_no (by decide +kernel)
theorem r_138_11 : xfetch 138 11 = some (.lastore, 1) := by decide +kernel
theorem n_138_11 : ∀ l, xpr 138 11 l = l := xpr_no (by decide +kernel)
theorem r_138_12 : xfetch 138 12 = some (.goto 15, 3) := by decide +kernel
theorem n_138_12 : ∀ l, xpr 138 12 l = l := xpr_no (by decide +kernel)
theorem r_138_17 : xfetch 138 17 = some (.iconst 1, 1) := by decide +kernel
theorem n_138_17 : ∀ l, xpr 138 17 l = l := xpr_no (by decide +kernel)
theorem r_138_18 : xfetch 138 18 = some (.ireturn, 1) := by decide +kernel
theorem n_138_18 : ∀ l, xpr 138 18 l = l := xpr_no (by decide +kernel)
theorem r_138_21 : xfetch 138 21 = some (.iconst 2, 1) := by decide +kernel
theorem n_138_21 : ∀ l, xpr 138 21 l = l := xpr_no (by decide +kernel)
theorem r_138_22 : xfetch 138 22 = some (.ireturn, 1) := by decide +kernel
theorem n_138_22 : ∀ l, xpr 138 22 l = l := xpr_no (by decide +kernel)
theorem r_138_25 : xfetch 138 25 = some (.iconst 3, 1) := by decide +kernel
theorem n_138_25 : ∀ l, xpr 138 25 l = l := xpr_no (by decide +kernel)
theorem r_138_26 : xfetch 138 26 = some (.ireturn, 1) := by decide +kernel
theorem n_138_26 : ∀ l, xpr 138 26 l = l := xpr_no (by decide +kernel)
theorem r_138_27 : xfetch 138 27 = some (.iconst 0, 1) := by decide +kernel
theorem n_138_27 : ∀ l, xpr 138 27 l = l := xpr_no (by decide +kernel)
theorem r_138_28 : xfetch 138 28 = some (.ireturn, 1) := by decide +kernel
theorem n_138_28 : ∀ l, xpr 138 28 l = l := xpr_no (by decide +kernel)
theorem r_143_0 : xfetch 143 0 = some (.aload 4, 2) := by decide +kernel
theorem n_143_0 : ∀ l, xpr 143 0 l = l := xpr_no (by decide +kernel)
theorem r_143_2 : xfetch 143 2 = some (.iconst 0, 1) := by decide +kernel
theorem n_143_2 : ∀ l, xpr 143 2 l = l := xpr_no (by decide +kernel)
theorem r_143_3 : xfetch 143 3 = some (.aload_n 0, 1) := by decide +kernel
theorem n_143_3 : ∀ l, xpr 143 3 l = l := xpr_no (by decide +kernel)
theorem r_143_4 : xfetch 143 4 = some (.iload_n 1, 1) := by decide +kernel
theorem n_143_4 : ∀ l, xpr 143 4 l = l := xpr_no (by decide +kernel)
theorem r_143_5 : xfetch 143 5 = some (.iload_n 2, 1) := by decide +kernel
theorem n_143_5 : ∀ l, xpr 143 5 l = l := xpr_no (by decide +kernel)
theorem r_143_6 : xfetch 143 6 = some (.iload_n 3, 1) := by decide +kernel
theorem n_143_6 : ∀ l, xpr 143 6 l = l := xpr_no (by decide +kernel)
theorem r_143_7 : xfetch 143 7 = some (.invokevirtual 81, 3) := by decide +kernel
theorem n_143_7 : ∀ l, xpr 143 7 l = l := xpr_no (by decide +kernel)
theorem r_143_10 : xfetch 143 10 = some (.i2l, 1) := by decide +kernel
theorem n_143_10 : ∀ l, xpr 143 10 l = l := xpr_no (by decide +kernel)
theorem r_143_11 : xfetch 143 11 = some (.lastore, 1) := by decide +kernel
theorem n_143_11 : ∀ l, xpr 143 11 l = l := xpr_no (by decide +kernel)
theorem r_143_12 : xfetch 143 12 = some (.goto 15, 3) := by decide +kernel
theorem n_143_12 : ∀ l, xpr 143 12 l = l := xpr_no (by decide +kernel)
theorem r_143_17 : xfetch 143 17 = some (.iconst 1, 1) := by decide +kernel
theorem n_143_17 : ∀ l, xpr 143 17 l = l := xpr_no (by decide +kernel)
theorem r_143_18 : xfetch 143 18 = some (.ireturn, 1) := by decide +kernel
theorem n_143_18 : ∀ l, xpr 143 18 l = l := xpr_no (by decide +kernel)
theorem r_143_21 : xfetch 143 21 = some (.iconst 2, 1) := by decide +kernel
theorem n_143_21 : ∀ l, xpr 143 21 l = l := xpr_no (by decide +kernel)
theorem r_143_22 : xfetch 143 22 = some (.ireturn, 1) := by decide +kernel
theorem n_143_22 : ∀ l, xpr 143 22 l = l := xpr_no (by decide +kernel)
theorem r_143_25 : xfetch 143 25 = some (.iconst 3, 1) := by decide +kernel
theorem n_143_25 : ∀ l, xpr 143 25 l = l := xpr_no (by decide +kernel)
theorem r_143_26 : xfetch 143 26 = some (.ireturn, 1) := by decide +kernel
theorem n_143_26 : ∀ l, xpr 143 26 l = l := xpr_no (by decide +kernel)
theorem r_143_27 : xfetch 143 27 = some (.iconst 0, 1) := by decide +kernel
theorem n_143_27 : ∀ l, xpr 143 27 l = l := xpr_no (by decide +kernel)
theorem r_143_28 : xfetch 143 28 = some (.ireturn, 1) := by decide +kernel
theorem n_143_28 : ∀ l, xpr 143 28 l = l := xpr_no (by decide +kernel)
theorem r_145_0 : xfetch 145 0 = some (.aload 4, 2) := by decide +kernel
theorem n_145_0 : ∀ l, xpr 145 0 l = l := xpr_no (by decide +kernel)
theorem r_145_2 : xfetch 145 2 = some (.iconst 0, 1) := by decide +kernel
theorem n_145_2 : ∀ l, xpr 145 2 l = l := xpr_no (by decide +kernel)
theorem r_145_3 : xfetch 145 3 = some (.aload_n 0, 1) := by decide +kernel
theorem n_145_3 : ∀ l, xpr 145 3 l = l := xpr_no (by decide +kernel)
theorem r_145_4 : xfetch 145 4 = some (.iload_n 1, 1) := by decide +kernel
theorem n_145_4 : ∀ l, xpr 145 4 l = l := xpr_no (by decide +kernel)
theorem r_145_5 : xfetch 145 5 = some (.iload_n 2, 1) := by decide +kernel
theorem n_145_5 : ∀ l, xpr 145 5 l = l := xpr_no (by decide +kernel)
theorem r_145_6 : xfetch 145 6 = some (.iload_n 3, 1) := by decide +kernel
theorem n_145_6 : ∀ l, xpr 145 6 l = l := xpr_no (by decide +kernel)
theorem r_145_7 : xfetch 145 7 = some (.invokevirtual 84, 3) := by decide +kernel
theorem n_145_7 : ∀ l, xpr 145 7 l = l := xpr_no (by decide +kernel)
theorem r_145_10 : xfetch 145 10 = some (.i2l, 1) := by decide +kernel
theorem n_145_10 : ∀ l, xpr 145 10 l = l := xpr_no (by decide +kernel)
theorem r_145_11 : xfetch 145 11 = some (.lastore, 1) := by decide +kernel
theorem n_145_11 : ∀ l, xpr 145 11 l = l := xpr_no (by decide +kernel)
theorem r_145_12 : xfetch 145 12 = some (.goto 7, 3) := by decide +kernel
theorem n_145_12 : ∀ l, xpr 145 12 l = l := xpr_no (by decide +kernel)
theorem r_145_17 : xfetch 145 17 = some (.iconst 1, 1) := by decide +kernel
theorem n_145_17 : ∀ l, xpr 145 17 l = l := xpr_no (by decide +kernel)
theorem r_145_18 : xfetch 145 18 = some (.ireturn, 1) := by decide +kernel
theorem n_145_18 : ∀ l, xpr 145 18 l = l := xpr_no (by decide +kernel)
theorem r_145_19 : xfetch 145 19 = some (.iconst 0, 1) := by decide +kernel
theorem n_145_19 : ∀ l, xpr 145 19 l = l := xpr_no (by decide +kernel)
theorem r_145_20 : xfetch 145 20 = some (.ireturn, 1) := by decide +kernel
theorem n_145_20 : ∀ l, xpr 145 20 l = l := xpr_no (by decide +kernel)
theorem r_149_0 : xfetch 149 0 = some (.aload 7, 2) := by decide +kernel
theorem n_149_0 : ∀ l, xpr 149 0 l = l := xpr_no (by decide +kernel)
theorem r_149_2 : xfetch 149 2 = some (.iconst 0, 1) := by decide +kernel
theorem n_149_2 : ∀ l, xpr 149 2 l = l := xpr_no (by decide +kernel)
theorem r_149_3 : xfetch 149 3 = some (.aload_n 0, 1) := by decide +kernel
theorem n_149_3 : ∀ l, xpr 149 3 l = l := xpr_no (by decide +kernel)
theorem r_149_4 : xfetch 149 4 = some (.iload_n 1, 1) := by decide +kernel
theorem n_149_4 : ∀ l, xpr 149 4 l = l := xpr_no (by decide +kernel)
theorem r_149_5 : xfetch 149 5 = some (.iload_n 2, 1) := by decide +kernel
theorem n_149_5 : ∀ l, xpr 149 5 l = l := xpr_no (by decide +kernel)
theorem r_149_6 : xfetch 149 6 = some (.lload_n 3, 1) := by decide +kernel
theorem n_149_6 : ∀ l, xpr 149 6 l = l := xpr_no (by decide +kernel)
theorem r_149_7 : xfetch 149 7 = some (.lload 5, 2) := by decide +kernel
theorem n_149_7 : ∀ l, xpr 149 7 l = l := xpr_no (by decide +kernel)
theorem r_149_9 : xfetch 149 9 = some (.invokevirtual 88, 3) := by decide +kernel
theorem n_149_9 : ∀ l, xpr 149 9 l = l := xpr_no (by decide +kernel)
theorem r_149_12 : xfetch 149 12 = some (.i2l, 1) := by decide +kernel
theorem n_149_12 : ∀ l, xpr 149 12 l = l := xpr_no (by decide +kernel)
theorem r_149_13 : xfetch 149 13 = some (.lastore, 1) := by decide +kernel
theorem n_149_13 : ∀ l, xpr 149 13 l = l := xpr_no (by decide +kernel)
theorem r_149_14 : xfetch 149 14 = some (.goto 7, 3) := by decide +kernel
theorem n_149_14 : ∀ l, xpr 149 14 l = l := xpr_no (by decide +kernel)
theorem r_149_19 : xfetch 149 19 = some (.iconst 1, 1) := by decide +kernel
theorem n_149_19 : ∀ l, xpr 149 19 l = l := xpr_no (by decide +kernel)
theorem r_149_20 : xfetch 149 20 = some (.ireturn, 1) := by decide +kernel
theorem n_149_20 : ∀ l, xpr 149 20 l = l := xpr_no (by decide +kernel)
theorem r_149_21 : xfetch 149 21 = some (.iconst 0, 1) := by decide +kernel
theorem n_149_21 : ∀ l, xpr 149 21 l = l := xpr_no (by decide +kernel)
theorem r_149_22 : xfetch 149 22 = some (.ireturn, 1) := by decide +kernel
theorem n_149_22 : ∀ l, xpr 149 22 l = l := xpr_no (by decide +kernel)
theorem r_151_0 : xfetch 151 0 = some (.aload 4, 2) := by decide +kernel
theorem n_151_0 : ∀ l, xpr 151 0 l = l := xpr_no (by decide +kernel)
theorem r_151_2 : xfetch 151 2 = some (.iconst 0, 1) := by decide +kernel
theorem n_151_2 : ∀ l, xpr 151 2 l = l := xpr_no (by decide +kernel)
theorem r_151_3 : xfetch 151 3 = some (.aload_n 0, 1) := by decide +kernel
theorem n_151_3 : ∀ l, xpr 151 3 l = l := xpr_no (by decide +kernel)
theorem r_151_4 : xfetch 151 4 = some (.iload_n 1, 1) := by decide +kernel
theorem n_151_4 : ∀ l, xpr 151 4 l = l := xpr_no (by decide +kernel)
theorem r_151_5 : xfetch 151 5 = some (.iload_n 2, 1) := by decide +kernel
theorem n_151_5 : ∀ l, xpr 151 5 l = l := xpr_no (by decide +kernel)
theorem r_151_6 : xfetch 151 6 = some (.iload_n 3, 1) := by decide +kernel
theorem n_151_6 : ∀ l, xpr 151 6 l = l := xpr_no (by decide +kernel)
theorem r_151_7 : xfetch 151 7 = some (.invokevirtual 92, 3) := by decide +kernel
theorem n_151_7 : ∀ l, xpr 151 7 l = l := xpr_no (by decide +kernel)
theorem r_151_10 : xfetch 151 10 = some (.i2l, 1) := by decide +kernel
theorem n_151_10 : ∀ l, xpr 151 10 l = l := xpr_no (by decide +kernel)
theorem r_151_11 : xfetch 151 11 = some (.lastore, 1) := by decide +kernel
theorem n_151_11 : ∀ l, xpr 151 11 l = l := xpr_no (by decide +kernel)
theorem r_151_12 : xfetch 151 12 = some (.goto 7, 3) := by decide +kernel
theorem n_151_12 : ∀ l, xpr 151 12 l = l := xpr_no (by decide +kernel)
theorem r_151_17 : xfetch 151 17 = some (.iconst 1, 1) := by decide +kernel
theorem n_151_17 : ∀ l, xpr 151 17 l = l := xpr_no (by decide +kernel)
theorem r_151_18 : xfetch 151 18 = some (.ireturn, 1) := by decide +kernel
theorem n_151_18 : ∀ l, xpr 151 18 l = l := xpr_no (by decide +kernel)
theorem r_151_19 : xfetch 151 19 = some (.iconst 0, 1) := by decide +kernel
theorem n_151_19 : ∀ l, xpr 151 19 l = l := xpr_no (by decide +kernel)
theorem r_151_20 : xfetch 151 20 = some (.ireturn, 1) := by decide +kernel
theorem n_151_20 : ∀ l, xpr 151 20 l = l := xpr_no (by decide +kernel)
theorem r_153_0 : xfetch 153 0 = some (.aload 6, 2) := by decide +kernel
theorem n_153_0 : ∀ l, xpr 153 0 l = l := xpr_no (by decide +kernel)
theorem r_153_2 : xfetch 153 2 = some (.iconst 0, 1) := by decide +kernel
theorem n_153_2 : ∀ l, xpr 153 2 l = l := xpr_no (by decide +kernel)
theorem r_153_3 : xfetch 153 3 = some (.aload_n 0, 1) := by decide +kernel
theorem n_153_3 : ∀ l, xpr 153 3 l = l := xpr_no (by decide +kernel)
theorem r_153_4 : xfetch 153 4 = some (.iload_n 1, 1) := by decide +kernel
theorem n_153_4 : ∀ l, xpr 153 4 l = l := xpr_no (by decide +kernel)
theorem r_153_5 : xfetch 153 5 = some (.iload_n 2, 1) := by decide +kernel
theorem n_153_5 : ∀ l, xpr 153 5 l = l := xpr_no (by decide +kernel)
theorem r_153_6 : xfetch 153 6 = some (.iload_n 3, 1) := by decide +kernel
theorem n_153_6 : ∀ l, xpr 153 6 l = l := xpr_no (by decide +kernel)
theorem r_153_7 : xfetch 153 7 = some (.lload 4, 2) := by decide +kernel
theorem n_153_7 : ∀ l, xpr 153 7 l = l := xpr_no (by decide +kernel)
theorem r_153_9 : xfetch 153 9 = some (.invokevirtual 95, 3) := by decide +kernel
theorem n_153_9 : ∀ l, xpr 153 9 l = l := xpr_no (by decide +kernel)
theorem r_153_12 : xfetch 153 12 = some (.i2l, 1) := by decide +kernel
theorem n_153_12 : ∀ l, xpr 153 12 l = l := xpr_no (by decide +kernel)
theorem r_153_13 : xfetch 153 13 = some (.lastore, 1) := by decide +kernel
theorem n_153_13 : ∀ l, xpr 153 13 l = l := xpr_no (by decide +kernel)
theorem r_153_14 : xfetch 153 14 = some (.goto 11, 3) := by decide +kernel
theorem n_153_14 : ∀ l, xpr 153 14 l = l := xpr_no (by decide +kernel)
theorem r_153_19 : xfetch 153 19 = some (.iconst 1, 1) := by decide +kernel
theorem n_153_19 : ∀ l, xpr 153 19 l = l := xpr_no (by decide +kernel)
theorem r_153_20 : xfetch 153 20 = some (.ireturn, 1) := by decide +kernel
theorem n_153_20 : ∀ l, xpr 153 20 l = l := xpr_no (by decide +kernel)
theorem r_153_23 : xfetch 153 23 = some (.iconst 2, 1) := by decide +kernel
theorem n_153_23 : ∀ l, xpr 153 23 l = l := xpr_no (by decide +kernel)
theorem r_153_24 : xfetch 153 24 = some (.ireturn, 1) := by decide +kernel
theorem n_153_24 : ∀ l, xpr 153 24 l = l := xpr_no (by decide +kernel)
theorem r_153_25 : xfetch 153 25 = some (.iconst 0, 1) := by decide +kernel
theorem n_153_25 : ∀ l, xpr 153 25 l = l := xpr_no (by decide +kernel)
theorem r_153_26 : xfetch 153 26 = some (.ireturn, 1) := by decide +kernel
theorem n_153_26 : ∀ l, xpr 153 26 l = l := xpr_no (by decide +kernel)
theorem r_155_0 : xfetch 155 0 = some (.aload 6, 2) := by decide +kernel
theorem n_155_0 : ∀ l, xpr 155 0 l = l := xpr_no (by decide +kernel)
theorem r_155_2 : xfetch 155 2 = some (.iconst 0, 1) := by decide +kernel
theorem n_155_2 : ∀ l, xpr 155 2 l = l := xpr_no (by decide +kernel)
theorem r_155_3 : xfetch 155 3 = some (.aload_n 0, 1) := by decide +kernel
theorem n_155_3 : ∀ l, xpr 155 3 l = l := xpr_no (by decide +kernel)
theorem r_155_4 : xfetch 155 4 = some (.iload_n 1, 1) := by decide +kernel
theorem n_155_4 : ∀ l, xpr 155 4 l = l := xpr_no (by decide +kernel)
theorem r_155_5 : xfetch 155 5 = some (.iload_n 2, 1) := by decide +kernel
theorem n_155_5 : ∀ l, xpr 155 5 l = l := xpr_no (by decide +kernel)
theorem r_155_6 : xfetch 155 6 = some (.lload_n 3, 1) := by decide +kernel
theorem n_155_6 : ∀ l, xpr 155 6 l = l := xpr_no (by decide +kernel)
theorem r_155_7 : xfetch 155 7 = some (.iload 5, 2) := by decide +kernel
theorem n_155_7 : ∀ l, xpr 155 7 l = l := xpr_no (by decide +kernel)
theorem r_155_9 : xfetch 155 9 = some (.invokevirtual 99, 3) := by decide +kernel
theorem n_155_9 : ∀ l, xpr 155 9 l = l := xpr_no (by decide +kernel)
theorem r_155_12 : xfetch 155 12 = some (.i2l, 1) := by decide +kernel
theorem n_155_12 : ∀ l, xpr 155 12 l = l := xpr_no (by decide +kernel)
theorem r_155_13 : xfetch 155 13 = some (.lastore, 1) := by decide +kernel
theorem n_155_13 : ∀ l, xpr 155 13 l = l := xpr_no (by decide +kernel)
theorem r_155_14 : xfetch 155 14 = some (.goto 7, 3) := by decide +kernel
theorem n_155_14 : ∀ l, xpr 155 14 l = l := xpr_no (by decide +kernel)
theorem r_155_19 : xfetch 155 19 = some (.iconst 1, 1) := by decide +kernel
theorem n_155_19 : ∀ l, xpr 155 19 l = l := xpr_no (by decide +kernel)
theorem r_155_20 : xfetch 155 20 = some (.ireturn, 1) := by decide +kernel
theorem n_155_20 : ∀ l, xpr 155 20 l = l := xpr_no (by decide +kernel)
theorem r_155_21 : xfetch 155 21 = some (.iconst 0, 1) := by decide +kernel
theorem n_155_21 : ∀ l, xpr 155 21 l = l := xpr_no (by decide +kernel)
theorem r_155_22 : xfetch 155 22 = some (.ireturn, 1) := by decide +kernel
theorem n_155_22 : ∀ l, xpr 155 22 l = l := xpr_no (by decide +kernel)
theorem r_157_0 : xfetch 157 0 = some (.aload_n 3, 1) := by decide +kernel
theorem n_157_0 : ∀ l, xpr 157 0 l = l := xpr_no (by decide +kernel)
theorem r_157_1 : xfetch 157 1 = some (.iconst 0, 1) := by decide +kernel
theorem n_157_1 : ∀ l, xpr 157 1 l = l := xpr_no (by decide +kernel)
theorem r_157_2 : xfetch 157 2 = some (.aload_n 0, 1) := by decide +kernel
theorem n_157_2 : ∀ l, xpr 157 2 l = l := xpr_no (by decide +kernel)
theorem r_157_3 : xfetch 157 3 = some (.iload_n 1, 1) := by decide +kernel
theorem n_157_3 : ∀ l, xpr 157 3 l = l := xpr_no (by decide +kernel)
theorem r_157_4 : xfetch 157 4 = some (.iload_n 2, 1) := by decide +kernel
theorem n_157_4 : ∀ l, xpr 157 4 l = l := xpr_no (by decide +kernel)
theorem r_157_5 : xfetch 157 5 = some (.invokevirtual 103, 3) := by decide +kernel
theorem n_157_5 : ∀ l, xpr 157 5 l = l := xpr_no (by decide +kernel)
theorem r_157_8 : xfetch 157 8 = some (.lastore, 1) := by decide +kernel
theorem n_157_8 : ∀ l, xpr 157 8 l = l := xpr_no (by decide +kernel)
theorem r_157_9 : xfetch 157 9 = some (.goto 7, 3) := by decide +kernel
theorem n_157_9 : ∀ l, xpr 157 9 l = l := xpr_no (by decide +kernel)
theorem r_157_14 : xfetch 157 14 = some (.iconst 1, 1) := by decide +kernel
theorem n_157_14 : ∀ l, xpr 157 14 l = l := xpr_no (by decide +kernel)
theorem r_157_15 : xfetch 157 15 = some (.ireturn, 1) := by decide +kernel
theorem n_157_15 : ∀ l, xpr 157 15 l = l := xpr_no (by decide +kernel)
theorem r_157_16 : xfetch 157 16 = some (.iconst 0, 1) := by decide +kernel
theorem n_157_16 : ∀ l, xpr 157 16 l = l := xpr_no (by decide +kernel)
theorem r_157_17 : xfetch 157 17 = some (.ireturn, 1) := by decide +kernel
theorem n_157_17 : ∀ l, xpr 157 17 l = l := xpr_no (by decide +kernel)
theorem r_159_0 : xfetch 159 0 = some (.aload 7, 2) := by decide +kernel
theorem n_159_0 : ∀ l, xpr 159 0 l = l := xpr_no (by decide +kernel)
theorem r_159_2 : xfetch 159 2 = some (.iconst 0, 1) := by decide +kernel
theorem n_159_2 : ∀ l, xpr 159 2 l = l := xpr_no (by decide +kernel)
theorem r_159_3 : xfetch 159 3 = some (.aload_n 0, 1) := by decide +kernel
theorem n_159_3 : ∀ l, xpr 159 3 l = l := xpr_no (by decide +kernel)
theorem r_159_4 : xfetch 159 4 = some (.iload_n 1, 1) := by decide +kernel
theorem n_159_4 : ∀ l, xpr 159 4 l = l := xpr_no (by decide +kernel)
theorem r_159_5 : xfetch 159 5 = some (.lload_n 2, 1) := by decide +kernel
theorem n_159_5 : ∀ l, xpr 159 5 l = l := xpr_no (by decide +kernel)
theorem r_159_6 : xfetch 159 6 = some (.iload 4, 2) := by decide +kernel
theorem n_159_6 : ∀ l, xpr 159 6 l = l := xpr_no (by decide +kernel)
theorem r_159_8 : xfetch 159 8 = some (.iload 5, 2) := by decide +kernel
theorem n_159_8 : ∀ l, xpr 159 8 l = l := xpr_no (by decide +kernel)
theorem r_159_10 : xfetch 159 10 = some (.iload 6, 2) := by decide +kernel
theorem n_159_10 : ∀ l, xpr 159 10 l = l := xpr_no (by decide +kernel)
theorem r_159_12 : xfetch 159 12 = some (.invokevirtual 107, 3) := by decide +kernel
theorem n_159_12 : ∀ l, xpr 159 12 l = l := xpr_no (by decide +kernel)
theorem r_159_15 : xfetch 159 15 = some (.i2l, 1) := by decide +kernel
theorem n_159_15 : ∀ l, xpr 159 15 l = l := xpr_no (by decide +kernel)
theorem r_159_16 : xfetch 159 16 = some (.lastore, 1) := by decide +kernel
theorem n_159_16 : ∀ l, xpr 159 16 l = l := xpr_no (by decide +kernel)
theorem r_159_17 : xfetch 159 17 = some (.goto 11, 3) := by decide +kernel
theorem n_159_17 : ∀ l, xpr 159 17 l = l := xpr_no (by decide +kernel)
theorem r_159_22 : xfetch 159 22 = some (.iconst 1, 1) := by decide +kernel
theorem n_159_22 : ∀ l, xpr 159 22 l = l := xpr_no (by decide +kernel)
theorem r_159_23 : xfetch 159 23 = some (.ireturn, 1) := by decide +kernel
theorem n_159_23 : ∀ l, xpr 159 23 l = l := xpr_no (by decide +kernel)
theorem r_159_26 : xfetch 159 26 = some (.iconst 2, 1) := by decide +kernel
theorem n_159_26 : ∀ l, xpr 159 26 l = l := xpr_no (by decide +kernel)
theorem r_159_27 : xfetch 159 27 = some (.ireturn, 1) := by decide +kernel
theorem n_159_27 : ∀ l, xpr 159 27 l = l := xpr_no (by decide +kernel)
theorem r_159_28 : xfetch 159 28 = some (.iconst 0, 1) := by decide +kernel
theorem n_159_28 : ∀ l, xpr 159 28 l = l := xpr_no (by decide +kernel)
theorem r_159_29 : xfetch 159 29 = some (.ireturn, 1) := by decide +kernel
theorem n_159_29 : ∀ l, xpr 159 29 l = l := xpr_no (by decide +kernel)
theorem r_169_0 : xfetch 169 0 = some (.aload 6, 2) := by decide +kernel
theorem n_169_0 : ∀ l, xpr 169 0 l = l := xpr_no (by decide +kernel)
theorem r_169_2 : xfetch 169 2 = some (.iconst 0, 1) := by decide +kernel
theorem n_169_2 : ∀ l, xpr 169 2 l = l := xpr_no (by decide +kernel)
theorem r_169_3 : xfetch 169 3 = some (.aload_n 0, 1) := by decide +kernel
theorem n_169_3 : ∀ l, xpr 169 3 l = l := xpr_no (by decide +kernel)
theorem r_169_4 : xfetch 169 4 = some (.iload_n 1, 1) := by decide +kernel
theorem n_169_4 : ∀ l, xpr 169 4 l = l := xpr_no (by decide +kernel)
theorem r_169_5 : xfetch 169 5 = some (.lload_n 2, 1) := by decide +kernel
theorem n_169_5 : ∀ l, xpr 169 5 l = l := xpr_no (by decide +kernel)
theorem r_169_6 : xfetch 169 6 = some (.iload 4, 2) := by decide +kernel
theorem n_169_6 : ∀ l, xpr 169 6 l = l := xpr_no (by decide +kernel)
theorem r_169_8 : xfetch 169 8 = some (.iload 5, 2) := by decide +kernel
theorem n_169_8 : ∀ l, xpr 169 8 l = l := xpr_no (by decide +kernel)
theorem r_169_10 : xfetch 169 10 = some (.invokevirtual 111, 3) := by decide +kernel
theorem n_169_10 : ∀ l, xpr 169 10 l = l := xpr_no (by decide +kernel)
theorem r_169_13 : xfetch 169 13 = some (.i2l, 1) := by decide +kernel
theorem n_169_13 : ∀ l, xpr 169 13 l = l := xpr_no (by decide +kernel)
theorem r_169_14 : xfetch 169 14 = some (.lastore, 1) := by decide +kernel
theorem n_169_14 : ∀ l, xpr 169 14 l = l := xpr_no (by decide +kernel)
theorem r_169_15 : xfetch 169 15 = some (.goto 11, 3) := by decide +kernel
theorem n_169_15 : ∀ l, xpr 169 15 l = l := xpr_no (by decide +kernel)
theorem r_169_20 : xfetch 169 20 = some (.iconst 1, 1) := by decide +kernel
theorem n_169_20 : ∀ l, xpr 169 20 l = l := xpr_no (by decide +kernel)
theorem r_169_21 : xfetch 169 21 = some (.ireturn, 1) := by decide +kernel
theorem n_169_21 : ∀ l, xpr 169 21 l = l := xpr_no (by decide +kernel)
theorem r_169_24 : xfetch 169 24 = some (.iconst 2, 1) := by decide +kernel
theorem n_169_24 : ∀ l, xpr 169 24 l = l := xpr_no (by decide +kernel)
theorem r_169_25 : xfetch 169 25 = some (.ireturn, 1) := by decide +kernel
theorem n_169_25 : ∀ l, xpr 169 25 l = l := xpr_no (by decide +kernel)
theorem r_169_26 : xfetch 169 26 = some (.iconst 0, 1) := by decide +kernel
theorem n_169_26 : ∀ l, xpr 169 26 l = l := xpr_no (by decide +kernel)
theorem r_169_27 : xfetch 169 27 = some (.ireturn, 1) := by decide +kernel
theorem n_169_27 : ∀ l, xpr 169 27 l = l := xpr_no (by decide +kernel)
theorem r_172_0 : xfetch 172 0 = some (.aload 5, 2) := by decide +kernel
theorem n_172_0 : ∀ l, xpr 172 0 l = l := xpr_no (by decide +kernel)
theorem r_172_2 : xfetch 172 2 = some (.iconst 0, 1) := by decide +kernel
theorem n_172_2 : ∀ l, xpr 172 2 l = l := xpr_no (by decide +kernel)
theorem r_172_3 : xfetch 172 3 = some (.aload_n 0, 1) := by decide +kernel
theorem n_172_3 : ∀ l, xpr 172 3 l = l := xpr_no (by decide +kernel)
theorem r_172_4 : xfetch 172 4 = some (.iload_n 1, 1) := by decide +kernel
theorem n_172_4 : ∀ l, xpr 172 4 l = l := xpr_no (by decide +kernel)
theorem r_172_5 : xfetch 172 5 = some (.lload_n 2, 1) := by decide +kernel
theorem n_172_5 : ∀ l, xpr 172 5 l = l := xpr_no (by decide +kernel)
theorem r_172_6 : xfetch 172 6 = some (.iload 4, 2) := by decide +kernel
theorem n_172_6 : ∀ l, xpr 172 6 l = l := xpr_no (by decide +kernel)
theorem r_172_8 : xfetch 172 8 = some (.invokevirtual 115, 3) := by decide +kernel
theorem n_172_8 : ∀ l, xpr 172 8 l = l := xpr_no (by decide +kernel)
theorem r_172_11 : xfetch 172 11 = some (.i2l, 1) := by decide +kernel
theorem n_172_11 : ∀ l, xpr 172 11 l = l := xpr_no (by decide +kernel)
theorem r_172_12 : xfetch 172 12 = some (.lastore, 1) := by decide +kernel
theorem n_172_12 : ∀ l, xpr 172 12 l = l := xpr_no (by decide +kernel)
theorem r_172_13 : xfetch 172 13 = some (.goto 11, 3) := by decide +kernel
theorem n_172_13 : ∀ l, xpr 172 13 l = l := xpr_no (by decide +kernel)
theorem r_172_18 : xfetch 172 18 = some (.iconst 1, 1) := by decide +kernel
theorem n_172_18 : ∀ l, xpr 172 18 l = l := xpr_no (by decide +kernel)
theorem r_172_19 : xfetch 172 19 = some (.ireturn, 1) := by decide +kernel
theorem n_172_19 : ∀ l, xpr 172 19 l = l := xpr_no (by decide +kernel)
theorem r_172_22 : xfetch 172 22 = some (.iconst 2, 1) := by decide +kernel
theorem n_172_22 : ∀ l, xpr 172 22 l = l := xpr_no (by decide +kernel)
theorem r_172_23 : xfetch 172 23 = some (.ireturn, 1) := by decide +kernel
theorem n_172_23 : ∀ l, xpr 172 23 l = l := xpr_no (by decide +kernel)
theorem r_172_24 : xfetch 172 24 = some (.iconst 0, 1) := by decide +kernel
theorem n_172_24 : ∀ l, xpr 172 24 l = l := xpr_no (by decide +kernel)
theorem r_172_25 : xfetch 172 25 = some (.ireturn, 1) := by decide +kernel
theorem n_172_25 : ∀ l, xpr 172 25 l = l := xpr_no (by decide +kernel)
theorem r_174_0 : xfetch 174 0 = some (.aload_n 1, 1) := by decide +kernel
theorem n_174_0 : ∀ l, xpr 174 0 l = l := xpr_no (by decide +kernel)
theorem r_174_1 : xfetch 174 1 = some (.iconst 0, 1) := by decide +kernel
theorem n_174_1 : ∀ l, xpr 174 1 l = l := xpr_no (by decide +kernel)
theorem r_174_2 : xfetch 174 2 = some (.aload_n 0, 1) := by decide +kernel
theorem n_174_2 : ∀ l, xpr 174 2 l = l := xpr_no (by decide +kernel)
theorem r_174_3 : xfetch 174 3 = some (.invokevirtual 119, 3) := by decide +kernel
theorem n_174_3 : ∀ l, xpr 174 3 l = l := xpr_no (by decide +kernel)
theorem r_174_6 : xfetch 174 6 = some (.i2l, 1) := by decide +kernel
theorem n_174_6 : ∀ l, xpr 174 6 l = l := xpr_no (by decide +kernel)
theorem r_174_7 : xfetch 174 7 = some (.lastore, 1) := by decide +kernel
theorem n_174_7 : ∀ l, xpr 174 7 l = l := xpr_no (by decide +kernel)
theorem r_174_8 : xfetch 174 8 = some (.goto 6, 3) := by decide +kernel
theorem n_174_8 : ∀ l, xpr 174 8 l = l := xpr_no (by decide +kernel)
theorem r_174_12 : xfetch 174 12 = some (.iconst 1, 1) := by decide +kernel
theorem n_174_12 : ∀ l, xpr 174 12 l = l := xpr_no (by decide +kernel)
theorem r_174_13 : xfetch 174 13 = some (.ireturn, 1) := by decide +kernel
theorem n_174_13 : ∀ l, xpr 174 13 l = l := xpr_no (by decide +kernel)
theorem r_174_14 : xfetch 174 14 = some (.iconst 0, 1) := by decide +kernel
theorem n_174_14 : ∀ l, xpr 174 14 l = l := xpr_no (by decide +kernel)
theorem r_174_15 : xfetch 174 15 = some (.ireturn, 1) := by decide +kernel
theorem n_174_15 : ∀ l, xpr 174 15 l = l := xpr_no (by decide +kernel)
theorem v_Law_newRecord_0 {S : Option (Nat × (Nat → Int32))} {s : zSt} {Q : Option Value ⊕ Nat → zSt → Prop} {x1 : Int} 
    (h : wp S 35 0 [(0, rf 2), (1, iv x1)] [] s (fun o1 s1 => zkI (fun y1 => Q (rI 0) (zwL s1 275 0 (zi2l y1))) (fun e1 => (e1 = 0 ∧ Q (rI 1) s1) ∨ (e1 = 1 ∧ Q (rI 2) s1)) o1)) :
    wp S 34 0 [(0, rf 2), (1, iv x1), (2, rf 275)] [] s Q := by
  refine i_aload_n (a := 275) r_34_0 (n_34_0 _) rfl ?_
  refine i_iconst r_34_1 (n_34_1 _) ?_
  refine i_aload_n (a := 2) r_34_2 (n_34_2 _) rfl ?_
  refine i_iload_n (x := x1) r_34_3 (n_34_3 _) rfl ?_
  refine wp_virt (b := 2) (rest := [iv 0, rf 275]) (Ls := [(0, rf 2), (1, iv x1)]) r_34_4 (n_34_4 _) rfl ⟨rfl, rfl, by decide, by decide⟩ rfl rfl lf_2 ⟨rfl, Nat.le_of_ble_eq_true rfl, Nat.le_of_ble_eq_true rfl⟩ rfl h ?_
  intro o1 s1 h
  rcases h with ⟨y1, q2, rfl, h⟩ | ⟨e1, rfl, h⟩
  · refine .inl ⟨some (iv y1), rfl, ?_⟩
    show wp S 34 7 [(0, rf 2), (1, iv x1), (2, rf 275)] [iv y1, iv 0, rf 275] s1 Q
    refine i_i2l r_34_7 (n_34_7 _) ?_
    refine i_lastore (a := 275) (j := 0) r_34_8 (n_34_8 _) lf_275 ⟨by omega, by omega⟩ (by omega) (by omega) ?_
    refine i_goto (t := 18) r_34_9 (n_34_9 _) rfl ?_
    refine i_iconst r_34_18 (n_34_18 _) ?_
    exact i_ireturn r_34_19 (n_34_19 _) rfl h
  · skip
    rcases h with ⟨rfl, h⟩ | ⟨rfl, h⟩
    · refine .inr ⟨_, rfl, .inr ⟨_, _, 12, (13, [(0, rf 2), (1, iv x1), (2, rf 275)]), rfl, rfl, rfl, ?_⟩⟩
      refine i_iconst r_34_13 (n_34_13 _) ?_
      exact i_ireturn r_34_14 (n_34_14 _) rfl h
    · refine .inr ⟨_, rfl, .inr ⟨_, _, 15, (16, [(0, rf 2), (1, iv x1), (2, rf 275)]), rfl, rfl, rfl, ?_⟩⟩
      refine i_iconst r_34_16 (n_34_16 _) ?_
      exact i_ireturn r_34_17 (n_34_17 _) rfl h
theorem v_Law_addField_0 {S : Option (Nat × (Nat → Int32))} {s : zSt} {Q : Option Value ⊕ Nat → zSt → Prop} {x1 : Int} {x2 : Int} {x3 : Int} {x4 : Int} 
    (h : wp S 53 0 [(0, rf 2), (1, iv x1), (2, iv x2), (3, iv x3), (4, iv x4)] [] s (fun o1 s1 => zkI (fun y1 => Q (rI 0) (zwL s1 275 0 (zi2l y1))) (fun e1 => (e1 = 0 ∧ Q (rI 2) s1) ∨ (e1 = 1 ∧ Q (rI 3) s1) ∨ (e1 = 2 ∧ Q (rI 1) s1)) o1)) :
    wp S 52 0 [(0, rf 2), (1, iv x1), (2, iv x2), (3, iv x3), (4, iv x4), (5, rf 275)] [] s Q := by
  refine i_aload (a := 275) r_52_0 (n_52_0 _) rfl ?_
  refine i_iconst r_52_2 (n_52_2 _) ?_
  refine i_aload_n (a := 2) r_52_3 (n_52_3 _) rfl ?_
  refine i_iload_n (x := x1) r_52_4 (n_52_4 _) rfl ?_
  refine i_iload_n (x := x2) r_52_5 (n_52_5 _) rfl ?_
  refine i_iload_n (x := x3) r_52_6 (n_52_6 _) rfl ?_
  refine i_iload (x := x4) r_52_7 (n_52_7 _) rfl ?_
  refine wp_virt (b := 2) (rest := [iv 0, rf 275]) (Ls := [(0, rf 2), (1, iv x1), (2, iv x2), (3, iv x3), (4, iv x4)]) r_52_9 (n_52_9 _) rfl ⟨rfl, rfl, by decide, by decide⟩ rfl rfl lf_2 ⟨rfl, Nat.le_of_ble_eq_true rfl, Nat.le_of_ble_eq_true rfl⟩ rfl h ?_
  intro o1 s1 h
  rcases h with ⟨y1, q2, rfl, h⟩ | ⟨e1, rfl, h⟩
  · refine .inl ⟨some (iv y1), rfl, ?_⟩
    show wp S 52 12 [(0, rf 2), (1, iv x1), (2, iv x2), (3, iv x3), (4, iv x4), (5, rf 275)] [iv y1, iv 0, rf 275] s1 Q
    refine i_i2l r_52_12 (n_52_12 _) ?_
    refine i_lastore (a := 275) (j := 0) r_52_13 (n_52_13 _) lf_275 ⟨by omega, by omega⟩ (by omega) (by omega) ?_
    refine i_goto (t := 29) r_52_14 (n_52_14 _) rfl ?_
    refine i_iconst r_52_29 (n_52_29 _) ?_
    exact i_ireturn r_52_30 (n_52_30 _) rfl h
  · skip
    rcases h with ⟨rfl, h⟩ | ⟨rfl, h⟩ | ⟨rfl, h⟩
    · refine .inr ⟨_, rfl, .inr ⟨_, _, 21, (23, [(0, rf 2), (1, iv x1), (2, iv x2), (3, iv x3), (4, iv x4), (5, rf 275)]), rfl, rfl, rfl, ?_⟩⟩
      refine i_iconst r_52_23 (n_52_23 _) ?_
      exact i_ireturn r_52_24 (n_52_24 _) rfl h
    · refine .inr ⟨_, rfl, .inr ⟨_, _, 25, (27, [(0, rf 2), (1, iv x1), (2, iv x2), (3, iv x3), (4, iv x4), (5, rf 275)]), rfl, rfl, rfl, ?_⟩⟩
      refine i_iconst r_52_27 (n_52_27 _) ?_
      exact i_ireturn r_52_28 (n_52_28 _) rfl h
    · refine .inr ⟨_, rfl, .inr ⟨_, _, 17, (19, [(0, rf 2), (1, iv x1), (2, iv x2), (3, iv x3), (4, iv x4), (5, rf 275)]), rfl, rfl, rfl, ?_⟩⟩
      refine i_iconst r_52_19 (n_52_19 _) ?_
      exact i_ireturn r_52_20 (n_52_20 _) rfl h
theorem v_Law_recordInfo_0 {S : Option (Nat × (Nat → Int32))} {s : zSt} {Q : Option Value ⊕ Nat → zSt → Prop} {x1 : Int} {x2 : Int} 
    (h : wp S 59 0 [(0, rf 2), (1, iv x1), (2, iv x2)] [] s (fun o1 s1 => zkI (fun y1 => Q (rI 0) (zwL s1 275 0 (zi2l y1))) (fun e1 => (e1 = 0 ∧ Q (rI 2) s1) ∨ (e1 = 2 ∧ Q (rI 1) s1)) o1)) :
    wp S 58 0 [(0, rf 2), (1, iv x1), (2, iv x2), (3, rf 275)] [] s Q := by
  refine i_aload_n (a := 275) r_58_0 (n_58_0 _) rfl ?_
  refine i_iconst r_58_1 (n_58_1 _) ?_
  refine i_aload_n (a := 2) r_58_2 (n_58_2 _) rfl ?_
  refine i_iload_n (x := x1) r_58_3 (n_58_3 _) rfl ?_
  refine i_iload_n (x := x2) r_58_4 (n_58_4 _) rfl ?_
  refine wp_virt (b := 2) (rest := [iv 0, rf 275]) (Ls := [(0, rf 2), (1, iv x1), (2, iv x2)]) r_58_5 (n_58_5 _) rfl ⟨rfl, rfl, by decide, by decide⟩ rfl rfl lf_2 ⟨rfl, Nat.le_of_ble_eq_true rfl, Nat.le_of_ble_eq_true rfl⟩ rfl h ?_
  intro o1 s1 h
  rcases h with ⟨y1, q2, rfl, h⟩ | ⟨e1, rfl, h⟩
  · refine .inl ⟨some (iv y1), rfl, ?_⟩
    show wp S 58 8 [(0, rf 2), (1, iv x1), (2, iv x2), (3, rf 275)] [iv y1, iv 0, rf 275] s1 Q
    refine i_i2l r_58_8 (n_58_8 _) ?_
    refine i_lastore (a := 275) (j := 0) r_58_9 (n_58_9 _) lf_275 ⟨by omega, by omega⟩ (by omega) (by omega) ?_
    refine i_goto (t := 21) r_58_10 (n_58_10 _) rfl ?_
    refine i_iconst r_58_21 (n_58_21 _) ?_
    exact i_ireturn r_58_22 (n_58_22 _) rfl h
  · skip
    rcases h with ⟨rfl, h⟩ | ⟨rfl, h⟩
    · refine .inr ⟨_, rfl, .inr ⟨_, _, 17, (19, [(0, rf 2), (1, iv x1), (2, iv x2), (3, rf 275)]), rfl, rfl, rfl, ?_⟩⟩
      refine i_iconst r_58_19 (n_58_19 _) ?_
      exact i_ireturn r_58_20 (n_58_20 _) rfl h
    · refine .inr ⟨_, rfl, .inr ⟨_, _, 13, (15, [(0, rf 2), (1, iv x1), (2, iv x2), (3, rf 275)]), rfl, rfl, rfl, ?_⟩⟩
      refine i_iconst r_58_15 (n_58_15 _) ?_
      exact i_ireturn r_58_16 (n_58_16 _) rfl h
theorem v_Law_fieldInfo_0 {S : Option (Nat × (Nat → Int32))} {s : zSt} {Q : Option Value ⊕ Nat → zSt → Prop} {x1 : Int} {x2 : Int} {x3 : Int} 
    (h : wp S 62 0 [(0, rf 2), (1, iv x1), (2, iv x2), (3, iv x3)] [] s (fun o1 s1 => zkI (fun y1 => Q (rI 0) (zwL s1 275 0 (zi2l y1))) (fun e1 => (e1 = 0 ∧ Q (rI 2) s1) ∨ (e1 = 2 ∧ Q (rI 1) s1)) o1)) :
    wp S 61 0 [(0, rf 2), (1, iv x1), (2, iv x2), (3, iv x3), (4, rf 275)] [] s Q := by
  refine i_aload (a := 275) r_61_0 (n_61_0 _) rfl ?_
  refine i_iconst r_61_2 (n_61_2 _) ?_
  refine i_aload_n (a := 2) r_61_3 (n_61_3 _) rfl ?_
  refine i_iload_n (x := x1) r_61_4 (n_61_4 _) rfl ?_
  refine i_iload_n (x := x2) r_61_5 (n_61_5 _) rfl ?_
  refine i_iload_n (x := x3) r_61_6 (n_61_6 _) rfl ?_
  refine wp_virt (b := 2) (rest := [iv 0, rf 275]) (Ls := [(0, rf 2), (1, iv x1), (2, iv x2), (3, iv x3)]) r_61_7 (n_61_7 _) rfl ⟨rfl, rfl, by decide, by decide⟩ rfl rfl lf_2 ⟨rfl, Nat.le_of_ble_eq_true rfl, Nat.le_of_ble_eq_true rfl⟩ rfl h ?_
  intro o1 s1 h
  rcases h with ⟨y1, q2, rfl, h⟩ | ⟨e1, rfl, h⟩
  · refine .inl ⟨some (iv y1), rfl, ?_⟩
    show wp S 61 10 [(0, rf 2), (1, iv x1), (2, iv x2), (3, iv x3), (4, rf 275)] [iv y1, iv 0, rf 275] s1 Q
    refine i_i2l r_61_10 (n_61_10 _) ?_
    refine i_lastore (a := 275) (j := 0) r_61_11 (n_61_11 _) lf_275 ⟨by omega, by omega⟩ (by omega) (by omega) ?_
    refine i_goto (t := 23) r_61_12 (n_61_12 _) rfl ?_
    refine i_iconst r_61_23 (n_61_23 _) ?_
    exact i_ireturn r_61_24 (n_61_24 _) rfl h
  · skip
    rcases h with ⟨rfl, h⟩ | ⟨rfl, h⟩
    · refine .inr ⟨_, rfl, .inr ⟨_, _, 19, (21, [(0, rf 2), (1, iv x1), (2, iv x2), (3, iv x3), (4, rf 275)]), rfl, rfl, rfl, ?_⟩⟩
      refine i_iconst r_61_21 (n_61_21 _) ?_
      exact i_ireturn r_61_22 (n_61_22 _) rfl h
    · refine .inr ⟨_, rfl, .inr ⟨_, _, 15, (17, [(0, rf 2), (1, iv x1), (2, iv x2), (3, iv x3), (4, rf 275)]), rfl, rfl, rfl, ?_⟩⟩
      refine i_iconst r_61_17 (n_61_17 _) ?_
      exact i_ireturn r_61_18 (n_61_18 _) rfl h
theorem v_Law_leafInfo_0 {S : Option (Nat × (Nat → Int32))} {s : zSt} {Q : Option Value ⊕ Nat → zSt → Prop} {x1 : Int} {x2 : Int} {x3 : Int} 
    (h : wp S 64 0 [(0, rf 2), (1, iv x1), (2, iv x2), (3, iv x3)] [] s (fun o1 s1 => zkI (fun y1 => Q (rI 0) (zwL s1 275 0 (zi2l y1))) (fun e1 => (e1 = 0 ∧ Q (rI 2) s1) ∨ (e1 = 2 ∧ Q (rI 1) s1)) o1)) :
    wp S 63 0 [(0, rf 2), (1, iv x1), (2, iv x2), (3, iv x3), (4, rf 275)] [] s Q := by
  refine i_aload (a := 275) r_63_0 (n_63_0 _) rfl ?_
  refine i_iconst r_63_2 (n_63_2 _) ?_
  refine i_aload_n (a := 2) r_63_3 (n_63_3 _) rfl ?_
  refine i_iload_n (x := x1) r_63_4 (n_63_4 _) rfl ?_
  refine i_iload_n (x := x2) r_63_5 (n_63_5 _) rfl ?_
  refine i_iload_n (x := x3) r_63_6 (n_63_6 _) rfl ?_
  refine wp_virt (b := 2) (rest := [iv 0, rf 275]) (Ls := [(0, rf 2), (1, iv x1), (2, iv x2), (3, iv x3)]) r_63_7 (n_63_7 _) rfl ⟨rfl, rfl, by decide, by decide⟩ rfl rfl lf_2 ⟨rfl, Nat.le_of_ble_eq_true rfl, Nat.le_of_ble_eq_true rfl⟩ rfl h ?_
  intro o1 s1 h
  rcases h with ⟨y1, q2, rfl, h⟩ | ⟨e1, rfl, h⟩
  · refine .inl ⟨some (iv y1), rfl, ?_⟩
    show wp S 63 10 [(0, rf 2), (1, iv x1), (2, iv x2), (3, iv x3), (4, rf 275)] [iv y1, iv 0, rf 275] s1 Q
    refine i_i2l r_63_10 (n_63_10 _) ?_
    refine i_lastore (a := 275) (j := 0) r_63_11 (n_63_11 _) lf_275 ⟨by omega, by omega⟩ (by omega) (by omega) ?_
    refine i_goto (t := 23) r_63_12 (n_63_12 _) rfl ?_
    refine i_iconst r_63_23 (n_63_23 _) ?_
    exact i_ireturn r_63_24 (n_63_24 _) rfl h
  · skip
    rcases h with ⟨rfl, h⟩ | ⟨rfl, h⟩
    · refine .inr ⟨_, rfl, .inr ⟨_, _, 19, (21, [(0, rf 2), (1, iv x1), (2, iv x2), (3, iv x3), (4, rf 275)]), rfl, rfl, rfl, ?_⟩⟩
      refine i_iconst r_63_21 (n_63_21 _) ?_
      exact i_ireturn r_63_22 (n_63_22 _) rfl h
    · refine .inr ⟨_, rfl, .inr ⟨_, _, 15, (17, [(0, rf 2), (1, iv x1), (2, iv x2), (3, iv x3), (4, rf 275)]), rfl, rfl, rfl, ?_⟩⟩
      refine i_iconst r_63_17 (n_63_17 _) ?_
      exact i_ireturn r_63_18 (n_63_18 _) rfl h
theorem v_Law_pathByte_0 {S : Option (Nat × (Nat → Int32))} {s : zSt} {Q : Option Value ⊕ Nat → zSt → Prop} {x1 : Int} {x2 : Int} {x3 : Int} 
    (h : wp S 67 0 [(0, rf 2), (1, iv x1), (2, iv x2), (3, iv x3)] [] s (fun o1 s1 => zkI (fun y1 => Q (rI 0) (zwL s1 275 0 (zi2l y1))) (fun e1 => (e1 = 2 ∧ Q (rI 1) s1)) o1)) :
    wp S 66 0 [(0, rf 2), (1, iv x1), (2, iv x2), (3, iv x3), (4, rf 275)] [] s Q := by
  refine i_aload (a := 275) r_66_0 (n_66_0 _) rfl ?_
  refine i_iconst r_66_2 (n_66_2 _) ?_
  refine i_aload_n (a := 2) r_66_3 (n_66_3 _) rfl ?_
  refine i_iload_n (x := x1) r_66_4 (n_66_4 _) rfl ?_
  refine i_iload_n (x := x2) r_66_5 (n_66_5 _) rfl ?_
  refine i_iload_n (x := x3) r_66_6 (n_66_6 _) rfl ?_
  refine wp_virt (b := 2) (rest := [iv 0, rf 275]) (Ls := [(0, rf 2), (1, iv x1), (2, iv x2), (3, iv x3)]) r_66_7 (n_66_7 _) rfl ⟨rfl, rfl, by decide, by decide⟩ rfl rfl lf_2 ⟨rfl, Nat.le_of_ble_eq_true rfl, Nat.le_of_ble_eq_true rfl⟩ rfl h ?_
  intro o1 s1 h
  rcases h with ⟨y1, q2, rfl, h⟩ | ⟨e1, rfl, h⟩
  · refine .inl ⟨some (iv y1), rfl, ?_⟩
    show wp S 66 10 [(0, rf 2), (1, iv x1), (2, iv x2), (3, iv x3), (4, rf 275)] [iv y1, iv 0, rf 275] s1 Q
    refine i_i2l r_66_10 (n_66_10 _) ?_
    refine i_lastore (a := 275) (j := 0) r_66_11 (n_66_11 _) lf_275 ⟨by omega, by omega⟩ (by omega) (by omega) ?_
    refine i_goto (t := 19) r_66_12 (n_66_12 _) rfl ?_
    refine i_iconst r_66_19 (n_66_19 _) ?_
    exact i_ireturn r_66_20 (n_66_20 _) rfl h
  · skip
    rcases h with ⟨rfl, h⟩
    · refine .inr ⟨_, rfl, .inr ⟨_, _, 15, (17, [(0, rf 2), (1, iv x1), (2, iv x2), (3, iv x3), (4, rf 275)]), rfl, rfl, rfl, ?_⟩⟩
      refine i_iconst r_66_17 (n_66_17 _) ?_
      exact i_ireturn r_66_18 (n_66_18 _) rfl h
theorem v_Law_findLeaf_0 {S : Option (Nat × (Nat → Int32))} {s : zSt} {Q : Option Value ⊕ Nat → zSt → Prop} {x1 : Int} 
    (h : wp S 71 0 [(0, rf 2), (1, iv x1)] [] s (fun o1 s1 => zkI (fun y1 => Q (rI 0) (zwL s1 275 0 (zi2l y1))) (fun e1 => (e1 = 2 ∧ Q (rI 1) s1)) o1)) :
    wp S 70 0 [(0, rf 2), (1, iv x1), (2, rf 275)] [] s Q := by
  refine i_aload_n (a := 275) r_70_0 (n_70_0 _) rfl ?_
  refine i_iconst r_70_1 (n_70_1 _) ?_
  refine i_aload_n (a := 2) r_70_2 (n_70_2 _) rfl ?_
  refine i_iload_n (x := x1) r_70_3 (n_70_3 _) rfl ?_
  refine wp_virt (b := 2) (rest := [iv 0, rf 275]) (Ls := [(0, rf 2), (1, iv x1)]) r_70_4 (n_70_4 _) rfl ⟨rfl, rfl, by decide, by decide⟩ rfl rfl lf_2 ⟨rfl, Nat.le_of_ble_eq_true rfl, Nat.le_of_ble_eq_true rfl⟩ rfl h ?_
  intro o1 s1 h
  rcases h with ⟨y1, q2, rfl, h⟩ | ⟨e1, rfl, h⟩
  · refine .inl ⟨some (iv y1), rfl, ?_⟩
    show wp S 70 7 [(0, rf 2), (1, iv x1), (2, rf 275)] [iv y1, iv 0, rf 275] s1 Q
    refine i_i2l r_70_7 (n_70_7 _) ?_
    refine i_lastore (a := 275) (j := 0) r_70_8 (n_70_8 _) lf_275 ⟨by omega, by omega⟩ (by omega) (by omega) ?_
    refine i_goto (t := 15) r_70_9 (n_70_9 _) rfl ?_
    refine i_iconst r_70_15 (n_70_15 _) ?_
    exact i_ireturn r_70_16 (n_70_16 _) rfl h
  · skip
    rcases h with ⟨rfl, h⟩
    · refine .inr ⟨_, rfl, .inr ⟨_, _, 12, (13, [(0, rf 2), (1, iv x1), (2, rf 275)]), rfl, rfl, rfl, ?_⟩⟩
      refine i_iconst r_70_13 (n_70_13 _) ?_
      exact i_ireturn r_70_14 (n_70_14 _) rfl h
theorem v_Law_bestSize_0 {S : Option (Nat × (Nat → Int32))} {s : zSt} {Q : Option Value ⊕ Nat → zSt → Prop} {x1 : Int} 
    (h : wp S 75 0 [(0, rf 2), (1, iv x1)] [] s (fun o1 s1 => zkI (fun y1 => Q (rI 0) (zwL s1 275 0 (zi2l y1))) (fun e1 => (e1 = 2 ∧ Q (rI 1) s1)) o1)) :
    wp S 74 0 [(0, rf 2), (1, iv x1), (2, rf 275)] [] s Q := by
  refine i_aload_n (a := 275) r_74_0 (n_74_0 _) rfl ?_
  refine i_iconst r_74_1 (n_74_1 _) ?_
  refine i_aload_n (a := 2) r_74_2 (n_74_2 _) rfl ?_
  refine i_iload_n (x := x1) r_74_3 (n_74_3 _) rfl ?_
  refine wp_virt (b := 2) (rest := [iv 0, rf 275]) (Ls := [(0, rf 2), (1, iv x1)]) r_74_4 (n_74_4 _) rfl ⟨rfl, rfl, by decide, by decide⟩ rfl rfl lf_2 ⟨rfl, Nat.le_of_ble_eq_true rfl, Nat.le_of_ble_eq_true rfl⟩ rfl h ?_
  intro o1 s1 h
  rcases h with ⟨y1, q2, rfl, h⟩ | ⟨e1, rfl, h⟩
  · refine .inl ⟨some (iv y1), rfl, ?_⟩
    show wp S 74 7 [(0, rf 2), (1, iv x1), (2, rf 275)] [iv y1, iv 0, rf 275] s1 Q
    refine i_i2l r_74_7 (n_74_7 _) ?_
    refine i_lastore (a := 275) (j := 0) r_74_8 (n_74_8 _) lf_275 ⟨by omega, by omega⟩ (by omega) (by omega) ?_
    refine i_goto (t := 15) r_74_9 (n_74_9 _) rfl ?_
    refine i_iconst r_74_15 (n_74_15 _) ?_
    exact i_ireturn r_74_16 (n_74_16 _) rfl h
  · skip
    rcases h with ⟨rfl, h⟩
    · refine .inr ⟨_, rfl, .inr ⟨_, _, 12, (13, [(0, rf 2), (1, iv x1), (2, rf 275)]), rfl, rfl, rfl, ?_⟩⟩
      refine i_iconst r_74_13 (n_74_13 _) ?_
      exact i_ireturn r_74_14 (n_74_14 _) rfl h
theorem v_Law_bestOrder_0 {S : Option (Nat × (Nat → Int32))} {s : zSt} {Q : Option Value ⊕ Nat → zSt → Prop} {x1 : Int} {x2 : Int} 
    (h : wp S 86 0 [(0, rf 2), (1, iv x1), (2, iv x2)] [] s (fun o1 s1 => zkI (fun y1 => Q (rI 0) (zwL s1 275 0 (zi2l y1))) (fun e1 => (e1 = 2 ∧ Q (rI 1) s1)) o1)) :
    wp S 85 0 [(0, rf 2), (1, iv x1), (2, iv x2), (3, rf 275)] [] s Q := by
  refine i_aload_n (a := 275) r_85_0 (n_85_0 _) rfl ?_
  refine i_iconst r_85_1 (n_85_1 _) ?_
  refine i_aload_n (a := 2) r_85_2 (n_85_2 _) rfl ?_
  refine i_iload_n (x := x1) r_85_3 (n_85_3 _) rfl ?_
  refine i_iload_n (x := x2) r_85_4 (n_85_4 _) rfl ?_
  refine wp_virt (b := 2) (rest := [iv 0, rf 275]) (Ls := [(0, rf 2), (1, iv x1), (2, iv x2)]) r_85_5 (n_85_5 _) rfl ⟨rfl, rfl, by decide, by decide⟩ rfl rfl lf_2 ⟨rfl, Nat.le_of_ble_eq_true rfl, Nat.le_of_ble_eq_true rfl⟩ rfl h ?_
  intro o1 s1 h
  rcases h with ⟨y1, q2, rfl, h⟩ | ⟨e1, rfl, h⟩
  · refine .inl ⟨some (iv y1), rfl, ?_⟩
    show wp S 85 8 [(0, rf 2), (1, iv x1), (2, iv x2), (3, rf 275)] [iv y1, iv 0, rf 275] s1 Q
    refine i_i2l r_85_8 (n_85_8 _) ?_
    refine i_lastore (a := 275) (j := 0) r_85_9 (n_85_9 _) lf_275 ⟨by omega, by omega⟩ (by omega) (by omega) ?_
    refine i_goto (t := 17) r_85_10 (n_85_10 _) rfl ?_
    refine i_iconst r_85_17 (n_85_17 _) ?_
    exact i_ireturn r_85_18 (n_85_18 _) rfl h
  · skip
    rcases h with ⟨rfl, h⟩
    · refine .inr ⟨_, rfl, .inr ⟨_, _, 13, (15, [(0, rf 2), (1, iv x1), (2, iv x2), (3, rf 275)]), rfl, rfl, rfl, ?_⟩⟩
      refine i_iconst r_85_15 (n_85_15 _) ?_
      exact i_ireturn r_85_16 (n_85_16 _) rfl h
theorem v_Law_append_0 {S : Option (Nat × (Nat → Int32))} {s : zSt} {Q : Option Value ⊕ Nat → zSt → Prop} {x1 : Int} 
    (h : wp S 88 0 [(0, rf 2), (1, iv x1)] [] s (fun o1 s1 => zkI (fun y1 => Q (rI 0) (zwL s1 275 0 (zi2l y1))) (fun e1 => (e1 = 0 ∧ Q (rI 1) s1) ∨ (e1 = 1 ∧ Q (rI 2) s1)) o1)) :
    wp S 87 0 [(0, rf 2), (1, iv x1), (2, rf 275)] [] s Q := by
  refine i_aload_n (a := 275) r_87_0 (n_87_0 _) rfl ?_
  refine i_iconst r_87_1 (n_87_1 _) ?_
  refine i_aload_n (a := 2) r_87_2 (n_87_2 _) rfl ?_
  refine i_iload_n (x := x1) r_87_3 (n_87_3 _) rfl ?_
  refine wp_virt (b := 2) (rest := [iv 0, rf 275]) (Ls := [(0, rf 2), (1, iv x1)]) r_87_4 (n_87_4 _) rfl ⟨rfl, rfl, by decide, by decide⟩ rfl rfl lf_2 ⟨rfl, Nat.le_of_ble_eq_true rfl, Nat.le_of_ble_eq_true rfl⟩ rfl h ?_
  intro o1 s1 h
  rcases h with ⟨y1, q2, rfl, h⟩ | ⟨e1, rfl, h⟩
  · refine .inl ⟨some (iv y1), rfl, ?_⟩
    show wp S 87 7 [(0, rf 2), (1, iv x1), (2, rf 275)] [iv y1, iv 0, rf 275] s1 Q
    refine i_i2l r_87_7 (n_87_7 _) ?_
    refine i_lastore (a := 275) (j := 0) r_87_8 (n_87_8 _) lf_275 ⟨by omega, by omega⟩ (by omega) (by omega) ?_
    refine i_goto (t := 18) r_87_9 (n_87_9 _) rfl ?_
    refine i_iconst r_87_18 (n_87_18 _) ?_
    exact i_ireturn r_87_19 (n_87_19 _) rfl h
  · skip
    rcases h with ⟨rfl, h⟩ | ⟨rfl, h⟩
    · refine .inr ⟨_, rfl, .inr ⟨_, _, 12, (13, [(0, rf 2), (1, iv x1), (2, rf 275)]), rfl, rfl, rfl, ?_⟩⟩
      refine i_iconst r_87_13 (n_87_13 _) ?_
      exact i_ireturn r_87_14 (n_87_14 _) rfl h
    · refine .inr ⟨_, rfl, .inr ⟨_, _, 15, (16, [(0, rf 2), (1, iv x1), (2, rf 275)]), rfl, rfl, rfl, ?_⟩⟩
      refine i_iconst r_87_16 (n_87_16 _) ?_
      exact i_ireturn r_87_17 (n_87_17 _) rfl h
theorem v_Law_define_0 {S : Option (Nat × (Nat → Int32))} {s : zSt} {Q : Option Value ⊕ Nat → zSt → Prop} {x1 : Int} 
    (h : wp S 91 0 [(0, rf 2), (1, iv x1)] [] s (fun o1 s1 => zkI (fun y1 => Q (rI 0) (zwL s1 275 0 (zi2l y1))) (fun e1 => (e1 = 0 ∧ Q (rI 1) s1) ∨ (e1 = 1 ∧ Q (rI 2) s1)) o1)) :
    wp S 90 0 [(0, rf 2), (1, iv x1), (2, rf 275)] [] s Q := by
  refine i_aload_n (a := 275) r_90_0 (n_90_0 _) rfl ?_
  refine i_iconst r_90_1 (n_90_1 _) ?_
  refine i_aload_n (a := 2) r_90_2 (n_90_2 _) rfl ?_
  refine i_iload_n (x := x1) r_90_3 (n_90_3 _) rfl ?_
  refine wp_virt (b := 2) (rest := [iv 0, rf 275]) (Ls := [(0, rf 2), (1, iv x1)]) r_90_4 (n_90_4 _) rfl ⟨rfl, rfl, by decide, by decide⟩ rfl rfl lf_2 ⟨rfl, Nat.le_of_ble_eq_true rfl, Nat.le_of_ble_eq_true rfl⟩ rfl h ?_
  intro o1 s1 h
  rcases h with ⟨y1, q2, rfl, h⟩ | ⟨e1, rfl, h⟩
  · refine .inl ⟨some (iv y1), rfl, ?_⟩
    show wp S 90 7 [(0, rf 2), (1, iv x1), (2, rf 275)] [iv y1, iv 0, rf 275] s1 Q
    refine i_i2l r_90_7 (n_90_7 _) ?_
    refine i_lastore (a := 275) (j := 0) r_90_8 (n_90_8 _) lf_275 ⟨by omega, by omega⟩ (by omega) (by omega) ?_
    refine i_goto (t := 18) r_90_9 (n_90_9 _) rfl ?_
    refine i_iconst r_90_18 (n_90_18 _) ?_
    exact i_ireturn r_90_19 (n_90_19 _) rfl h
  · skip
    rcases h with ⟨rfl, h⟩ | ⟨rfl, h⟩
    · refine .inr ⟨_, rfl, .inr ⟨_, _, 12, (13, [(0, rf 2), (1, iv x1), (2, rf 275)]), rfl, rfl, rfl, ?_⟩⟩
      refine i_iconst r_90_13 (n_90_13 _) ?_
      exact i_ireturn r_90_14 (n_90_14 _) rfl h
    · refine .inr ⟨_, rfl, .inr ⟨_, _, 15, (16, [(0, rf 2), (1, iv x1), (2, rf 275)]), rfl, rfl, rfl, ?_⟩⟩
      refine i_iconst r_90_16 (n_90_16 _) ?_
      exact i_ireturn r_90_17 (n_90_17 _) rfl h
theorem v_Law_newTable_0 {S : Option (Nat × (Nat → Int32))} {s : zSt} {Q : Option Value ⊕ Nat → zSt → Prop} {x1 : Int} {x2 : Int} {x3 : Int} {x4 : Int} 
    (h : wp S 102 0 [(0, rf 2), (1, iv x1), (2, iv x2), (3, iv x3), (4, iv x4)] [] s (fun o1 s1 => zkI (fun y1 => Q (rI 0) (zwL s1 275 0 (zi2l y1))) (fun e1 => (e1 = 0 ∧ Q (rI 2) s1) ∨ (e1 = 1 ∧ Q (rI 3) s1) ∨ (e1 = 2 ∧ Q (rI 1) s1)) o1)) :
    wp S 101 0 [(0, rf 2), (1, iv x1), (2, iv x2), (3, iv x3), (4, iv x4), (5, rf 275)] [] s Q := by
  refine i_aload (a := 275) r_101_0 (n_101_0 _) rfl ?_
  refine i_iconst r_101_2 (n_101_2 _) ?_
  refine i_aload_n (a := 2) r_101_3 (n_101_3 _) rfl ?_
  refine i_iload_n (x := x1) r_101_4 (n_101_4 _) rfl ?_
  refine i_iload_n (x := x2) r_101_5 (n_101_5 _) rfl ?_
  refine i_iload_n (x := x3) r_101_6 (n_101_6 _) rfl ?_
  refine i_iload (x := x4) r_101_7 (n_101_7 _) rfl ?_
  refine wp_virt (b := 2) (rest := [iv 0, rf 275]) (Ls := [(0, rf 2), (1, iv x1), (2, iv x2), (3, iv x3), (4, iv x4)]) r_101_9 (n_101_9 _) rfl ⟨rfl, rfl, by decide, by decide⟩ rfl rfl lf_2 ⟨rfl, Nat.le_of_ble_eq_true rfl, Nat.le_of_ble_eq_true rfl⟩ rfl h ?_
  intro o1 s1 h
  rcases h with ⟨y1, q2, rfl, h⟩ | ⟨e1, rfl, h⟩
  · refine .inl ⟨some (iv y1), rfl, ?_⟩
    show wp S 101 12 [(0, rf 2), (1, iv x1), (2, iv x2), (3, iv x3), (4, iv x4), (5, rf 275)] [iv y1, iv 0, rf 275] s1 Q
    refine i_i2l r_101_12 (n_101_12 _) ?_
    refine i_lastore (a := 275) (j := 0) r_101_13 (n_101_13 _) lf_275 ⟨by omega, by omega⟩ (by omega) (by omega) ?_
    refine i_goto (t := 29) r_101_14 (n_101_14 _) rfl ?_
    refine i_iconst r_101_29 (n_101_29 _) ?_
    exact i_ireturn r_101_30 (n_101_30 _) rfl h
  · skip
    rcases h with ⟨rfl, h⟩ | ⟨rfl, h⟩ | ⟨rfl, h⟩
    · refine .inr ⟨_, rfl, .inr ⟨_, _, 21, (23, [(0, rf 2), (1, iv x1), (2, iv x2), (3, iv x3), (4, iv x4), (5, rf 275)]), rfl, rfl, rfl, ?_⟩⟩
      refine i_iconst r_101_23 (n_101_23 _) ?_
      exact i_ireturn r_101_24 (n_101_24 _) rfl h
    · refine .inr ⟨_, rfl, .inr ⟨_, _, 25, (27, [(0, rf 2), (1, iv x1), (2, iv x2), (3, iv x3), (4, iv x4), (5, rf 275)]), rfl, rfl, rfl, ?_⟩⟩
      refine i_iconst r_101_27 (n_101_27 _) ?_
      exact i_ireturn r_101_28 (n_101_28 _) rfl h
    · refine .inr ⟨_, rfl, .inr ⟨_, _, 17, (19, [(0, rf 2), (1, iv x1), (2, iv x2), (3, iv x3), (4, iv x4), (5, rf 275)]), rfl, rfl, rfl, ?_⟩⟩
      refine i_iconst r_101_19 (n_101_19 _) ?_
      exact i_ireturn r_101_20 (n_101_20 _) rfl h
theorem v_Law_removeTable_0 {S : Option (Nat × (Nat → Int32))} {s : zSt} {Q : Option Value ⊕ Nat → zSt → Prop} {x1 : Int} 
    (h : wp S 111 0 [(0, rf 2), (1, iv x1)] [] s (fun o1 s1 => zkI (fun y1 => Q (rI 0) (zwL s1 275 0 (zi2l y1))) (fun e1 => (e1 = 2 ∧ Q (rI 1) s1)) o1)) :
    wp S 110 0 [(0, rf 2), (1, iv x1), (2, rf 275)] [] s Q := by
  refine i_aload_n (a := 275) r_110_0 (n_110_0 _) rfl ?_
  refine i_iconst r_110_1 (n_110_1 _) ?_
  refine i_aload_n (a := 2) r_110_2 (n_110_2 _) rfl ?_
  refine i_iload_n (x := x1) r_110_3 (n_110_3 _) rfl ?_
  refine wp_virt (b := 2) (rest := [iv 0, rf 275]) (Ls := [(0, rf 2), (1, iv x1)]) r_110_4 (n_110_4 _) rfl ⟨rfl, rfl, by decide, by decide⟩ rfl rfl lf_2 ⟨rfl, Nat.le_of_ble_eq_true rfl, Nat.le_of_ble_eq_true rfl⟩ rfl h ?_
  intro o1 s1 h
  rcases h with ⟨y1, q2, rfl, h⟩ | ⟨e1, rfl, h⟩
  · refine .inl ⟨some (iv y1), rfl, ?_⟩
    show wp S 110 7 [(0, rf 2), (1, iv x1), (2, rf 275)] [iv y1, iv 0, rf 275] s1 Q
    refine i_i2l r_110_7 (n_110_7 _) ?_
    refine i_lastore (a := 275) (j := 0) r_110_8 (n_110_8 _) lf_275 ⟨by omega, by omega⟩ (by omega) (by omega) ?_
    refine i_goto (t := 15) r_110_9 (n_110_9 _) rfl ?_
    refine i_iconst r_110_15 (n_110_15 _) ?_
    exact i_ireturn r_110_16 (n_110_16 _) rfl h
  · skip
    rcases h with ⟨rfl, h⟩
    · refine .inr ⟨_, rfl, .inr ⟨_, _, 12, (13, [(0, rf 2), (1, iv x1), (2, rf 275)]), rfl, rfl, rfl, ?_⟩⟩
      refine i_iconst r_110_13 (n_110_13 _) ?_
      exact i_ireturn r_110_14 (n_110_14 _) rfl h
theorem v_Law_tableInfo_0 {S : Option (Nat × (Nat → Int32))} {s : zSt} {Q : Option Value ⊕ Nat → zSt → Prop} {x1 : Int} {x2 : Int} 
    (h : wp S 114 0 [(0, rf 2), (1, iv x1), (2, iv x2)] [] s (fun o1 s1 => zkI (fun y1 => Q (rI 0) (zwL s1 275 0 (zi2l y1))) (fun e1 => (e1 = 0 ∧ Q (rI 2) s1) ∨ (e1 = 2 ∧ Q (rI 1) s1)) o1)) :
    wp S 113 0 [(0, rf 2), (1, iv x1), (2, iv x2), (3, rf 275)] [] s Q := by
  refine i_aload_n (a := 275) r_113_0 (n_113_0 _) rfl ?_
  refine i_iconst r_113_1 (n_113_1 _) ?_
  refine i_aload_n (a := 2) r_113_2 (n_113_2 _) rfl ?_
  refine i_iload_n (x := x1) r_113_3 (n_113_3 _) rfl ?_
  refine i_iload_n (x := x2) r_113_4 (n_113_4 _) rfl ?_
  refine wp_virt (b := 2) (rest := [iv 0, rf 275]) (Ls := [(0, rf 2), (1, iv x1), (2, iv x2)]) r_113_5 (n_113_5 _) rfl ⟨rfl, rfl, by decide, by decide⟩ rfl rfl lf_2 ⟨rfl, Nat.le_of_ble_eq_true rfl, Nat.le_of_ble_eq_true rfl⟩ rfl h ?_
  intro o1 s1 h
  rcases h with ⟨y1, q2, rfl, h⟩ | ⟨e1, rfl, h⟩
  · refine .inl ⟨some (iv y1), rfl, ?_⟩
    show wp S 113 8 [(0, rf 2), (1, iv x1), (2, iv x2), (3, rf 275)] [iv y1, iv 0, rf 275] s1 Q
    refine i_i2l r_113_8 (n_113_8 _) ?_
    refine i_lastore (a := 275) (j := 0) r_113_9 (n_113_9 _) lf_275 ⟨by omega, by omega⟩ (by omega) (by omega) ?_
    refine i_goto (t := 21) r_113_10 (n_113_10 _) rfl ?_
    refine i_iconst r_113_21 (n_113_21 _) ?_
    exact i_ireturn r_113_22 (n_113_22 _) rfl h
  · skip
    rcases h with ⟨rfl, h⟩ | ⟨rfl, h⟩
    · refine .inr ⟨_, rfl, .inr ⟨_, _, 17, (19, [(0, rf 2), (1, iv x1), (2, iv x2), (3, rf 275)]), rfl, rfl, rfl, ?_⟩⟩
      refine i_iconst r_113_19 (n_113_19 _) ?_
      exact i_ireturn r_113_20 (n_113_20 _) rfl h
    · refine .inr ⟨_, rfl, .inr ⟨_, _, 13, (15, [(0, rf 2), (1, iv x1), (2, iv x2), (3, rf 275)]), rfl, rfl, rfl, ?_⟩⟩
      refine i_iconst r_113_15 (n_113_15 _) ?_
      exact i_ireturn r_113_16 (n_113_16 _) rfl h
theorem v_Law_address_0 {S : Option (Nat × (Nat → Int32))} {s : zSt} {Q : Option Value ⊕ Nat → zSt → Prop} {x1 : Int} {x2 : Int} {x3 : Int} 
    (h : wp S 116 0 [(0, rf 2), (1, iv x1), (2, iv x2), (3, iv x3)] [] s (fun o1 s1 => zkI (fun y1 => Q (rI 0) (zwL s1 275 0 (zi2l y1))) (fun e1 => (e1 = 2 ∧ Q (rI 1) s1)) o1)) :
    wp S 115 0 [(0, rf 2), (1, iv x1), (2, iv x2), (3, iv x3), (4, rf 275)] [] s Q := by
  refine i_aload (a := 275) r_115_0 (n_115_0 _) rfl ?_
  refine i_iconst r_115_2 (n_115_2 _) ?_
  refine i_aload_n (a := 2) r_115_3 (n_115_3 _) rfl ?_
  refine i_iload_n (x := x1) r_115_4 (n_115_4 _) rfl ?_
  refine i_iload_n (x := x2) r_115_5 (n_115_5 _) rfl ?_
  refine i_iload_n (x := x3) r_115_6 (n_115_6 _) rfl ?_
  refine wp_virt (b := 2) (rest := [iv 0, rf 275]) (Ls := [(0, rf 2), (1, iv x1), (2, iv x2), (3, iv x3)]) r_115_7 (n_115_7 _) rfl ⟨rfl, rfl, by decide, by decide⟩ rfl rfl lf_2 ⟨rfl, Nat.le_of_ble_eq_true rfl, Nat.le_of_ble_eq_true rfl⟩ rfl h ?_
  intro o1 s1 h
  rcases h with ⟨y1, q2, rfl, h⟩ | ⟨e1, rfl, h⟩
  · refine .inl ⟨some (iv y1), rfl, ?_⟩
    show wp S 115 10 [(0, rf 2), (1, iv x1), (2, iv x2), (3, iv x3), (4, rf 275)] [iv y1, iv 0, rf 275] s1 Q
    refine i_i2l r_115_10 (n_115_10 _) ?_
    refine i_lastore (a := 275) (j := 0) r_115_11 (n_115_11 _) lf_275 ⟨by omega, by omega⟩ (by omega) (by omega) ?_
    refine i_goto (t := 19) r_115_12 (n_115_12 _) rfl ?_
    refine i_iconst r_115_19 (n_115_19 _) ?_
    exact i_ireturn r_115_20 (n_115_20 _) rfl h
  · skip
    rcases h with ⟨rfl, h⟩
    · refine .inr ⟨_, rfl, .inr ⟨_, _, 15, (17, [(0, rf 2), (1, iv x1), (2, iv x2), (3, iv x3), (4, rf 275)]), rfl, rfl, rfl, ?_⟩⟩
      refine i_iconst r_115_17 (n_115_17 _) ?_
      exact i_ireturn r_115_18 (n_115_18 _) rfl h
theorem v_Law_get_0 {S : Option (Nat × (Nat → Int32))} {s : zSt} {Q : Option Value ⊕ Nat → zSt → Prop} {x1 : Int} {x2 : Int} {x3 : Int} 
    (h : wp S 125 0 [(0, rf 2), (1, iv x1), (2, iv x2), (3, iv x3)] [] s (fun o1 s1 => zkL (fun y1 => Q (rI 0) (zwL s1 275 0 y1)) (fun e1 => (e1 = 2 ∧ Q (rI 1) s1)) o1)) :
    wp S 124 0 [(0, rf 2), (1, iv x1), (2, iv x2), (3, iv x3), (4, rf 275)] [] s Q := by
  refine i_aload (a := 275) r_124_0 (n_124_0 _) rfl ?_
  refine i_iconst r_124_2 (n_124_2 _) ?_
  refine i_aload_n (a := 2) r_124_3 (n_124_3 _) rfl ?_
  refine i_iload_n (x := x1) r_124_4 (n_124_4 _) rfl ?_
  refine i_iload_n (x := x2) r_124_5 (n_124_5 _) rfl ?_
  refine i_iload_n (x := x3) r_124_6 (n_124_6 _) rfl ?_
  refine wp_virt (b := 2) (rest := [iv 0, rf 275]) (Ls := [(0, rf 2), (1, iv x1), (2, iv x2), (3, iv x3)]) r_124_7 (n_124_7 _) rfl ⟨rfl, rfl, by decide, by decide⟩ rfl rfl lf_2 ⟨rfl, Nat.le_of_ble_eq_true rfl, Nat.le_of_ble_eq_true rfl⟩ rfl h ?_
  intro o1 s1 h
  rcases h with ⟨y1, rfl, h⟩ | ⟨e1, rfl, h⟩
  · refine .inl ⟨some (.long y1), rfl, ?_⟩
    show wp S 124 10 [(0, rf 2), (1, iv x1), (2, iv x2), (3, iv x3), (4, rf 275)] [.long y1, iv 0, rf 275] s1 Q
    refine i_lastore (a := 275) (j := 0) r_124_10 (n_124_10 _) lf_275 ⟨by omega, by omega⟩ (by omega) (by omega) ?_
    refine i_goto (t := 18) r_124_11 (n_124_11 _) rfl ?_
    refine i_iconst r_124_18 (n_124_18 _) ?_
    exact i_ireturn r_124_19 (n_124_19 _) rfl h
  · skip
    rcases h with ⟨rfl, h⟩
    · refine .inr ⟨_, rfl, .inr ⟨_, _, 14, (16, [(0, rf 2), (1, iv x1), (2, iv x2), (3, iv x3), (4, rf 275)]), rfl, rfl, rfl, ?_⟩⟩
      refine i_iconst r_124_16 (n_124_16 _) ?_
      exact i_ireturn r_124_17 (n_124_17 _) rfl h
theorem v_Law_set_0 {S : Option (Nat × (Nat → Int32))} {s : zSt} {Q : Option Value ⊕ Nat → zSt → Prop} {x1 : Int} {x2 : Int} {x3 : Int} {u4 : Int64} 
    (h : wp S 130 0 [(0, rf 2), (1, iv x1), (2, iv x2), (3, iv x3), (4, .long u4)] [] s (fun o1 s1 => zkL (fun y1 => Q (rI 0) (zwL s1 275 0 y1)) (fun e1 => (e1 = 2 ∧ Q (rI 1) s1)) o1)) :
    wp S 129 0 [(0, rf 2), (1, iv x1), (2, iv x2), (3, iv x3), (4, .long u4), (6, rf 275)] [] s Q := by
  refine i_aload (a := 275) r_129_0 (n_129_0 _) rfl ?_
  refine i_iconst r_129_2 (n_129_2 _) ?_
  refine i_aload_n (a := 2) r_129_3 (n_129_3 _) rfl ?_
  refine i_iload_n (x := x1) r_129_4 (n_129_4 _) rfl ?_
  refine i_iload_n (x := x2) r_129_5 (n_129_5 _) rfl ?_
  refine i_iload_n (x := x3) r_129_6 (n_129_6 _) rfl ?_
  refine i_lload (u := u4) r_129_7 (n_129_7 _) rfl ?_
  refine wp_virt (b := 2) (rest := [iv 0, rf 275]) (Ls := [(0, rf 2), (1, iv x1), (2, iv x2), (3, iv x3), (4, .long u4)]) r_129_9 (n_129_9 _) rfl ⟨rfl, rfl, by decide, by decide⟩ rfl rfl lf_2 ⟨rfl, Nat.le_of_ble_eq_true rfl, Nat.le_of_ble_eq_true rfl⟩ rfl h ?_
  intro o1 s1 h
  rcases h with ⟨y1, rfl, h⟩ | ⟨e1, rfl, h⟩
  · refine .inl ⟨some (.long y1), rfl, ?_⟩
    show wp S 129 12 [(0, rf 2), (1, iv x1), (2, iv x2), (3, iv x3), (4, .long u4), (6, rf 275)] [.long y1, iv 0, rf 275] s1 Q
    refine i_lastore (a := 275) (j := 0) r_129_12 (n_129_12 _) lf_275 ⟨by omega, by omega⟩ (by omega) (by omega) ?_
    refine i_goto (t := 20) r_129_13 (n_129_13 _) rfl ?_
    refine i_iconst r_129_20 (n_129_20 _) ?_
    exact i_ireturn r_129_21 (n_129_21 _) rfl h
  · skip
    rcases h with ⟨rfl, h⟩
    · refine .inr ⟨_, rfl, .inr ⟨_, _, 16, (18, [(0, rf 2), (1, iv x1), (2, iv x2), (3, iv x3), (4, .long u4), (6, rf 275)]), rfl, rfl, rfl, ?_⟩⟩
      refine i_iconst r_129_18 (n_129_18 _) ?_
      exact i_ireturn r_129_19 (n_129_19 _) rfl h
theorem v_Law_memory_0 {S : Option (Nat × (Nat → Int32))} {s : zSt} {Q : Option Value ⊕ Nat → zSt → Prop} {x1 : Int} 
    (h : wp S 134 0 [(0, rf 2), (1, iv x1)] [] s (fun o1 s1 => zkI (fun y1 => Q (rI 0) (zwL s1 275 0 (zi2l y1))) (fun e1 => (e1 = 2 ∧ Q (rI 1) s1)) o1)) :
    wp S 133 0 [(0, rf 2), (1, iv x1), (2, rf 275)] [] s Q := by
  refine i_aload_n (a := 275) r_133_0 (n_133_0 _) rfl ?_
  refine i_iconst r_133_1 (n_133_1 _) ?_
  refine i_aload_n (a := 2) r_133_2 (n_133_2 _) rfl ?_
  refine i_iload_n (x := x1) r_133_3 (n_133_3 _) rfl ?_
  refine wp_virt (b := 2) (rest := [iv 0, rf 275]) (Ls := [(0, rf 2), (1, iv x1)]) r_133_4 (n_133_4 _) rfl ⟨rfl, rfl, by decide, by decide⟩ rfl rfl lf_2 ⟨rfl, Nat.le_of_ble_eq_true rfl, Nat.le_of_ble_eq_true rfl⟩ rfl h ?_
  intro o1 s1 h
  rcases h with ⟨y1, q2, rfl, h⟩ | ⟨e1, rfl, h⟩
  · refine .inl ⟨some (iv y1), rfl, ?_⟩
    show wp S 133 7 [(0, rf 2), (1, iv x1), (2, rf 275)] [iv y1, iv 0, rf 275] s1 Q
    refine i_i2l r_133_7 (n_133_7 _) ?_
    refine i_lastore (a := 275) (j := 0) r_133_8 (n_133_8 _) lf_275 ⟨by omega, by omega⟩ (by omega) (by omega) ?_
    refine i_goto (t := 15) r_133_9 (n_133_9 _) rfl ?_
    refine i_iconst r_133_15 (n_133_15 _) ?_
    exact i_ireturn r_133_16 (n_133_16 _) rfl h
  · skip
    rcases h with ⟨rfl, h⟩
    · refine .inr ⟨_, rfl, .inr ⟨_, _, 12, (13, [(0, rf 2), (1, iv x1), (2, rf 275)]), rfl, rfl, rfl, ?_⟩⟩
      refine i_iconst r_133_13 (n_133_13 _) ?_
      exact i_ireturn r_133_14 (n_133_14 _) rfl h
theorem v_Law_poke_0 {S : Option (Nat × (Nat → Int32))} {s : zSt} {Q : Option Value ⊕ Nat → zSt → Prop} {x1 : Int} {x2 : Int} 
    (h : wp S 137 0 [(0, rf 2), (1, iv x1), (2, iv x2)] [] s (fun o1 s1 => zkI (fun y1 => Q (rI 0) (zwL s1 275 0 (zi2l y1))) (fun e1 => (e1 = 0 ∧ Q (rI 2) s1) ∨ (e1 = 2 ∧ Q (rI 1) s1)) o1)) :
    wp S 136 0 [(0, rf 2), (1, iv x1), (2, iv x2), (3, rf 275)] [] s Q := by
  refine i_aload_n (a := 275) r_136_0 (n_136_0 _) rfl ?_
  refine i_iconst r_136_1 (n_136_1 _) ?_
  refine i_aload_n (a := 2) r_136_2 (n_136_2 _) rfl ?_
  refine i_iload_n (x := x1) r_136_3 (n_136_3 _) rfl ?_
  refine i_iload_n (x := x2) r_136_4 (n_136_4 _) rfl ?_
  refine wp_virt (b := 2) (rest := [iv 0, rf 275]) (Ls := [(0, rf 2), (1, iv x1), (2, iv x2)]) r_136_5 (n_136_5 _) rfl ⟨rfl, rfl, by decide, by decide⟩ rfl rfl lf_2 ⟨rfl, Nat.le_of_ble_eq_true rfl, Nat.le_of_ble_eq_true rfl⟩ rfl h ?_
  intro o1 s1 h
  rcases h with ⟨y1, q2, rfl, h⟩ | ⟨e1, rfl, h⟩
  · refine .inl ⟨some (iv y1), rfl, ?_⟩
    show wp S 136 8 [(0, rf 2), (1, iv x1), (2, iv x2), (3, rf 275)] [iv y1, iv 0, rf 275] s1 Q
    refine i_i2l r_136_8 (n_136_8 _) ?_
    refine i_lastore (a := 275) (j := 0) r_136_9 (n_136_9 _) lf_275 ⟨by omega, by omega⟩ (by omega) (by omega) ?_
    refine i_goto (t := 21) r_136_10 (n_136_10 _) rfl ?_
    refine i_iconst r_136_21 (n_136_21 _) ?_
    exact i_ireturn r_136_22 (n_136_22 _) rfl h
  · skip
    rcases h with ⟨rfl, h⟩ | ⟨rfl, h⟩
    · refine .inr ⟨_, rfl, .inr ⟨_, _, 17, (19, [(0, rf 2), (1, iv x1), (2, iv x2), (3, rf 275)]), rfl, rfl, rfl, ?_⟩⟩
      refine i_iconst r_136_19 (n_136_19 _) ?_
      exact i_ireturn r_136_20 (n_136_20 _) rfl h
    · refine .inr ⟨_, rfl, .inr ⟨_, _, 13, (15, [(0, rf 2), (1, iv x1), (2, iv x2), (3, rf 275)]), rfl, rfl, rfl, ?_⟩⟩
      refine i_iconst r_136_15 (n_136_15 _) ?_
      exact i_ireturn r_136_16 (n_136_16 _) rfl h
theorem v_Law_convert_0 {S : Option (Nat × (Nat → Int32))} {s : zSt} {Q : Option Value ⊕ Nat → zSt → Prop} {x1 : Int} {x2 : Int} {x3 : Int} 
    (h : wp S 139 0 [(0, rf 2), (1, iv x1), (2, iv x2), (3, iv x3)] [] s (fun o1 s1 => zkI (fun y1 => Q (rI 0) (zwL s1 275 0 (zi2l y1))) (fun e1 => (e1 = 0 ∧ Q (rI 2) s1) ∨ (e1 = 1 ∧ Q (rI 3) s1) ∨ (e1 = 2 ∧ Q (rI 1) s1)) o1)) :
    wp S 138 0 [(0, rf 2), (1, iv x1), (2, iv x2), (3, iv x3), (4, rf 275)] [] s Q := by
  refine i_aload (a := 275) r_138_0 (n_138_0 _) rfl ?_
  refine i_iconst r_138_2 (n_138_2 _) ?_
  refine i_aload_n (a := 2) r_138_3 (n_138_3 _) rfl ?_
  refine i_iload_n (x := x1) r_138_4 (n_138_4 _) rfl ?_
  refine i_iload_n (x := x2) r_138_5 (n_138_5 _) rfl ?_
  refine i_iload_n (x := x3) r_138_6 (n_138_6 _) rfl ?_
  refine wp_virt (b := 2) (rest := [iv 0, rf 275]) (Ls := [(0, rf 2), (1, iv x1), (2, iv x2), (3, iv x3)]) r_138_7 (n_138_7 _) rfl ⟨rfl, rfl, by decide, by decide⟩ rfl rfl lf_2 ⟨rfl, Nat.le_of_ble_eq_true rfl, Nat.le_of_ble_eq_true rfl⟩ rfl h ?_
  intro o1 s1 h
  rcases h with ⟨y1, q2, rfl, h⟩ | ⟨e1, rfl, h⟩
  · refine .inl ⟨some (iv y1), rfl, ?_⟩
    show wp S 138 10 [(0, rf 2), (1, iv x1), (2, iv x2), (3, iv x3), (4, rf 275)] [iv y1, iv 0, rf 275] s1 Q
    refine i_i2l r_138_10 (n_138_10 _) ?_
    refine i_lastore (a := 275) (j := 0) r_138_11 (n_138_11 _) lf_275 ⟨by omega, by omega⟩ (by omega) (by omega) ?_
    refine i_goto (t := 27) r_138_12 (n_138_12 _) rfl ?_
    refine i_iconst r_138_27 (n_138_27 _) ?_
    exact i_ireturn r_138_28 (n_138_28 _) rfl h
  · skip
    rcases h with ⟨rfl, h⟩ | ⟨rfl, h⟩ | ⟨rfl, h⟩
    · refine .inr ⟨_, rfl, .inr ⟨_, _, 19, (21, [(0, rf 2), (1, iv x1), (2, iv x2), (3, iv x3), (4, rf 275)]), rfl, rfl, rfl, ?_⟩⟩
      refine i_iconst r_138_21 (n_138_21 _) ?_
      exact i_ireturn r_138_22 (n_138_22 _) rfl h
    · refine .inr ⟨_, rfl, .inr ⟨_, _, 23, (25, [(0, rf 2), (1, iv x1), (2, iv x2), (3, iv x3), (4, rf 275)]), rfl, rfl, rfl, ?_⟩⟩
      refine i_iconst r_138_25 (n_138_25 _) ?_
      exact i_ireturn r_138_26 (n_138_26 _) rfl h
    · refine .inr ⟨_, rfl, .inr ⟨_, _, 15, (17, [(0, rf 2), (1, iv x1), (2, iv x2), (3, iv x3), (4, rf 275)]), rfl, rfl, rfl, ?_⟩⟩
      refine i_iconst r_138_17 (n_138_17 _) ?_
      exact i_ireturn r_138_18 (n_138_18 _) rfl h
theorem v_Law_migrate_0 {S : Option (Nat × (Nat → Int32))} {s : zSt} {Q : Option Value ⊕ Nat → zSt → Prop} {x1 : Int} {x2 : Int} {x3 : Int} 
    (h : wp S 144 0 [(0, rf 2), (1, iv x1), (2, iv x2), (3, iv x3)] [] s (fun o1 s1 => zkI (fun y1 => Q (rI 0) (zwL s1 275 0 (zi2l y1))) (fun e1 => (e1 = 0 ∧ Q (rI 2) s1) ∨ (e1 = 1 ∧ Q (rI 3) s1) ∨ (e1 = 2 ∧ Q (rI 1) s1)) o1)) :
    wp S 143 0 [(0, rf 2), (1, iv x1), (2, iv x2), (3, iv x3), (4, rf 275)] [] s Q := by
  refine i_aload (a := 275) r_143_0 (n_143_0 _) rfl ?_
  refine i_iconst r_143_2 (n_143_2 _) ?_
  refine i_aload_n (a := 2) r_143_3 (n_143_3 _) rfl ?_
  refine i_iload_n (x := x1) r_143_4 (n_143_4 _) rfl ?_
  refine i_iload_n (x := x2) r_143_5 (n_143_5 _) rfl ?_
  refine i_iload_n (x := x3) r_143_6 (n_143_6 _) rfl ?_
  refine wp_virt (b := 2) (rest := [iv 0, rf 275]) (Ls := [(0, rf 2), (1, iv x1), (2, iv x2), (3, iv x3)]) r_143_7 (n_143_7 _) rfl ⟨rfl, rfl, by decide, by decide⟩ rfl rfl lf_2 ⟨rfl, Nat.le_of_ble_eq_true rfl, Nat.le_of_ble_eq_true rfl⟩ rfl h ?_
  intro o1 s1 h
  rcases h with ⟨y1, q2, rfl, h⟩ | ⟨e1, rfl, h⟩
  · refine .inl ⟨some (iv y1), rfl, ?_⟩
    show wp S 143 10 [(0, rf 2), (1, iv x1), (2, iv x2), (3, iv x3), (4, rf 275)] [iv y1, iv 0, rf 275] s1 Q
    refine i_i2l r_143_10 (n_143_10 _) ?_
    refine i_lastore (a := 275) (j := 0) r_143_11 (n_143_11 _) lf_275 ⟨by omega, by omega⟩ (by omega) (by omega) ?_
    refine i_goto (t := 27) r_143_12 (n_143_12 _) rfl ?_
    refine i_iconst r_143_27 (n_143_27 _) ?_
    exact i_ireturn r_143_28 (n_143_28 _) rfl h
  · skip
    rcases h with ⟨rfl, h⟩ | ⟨rfl, h⟩ | ⟨rfl, h⟩
    · refine .inr ⟨_, rfl, .inr ⟨_, _, 19, (21, [(0, rf 2), (1, iv x1), (2, iv x2), (3, iv x3), (4, rf 275)]), rfl, rfl, rfl, ?_⟩⟩
      refine i_iconst r_143_21 (n_143_21 _) ?_
      exact i_ireturn r_143_22 (n_143_22 _) rfl h
    · refine .inr ⟨_, rfl, .inr ⟨_, _, 23, (25, [(0, rf 2), (1, iv x1), (2, iv x2), (3, iv x3), (4, rf 275)]), rfl, rfl, rfl, ?_⟩⟩
      refine i_iconst r_143_25 (n_143_25 _) ?_
      exact i_ireturn r_143_26 (n_143_26 _) rfl h
    · refine .inr ⟨_, rfl, .inr ⟨_, _, 15, (17, [(0, rf 2), (1, iv x1), (2, iv x2), (3, iv x3), (4, rf 275)]), rfl, rfl, rfl, ?_⟩⟩
      refine i_iconst r_143_17 (n_143_17 _) ?_
      exact i_ireturn r_143_18 (n_143_18 _) rfl h
theorem v_Law_sort_0 {S : Option (Nat × (Nat → Int32))} {s : zSt} {Q : Option Value ⊕ Nat → zSt → Prop} {x1 : Int} {x2 : Int} {x3 : Int} 
    (h : wp S 146 0 [(0, rf 2), (1, iv x1), (2, iv x2), (3, iv x3)] [] s (fun o1 s1 => zkI (fun y1 => Q (rI 0) (zwL s1 275 0 (zi2l y1))) (fun e1 => (e1 = 2 ∧ Q (rI 1) s1)) o1)) :
    wp S 145 0 [(0, rf 2), (1, iv x1), (2, iv x2), (3, iv x3), (4, rf 275)] [] s Q := by
  refine i_aload (a := 275) r_145_0 (n_145_0 _) rfl ?_
  refine i_iconst r_145_2 (n_145_2 _) ?_
  refine i_aload_n (a := 2) r_145_3 (n_145_3 _) rfl ?_
  refine i_iload_n (x := x1) r_145_4 (n_145_4 _) rfl ?_
  refine i_iload_n (x := x2) r_145_5 (n_145_5 _) rfl ?_
  refine i_iload_n (x := x3) r_145_6 (n_145_6 _) rfl ?_
  refine wp_virt (b := 2) (rest := [iv 0, rf 275]) (Ls := [(0, rf 2), (1, iv x1), (2, iv x2), (3, iv x3)]) r_145_7 (n_145_7 _) rfl ⟨rfl, rfl, by decide, by decide⟩ rfl rfl lf_2 ⟨rfl, Nat.le_of_ble_eq_true rfl, Nat.le_of_ble_eq_true rfl⟩ rfl h ?_
  intro o1 s1 h
  rcases h with ⟨y1, q2, rfl, h⟩ | ⟨e1, rfl, h⟩
  · refine .inl ⟨some (iv y1), rfl, ?_⟩
    show wp S 145 10 [(0, rf 2), (1, iv x1), (2, iv x2), (3, iv x3), (4, rf 275)] [iv y1, iv 0, rf 275] s1 Q
    refine i_i2l r_145_10 (n_145_10 _) ?_
    refine i_lastore (a := 275) (j := 0) r_145_11 (n_145_11 _) lf_275 ⟨by omega, by omega⟩ (by omega) (by omega) ?_
    refine i_goto (t := 19) r_145_12 (n_145_12 _) rfl ?_
    refine i_iconst r_145_19 (n_145_19 _) ?_
    exact i_ireturn r_145_20 (n_145_20 _) rfl h
  · skip
    rcases h with ⟨rfl, h⟩
    · refine .inr ⟨_, rfl, .inr ⟨_, _, 15, (17, [(0, rf 2), (1, iv x1), (2, iv x2), (3, iv x3), (4, rf 275)]), rfl, rfl, rfl, ?_⟩⟩
      refine i_iconst r_145_17 (n_145_17 _) ?_
      exact i_ireturn r_145_18 (n_145_18 _) rfl h
theorem v_Law_fill_0 {S : Option (Nat × (Nat → Int32))} {s : zSt} {Q : Option Value ⊕ Nat → zSt → Prop} {x1 : Int} {x2 : Int} {u3 : Int64} {u5 : Int64} 
    (h : wp S 150 0 [(0, rf 2), (1, iv x1), (2, iv x2), (3, .long u3), (5, .long u5)] [] s (fun o1 s1 => zkI (fun y1 => Q (rI 0) (zwL s1 275 0 (zi2l y1))) (fun e1 => (e1 = 2 ∧ Q (rI 1) s1)) o1)) :
    wp S 149 0 [(0, rf 2), (1, iv x1), (2, iv x2), (3, .long u3), (5, .long u5), (7, rf 275)] [] s Q := by
  refine i_aload (a := 275) r_149_0 (n_149_0 _) rfl ?_
  refine i_iconst r_149_2 (n_149_2 _) ?_
  refine i_aload_n (a := 2) r_149_3 (n_149_3 _) rfl ?_
  refine i_iload_n (x := x1) r_149_4 (n_149_4 _) rfl ?_
  refine i_iload_n (x := x2) r_149_5 (n_149_5 _) rfl ?_
  refine i_lload_n (u := u3) r_149_6 (n_149_6 _) rfl ?_
  refine i_lload (u := u5) r_149_7 (n_149_7 _) rfl ?_
  refine wp_virt (b := 2) (rest := [iv 0, rf 275]) (Ls := [(0, rf 2), (1, iv x1), (2, iv x2), (3, .long u3), (5, .long u5)]) r_149_9 (n_149_9 _) rfl ⟨rfl, rfl, by decide, by decide⟩ rfl rfl lf_2 ⟨rfl, Nat.le_of_ble_eq_true rfl, Nat.le_of_ble_eq_true rfl⟩ rfl h ?_
  intro o1 s1 h
  rcases h with ⟨y1, q2, rfl, h⟩ | ⟨e1, rfl, h⟩
  · refine .inl ⟨some (iv y1), rfl, ?_⟩
    show wp S 149 12 [(0, rf 2), (1, iv x1), (2, iv x2), (3, .long u3), (5, .long u5), (7, rf 275)] [iv y1, iv 0, rf 275] s1 Q
    refine i_i2l r_149_12 (n_149_12 _) ?_
    refine i_lastore (a := 275) (j := 0) r_149_13 (n_149_13 _) lf_275 ⟨by omega, by omega⟩ (by omega) (by omega) ?_
    refine i_goto (t := 21) r_149_14 (n_149_14 _) rfl ?_
    refine i_iconst r_149_21 (n_149_21 _) ?_
    exact i_ireturn r_149_22 (n_149_22 _) rfl h
  · skip
    rcases h with ⟨rfl, h⟩
    · refine .inr ⟨_, rfl, .inr ⟨_, _, 17, (19, [(0, rf 2), (1, iv x1), (2, iv x2), (3, .long u3), (5, .long u5), (7, rf 275)]), rfl, rfl, rfl, ?_⟩⟩
      refine i_iconst r_149_19 (n_149_19 _) ?_
      exact i_ireturn r_149_20 (n_149_20 _) rfl h
theorem v_Law_copyRow_0 {S : Option (Nat × (Nat → Int32))} {s : zSt} {Q : Option Value ⊕ Nat → zSt → Prop} {x1 : Int} {x2 : Int} {x3 : Int} 
    (h : wp S 152 0 [(0, rf 2), (1, iv x1), (2, iv x2), (3, iv x3)] [] s (fun o1 s1 => zkI (fun y1 => Q (rI 0) (zwL s1 275 0 (zi2l y1))) (fun e1 => (e1 = 2 ∧ Q (rI 1) s1)) o1)) :
    wp S 151 0 [(0, rf 2), (1, iv x1), (2, iv x2), (3, iv x3), (4, rf 275)] [] s Q := by
  refine i_aload (a := 275) r_151_0 (n_151_0 _) rfl ?_
  refine i_iconst r_151_2 (n_151_2 _) ?_
  refine i_aload_n (a := 2) r_151_3 (n_151_3 _) rfl ?_
  refine i_iload_n (x := x1) r_151_4 (n_151_4 _) rfl ?_
  refine i_iload_n (x := x2) r_151_5 (n_151_5 _) rfl ?_
  refine i_iload_n (x := x3) r_151_6 (n_151_6 _) rfl ?_
  refine wp_virt (b := 2) (rest := [iv 0, rf 275]) (Ls := [(0, rf 2), (1, iv x1), (2, iv x2), (3, iv x3)]) r_151_7 (n_151_7 _) rfl ⟨rfl, rfl, by decide, by decide⟩ rfl rfl lf_2 ⟨rfl, Nat.le_of_ble_eq_true rfl, Nat.le_of_ble_eq_true rfl⟩ rfl h ?_
  intro o1 s1 h
  rcases h with ⟨y1, q2, rfl, h⟩ | ⟨e1, rfl, h⟩
  · refine .inl ⟨some (iv y1), rfl, ?_⟩
    show wp S 151 10 [(0, rf 2), (1, iv x1), (2, iv x2), (3, iv x3), (4, rf 275)] [iv y1, iv 0, rf 275] s1 Q
    refine i_i2l r_151_10 (n_151_10 _) ?_
    refine i_lastore (a := 275) (j := 0) r_151_11 (n_151_11 _) lf_275 ⟨by omega, by omega⟩ (by omega) (by omega) ?_
    refine i_goto (t := 19) r_151_12 (n_151_12 _) rfl ?_
    refine i_iconst r_151_19 (n_151_19 _) ?_
    exact i_ireturn r_151_20 (n_151_20 _) rfl h
  · skip
    rcases h with ⟨rfl, h⟩
    · refine .inr ⟨_, rfl, .inr ⟨_, _, 15, (17, [(0, rf 2), (1, iv x1), (2, iv x2), (3, iv x3), (4, rf 275)]), rfl, rfl, rfl, ?_⟩⟩
      refine i_iconst r_151_17 (n_151_17 _) ?_
      exact i_ireturn r_151_18 (n_151_18 _) rfl h
theorem v_Law_count_0 {S : Option (Nat × (Nat → Int32))} {s : zSt} {Q : Option Value ⊕ Nat → zSt → Prop} {x1 : Int} {x2 : Int} {x3 : Int} {u4 : Int64} 
    (h : wp S 154 0 [(0, rf 2), (1, iv x1), (2, iv x2), (3, iv x3), (4, .long u4)] [] s (fun o1 s1 => zkI (fun y1 => Q (rI 0) (zwL s1 275 0 (zi2l y1))) (fun e1 => (e1 = 0 ∧ Q (rI 2) s1) ∨ (e1 = 2 ∧ Q (rI 1) s1)) o1)) :
    wp S 153 0 [(0, rf 2), (1, iv x1), (2, iv x2), (3, iv x3), (4, .long u4), (6, rf 275)] [] s Q := by
  refine i_aload (a := 275) r_153_0 (n_153_0 _) rfl ?_
  refine i_iconst r_153_2 (n_153_2 _) ?_
  refine i_aload_n (a := 2) r_153_3 (n_153_3 _) rfl ?_
  refine i_iload_n (x := x1) r_153_4 (n_153_4 _) rfl ?_
  refine i_iload_n (x := x2) r_153_5 (n_153_5 _) rfl ?_
  refine i_iload_n (x := x3) r_153_6 (n_153_6 _) rfl ?_
  refine i_lload (u := u4) r_153_7 (n_153_7 _) rfl ?_
  refine wp_virt (b := 2) (rest := [iv 0, rf 275]) (Ls := [(0, rf 2), (1, iv x1), (2, iv x2), (3, iv x3), (4, .long u4)]) r_153_9 (n_153_9 _) rfl ⟨rfl, rfl, by decide, by decide⟩ rfl rfl lf_2 ⟨rfl, Nat.le_of_ble_eq_true rfl, Nat.le_of_ble_eq_true rfl⟩ rfl h ?_
  intro o1 s1 h
  rcases h with ⟨y1, q2, rfl, h⟩ | ⟨e1, rfl, h⟩
  · refine .inl ⟨some (iv y1), rfl, ?_⟩
    show wp S 153 12 [(0, rf 2), (1, iv x1), (2, iv x2), (3, iv x3), (4, .long u4), (6, rf 275)] [iv y1, iv 0, rf 275] s1 Q
    refine i_i2l r_153_12 (n_153_12 _) ?_
    refine i_lastore (a := 275) (j := 0) r_153_13 (n_153_13 _) lf_275 ⟨by omega, by omega⟩ (by omega) (by omega) ?_
    refine i_goto (t := 25) r_153_14 (n_153_14 _) rfl ?_
    refine i_iconst r_153_25 (n_153_25 _) ?_
    exact i_ireturn r_153_26 (n_153_26 _) rfl h
  · skip
    rcases h with ⟨rfl, h⟩ | ⟨rfl, h⟩
    · refine .inr ⟨_, rfl, .inr ⟨_, _, 21, (23, [(0, rf 2), (1, iv x1), (2, iv x2), (3, iv x3), (4, .long u4), (6, rf 275)]), rfl, rfl, rfl, ?_⟩⟩
      refine i_iconst r_153_23 (n_153_23 _) ?_
      exact i_ireturn r_153_24 (n_153_24 _) rfl h
    · refine .inr ⟨_, rfl, .inr ⟨_, _, 17, (19, [(0, rf 2), (1, iv x1), (2, iv x2), (3, iv x3), (4, .long u4), (6, rf 275)]), rfl, rfl, rfl, ?_⟩⟩
      refine i_iconst r_153_19 (n_153_19 _) ?_
      exact i_ireturn r_153_20 (n_153_20 _) rfl h
theorem v_Law_findRow_0 {S : Option (Nat × (Nat → Int32))} {s : zSt} {Q : Option Value ⊕ Nat → zSt → Prop} {x1 : Int} {x2 : Int} {u3 : Int64} {x5 : Int} 
    (h : wp S 156 0 [(0, rf 2), (1, iv x1), (2, iv x2), (3, .long u3), (5, iv x5)] [] s (fun o1 s1 => zkI (fun y1 => Q (rI 0) (zwL s1 275 0 (zi2l y1))) (fun e1 => (e1 = 2 ∧ Q (rI 1) s1)) o1)) :
    wp S 155 0 [(0, rf 2), (1, iv x1), (2, iv x2), (3, .long u3), (5, iv x5), (6, rf 275)] [] s Q := by
  refine i_aload (a := 275) r_155_0 (n_155_0 _) rfl ?_
  refine i_iconst r_155_2 (n_155_2 _) ?_
  refine i_aload_n (a := 2) r_155_3 (n_155_3 _) rfl ?_
  refine i_iload_n (x := x1) r_155_4 (n_155_4 _) rfl ?_
  refine i_iload_n (x := x2) r_155_5 (n_155_5 _) rfl ?_
  refine i_lload_n (u := u3) r_155_6 (n_155_6 _) rfl ?_
  refine i_iload (x := x5) r_155_7 (n_155_7 _) rfl ?_
  refine wp_virt (b := 2) (rest := [iv 0, rf 275]) (Ls := [(0, rf 2), (1, iv x1), (2, iv x2), (3, .long u3), (5, iv x5)]) r_155_9 (n_155_9 _) rfl ⟨rfl, rfl, by decide, by decide⟩ rfl rfl lf_2 ⟨rfl, Nat.le_of_ble_eq_true rfl, Nat.le_of_ble_eq_true rfl⟩ rfl h ?_
  intro o1 s1 h
  rcases h with ⟨y1, q2, rfl, h⟩ | ⟨e1, rfl, h⟩
  · refine .inl ⟨some (iv y1), rfl, ?_⟩
    show wp S 155 12 [(0, rf 2), (1, iv x1), (2, iv x2), (3, .long u3), (5, iv x5), (6, rf 275)] [iv y1, iv 0, rf 275] s1 Q
    refine i_i2l r_155_12 (n_155_12 _) ?_
    refine i_lastore (a := 275) (j := 0) r_155_13 (n_155_13 _) lf_275 ⟨by omega, by omega⟩ (by omega) (by omega) ?_
    refine i_goto (t := 21) r_155_14 (n_155_14 _) rfl ?_
    refine i_iconst r_155_21 (n_155_21 _) ?_
    exact i_ireturn r_155_22 (n_155_22 _) rfl h
  · skip
    rcases h with ⟨rfl, h⟩
    · refine .inr ⟨_, rfl, .inr ⟨_, _, 17, (19, [(0, rf 2), (1, iv x1), (2, iv x2), (3, .long u3), (5, iv x5), (6, rf 275)]), rfl, rfl, rfl, ?_⟩⟩
      refine i_iconst r_155_19 (n_155_19 _) ?_
      exact i_ireturn r_155_20 (n_155_20 _) rfl h
theorem v_Law_sum_0 {S : Option (Nat × (Nat → Int32))} {s : zSt} {Q : Option Value ⊕ Nat → zSt → Prop} {x1 : Int} {x2 : Int} 
    (h : wp S 158 0 [(0, rf 2), (1, iv x1), (2, iv x2)] [] s (fun o1 s1 => zkL (fun y1 => Q (rI 0) (zwL s1 275 0 y1)) (fun e1 => (e1 = 2 ∧ Q (rI 1) s1)) o1)) :
    wp S 157 0 [(0, rf 2), (1, iv x1), (2, iv x2), (3, rf 275)] [] s Q := by
  refine i_aload_n (a := 275) r_157_0 (n_157_0 _) rfl ?_
  refine i_iconst r_157_1 (n_157_1 _) ?_
  refine i_aload_n (a := 2) r_157_2 (n_157_2 _) rfl ?_
  refine i_iload_n (x := x1) r_157_3 (n_157_3 _) rfl ?_
  refine i_iload_n (x := x2) r_157_4 (n_157_4 _) rfl ?_
  refine wp_virt (b := 2) (rest := [iv 0, rf 275]) (Ls := [(0, rf 2), (1, iv x1), (2, iv x2)]) r_157_5 (n_157_5 _) rfl ⟨rfl, rfl, by decide, by decide⟩ rfl rfl lf_2 ⟨rfl, Nat.le_of_ble_eq_true rfl, Nat.le_of_ble_eq_true rfl⟩ rfl h ?_
  intro o1 s1 h
  rcases h with ⟨y1, rfl, h⟩ | ⟨e1, rfl, h⟩
  · refine .inl ⟨some (.long y1), rfl, ?_⟩
    show wp S 157 8 [(0, rf 2), (1, iv x1), (2, iv x2), (3, rf 275)] [.long y1, iv 0, rf 275] s1 Q
    refine i_lastore (a := 275) (j := 0) r_157_8 (n_157_8 _) lf_275 ⟨by omega, by omega⟩ (by omega) (by omega) ?_
    refine i_goto (t := 16) r_157_9 (n_157_9 _) rfl ?_
    refine i_iconst r_157_16 (n_157_16 _) ?_
    exact i_ireturn r_157_17 (n_157_17 _) rfl h
  · skip
    rcases h with ⟨rfl, h⟩
    · refine .inr ⟨_, rfl, .inr ⟨_, _, 12, (14, [(0, rf 2), (1, iv x1), (2, iv x2), (3, rf 275)]), rfl, rfl, rfl, ?_⟩⟩
      refine i_iconst r_157_14 (n_157_14 _) ?_
      exact i_ireturn r_157_15 (n_157_15 _) rfl h
theorem v_Law_lines_0 {S : Option (Nat × (Nat → Int32))} {s : zSt} {Q : Option Value ⊕ Nat → zSt → Prop} {x1 : Int} {u2 : Int64} {x4 : Int} {x5 : Int} {x6 : Int} 
    (h : wp S 160 0 [(0, rf 2), (1, iv x1), (2, .long u2), (4, iv x4), (5, iv x5), (6, iv x6)] [] s (fun o1 s1 => zkI (fun y1 => Q (rI 0) (zwL s1 275 0 (zi2l y1))) (fun e1 => (e1 = 0 ∧ Q (rI 2) s1) ∨ (e1 = 2 ∧ Q (rI 1) s1)) o1)) :
    wp S 159 0 [(0, rf 2), (1, iv x1), (2, .long u2), (4, iv x4), (5, iv x5), (6, iv x6), (7, rf 275)] [] s Q := by
  refine i_aload (a := 275) r_159_0 (n_159_0 _) rfl ?_
  refine i_iconst r_159_2 (n_159_2 _) ?_
  refine i_aload_n (a := 2) r_159_3 (n_159_3 _) rfl ?_
  refine i_iload_n (x := x1) r_159_4 (n_159_4 _) rfl ?_
  refine i_lload_n (u := u2) r_159_5 (n_159_5 _) rfl ?_
  refine i_iload (x := x4) r_159_6 (n_159_6 _) rfl ?_
  refine i_iload (x := x5) r_159_8 (n_159_8 _) rfl ?_
  refine i_iload (x := x6) r_159_10 (n_159_10 _) rfl ?_
  refine wp_virt (b := 2) (rest := [iv 0, rf 275]) (Ls := [(0, rf 2), (1, iv x1), (2, .long u2), (4, iv x4), (5, iv x5), (6, iv x6)]) r_159_12 (n_159_12 _) rfl ⟨rfl, rfl, by decide, by decide⟩ rfl rfl lf_2 ⟨rfl, Nat.le_of_ble_eq_true rfl, Nat.le_of_ble_eq_true rfl⟩ rfl h ?_
  intro o1 s1 h
  rcases h with ⟨y1, q2, rfl, h⟩ | ⟨e1, rfl, h⟩
  · refine .inl ⟨some (iv y1), rfl, ?_⟩
    show wp S 159 15 [(0, rf 2), (1, iv x1), (2, .long u2), (4, iv x4), (5, iv x5), (6, iv x6), (7, rf 275)] [iv y1, iv 0, rf 275] s1 Q
    refine i_i2l r_159_15 (n_159_15 _) ?_
    refine i_lastore (a := 275) (j := 0) r_159_16 (n_159_16 _) lf_275 ⟨by omega, by omega⟩ (by omega) (by omega) ?_
    refine i_goto (t := 28) r_159_17 (n_159_17 _) rfl ?_
    refine i_iconst r_159_28 (n_159_28 _) ?_
    exact i_ireturn r_159_29 (n_159_29 _) rfl h
  · skip
    rcases h with ⟨rfl, h⟩ | ⟨rfl, h⟩
    · refine .inr ⟨_, rfl, .inr ⟨_, _, 24, (26, [(0, rf 2), (1, iv x1), (2, .long u2), (4, iv x4), (5, iv x5), (6, iv x6), (7, rf 275)]), rfl, rfl, rfl, ?_⟩⟩
      refine i_iconst r_159_26 (n_159_26 _) ?_
      exact i_ireturn r_159_27 (n_159_27 _) rfl h
    · refine .inr ⟨_, rfl, .inr ⟨_, _, 20, (22, [(0, rf 2), (1, iv x1), (2, .long u2), (4, iv x4), (5, iv x5), (6, iv x6), (7, rf 275)]), rfl, rfl, rfl, ?_⟩⟩
      refine i_iconst r_159_22 (n_159_22 _) ?_
      exact i_ireturn r_159_23 (n_159_23 _) rfl h
theorem v_Law_runs_0 {S : Option (Nat × (Nat → Int32))} {s : zSt} {Q : Option Value ⊕ Nat → zSt → Prop} {x1 : Int} {u2 : Int64} {x4 : Int} {x5 : Int} 
    (h : wp S 170 0 [(0, rf 2), (1, iv x1), (2, .long u2), (4, iv x4), (5, iv x5)] [] s (fun o1 s1 => zkI (fun y1 => Q (rI 0) (zwL s1 275 0 (zi2l y1))) (fun e1 => (e1 = 0 ∧ Q (rI 2) s1) ∨ (e1 = 2 ∧ Q (rI 1) s1)) o1)) :
    wp S 169 0 [(0, rf 2), (1, iv x1), (2, .long u2), (4, iv x4), (5, iv x5), (6, rf 275)] [] s Q := by
  refine i_aload (a := 275) r_169_0 (n_169_0 _) rfl ?_
  refine i_iconst r_169_2 (n_169_2 _) ?_
  refine i_aload_n (a := 2) r_169_3 (n_169_3 _) rfl ?_
  refine i_iload_n (x := x1) r_169_4 (n_169_4 _) rfl ?_
  refine i_lload_n (u := u2) r_169_5 (n_169_5 _) rfl ?_
  refine i_iload (x := x4) r_169_6 (n_169_6 _) rfl ?_
  refine i_iload (x := x5) r_169_8 (n_169_8 _) rfl ?_
  refine wp_virt (b := 2) (rest := [iv 0, rf 275]) (Ls := [(0, rf 2), (1, iv x1), (2, .long u2), (4, iv x4), (5, iv x5)]) r_169_10 (n_169_10 _) rfl ⟨rfl, rfl, by decide, by decide⟩ rfl rfl lf_2 ⟨rfl, Nat.le_of_ble_eq_true rfl, Nat.le_of_ble_eq_true rfl⟩ rfl h ?_
  intro o1 s1 h
  rcases h with ⟨y1, q2, rfl, h⟩ | ⟨e1, rfl, h⟩
  · refine .inl ⟨some (iv y1), rfl, ?_⟩
    show wp S 169 13 [(0, rf 2), (1, iv x1), (2, .long u2), (4, iv x4), (5, iv x5), (6, rf 275)] [iv y1, iv 0, rf 275] s1 Q
    refine i_i2l r_169_13 (n_169_13 _) ?_
    refine i_lastore (a := 275) (j := 0) r_169_14 (n_169_14 _) lf_275 ⟨by omega, by omega⟩ (by omega) (by omega) ?_
    refine i_goto (t := 26) r_169_15 (n_169_15 _) rfl ?_
    refine i_iconst r_169_26 (n_169_26 _) ?_
    exact i_ireturn r_169_27 (n_169_27 _) rfl h
  · skip
    rcases h with ⟨rfl, h⟩ | ⟨rfl, h⟩
    · refine .inr ⟨_, rfl, .inr ⟨_, _, 22, (24, [(0, rf 2), (1, iv x1), (2, .long u2), (4, iv x4), (5, iv x5), (6, rf 275)]), rfl, rfl, rfl, ?_⟩⟩
      refine i_iconst r_169_24 (n_169_24 _) ?_
      exact i_ireturn r_169_25 (n_169_25 _) rfl h
    · refine .inr ⟨_, rfl, .inr ⟨_, _, 18, (20, [(0, rf 2), (1, iv x1), (2, .long u2), (4, iv x4), (5, iv x5), (6, rf 275)]), rfl, rfl, rfl, ?_⟩⟩
      refine i_iconst r_169_20 (n_169_20 _) ?_
      exact i_ireturn r_169_21 (n_169_21 _) rfl h
theorem v_Law_bestLayout_0 {S : Option (Nat × (Nat → Int32))} {s : zSt} {Q : Option Value ⊕ Nat → zSt → Prop} {x1 : Int} {u2 : Int64} {x4 : Int} 
    (h : wp S 173 0 [(0, rf 2), (1, iv x1), (2, .long u2), (4, iv x4)] [] s (fun o1 s1 => zkI (fun y1 => Q (rI 0) (zwL s1 275 0 (zi2l y1))) (fun e1 => (e1 = 0 ∧ Q (rI 2) s1) ∨ (e1 = 2 ∧ Q (rI 1) s1)) o1)) :
    wp S 172 0 [(0, rf 2), (1, iv x1), (2, .long u2), (4, iv x4), (5, rf 275)] [] s Q := by
  refine i_aload (a := 275) r_172_0 (n_172_0 _) rfl ?_
  refine i_iconst r_172_2 (n_172_2 _) ?_
  refine i_aload_n (a := 2) r_172_3 (n_172_3 _) rfl ?_
  refine i_iload_n (x := x1) r_172_4 (n_172_4 _) rfl ?_
  refine i_lload_n (u := u2) r_172_5 (n_172_5 _) rfl ?_
  refine i_iload (x := x4) r_172_6 (n_172_6 _) rfl ?_
  refine wp_virt (b := 2) (rest := [iv 0, rf 275]) (Ls := [(0, rf 2), (1, iv x1), (2, .long u2), (4, iv x4)]) r_172_8 (n_172_8 _) rfl ⟨rfl, rfl, by decide, by decide⟩ rfl rfl lf_2 ⟨rfl, Nat.le_of_ble_eq_true rfl, Nat.le_of_ble_eq_true rfl⟩ rfl h ?_
  intro o1 s1 h
  rcases h with ⟨y1, q2, rfl, h⟩ | ⟨e1, rfl, h⟩
  · refine .inl ⟨some (iv y1), rfl, ?_⟩
    show wp S 172 11 [(0, rf 2), (1, iv x1), (2, .long u2), (4, iv x4), (5, rf 275)] [iv y1, iv 0, rf 275] s1 Q
    refine i_i2l r_172_11 (n_172_11 _) ?_
    refine i_lastore (a := 275) (j := 0) r_172_12 (n_172_12 _) lf_275 ⟨by omega, by omega⟩ (by omega) (by omega) ?_
    refine i_goto (t := 24) r_172_13 (n_172_13 _) rfl ?_
    refine i_iconst r_172_24 (n_172_24 _) ?_
    exact i_ireturn r_172_25 (n_172_25 _) rfl h
  · skip
    rcases h with ⟨rfl, h⟩ | ⟨rfl, h⟩
    · refine .inr ⟨_, rfl, .inr ⟨_, _, 20, (22, [(0, rf 2), (1, iv x1), (2, .long u2), (4, iv x4), (5, rf 275)]), rfl, rfl, rfl, ?_⟩⟩
      refine i_iconst r_172_22 (n_172_22 _) ?_
      exact i_ireturn r_172_23 (n_172_23 _) rfl h
    · refine .inr ⟨_, rfl, .inr ⟨_, _, 16, (18, [(0, rf 2), (1, iv x1), (2, .long u2), (4, iv x4), (5, rf 275)]), rfl, rfl, rfl, ?_⟩⟩
      refine i_iconst r_172_18 (n_172_18 _) ?_
      exact i_ireturn r_172_19 (n_172_19 _) rfl h
theorem v_Law_undo_0 {S : Option (Nat × (Nat → Int32))} {s : zSt} {Q : Option Value ⊕ Nat → zSt → Prop}  
    (h : wp S 175 0 [(0, rf 2)] [] s (fun o1 s1 => zkI (fun y1 => Q (rI 0) (zwL s1 275 0 (zi2l y1))) (fun e1 => (e1 = 1 ∧ Q (rI 1) s1)) o1)) :
    wp S 174 0 [(0, rf 2), (1, rf 275)] [] s Q := by
  refine i_aload_n (a := 275) r_174_0 (n_174_0 _) rfl ?_
  refine i_iconst r_174_1 (n_174_1 _) ?_
  refine i_aload_n (a := 2) r_174_2 (n_174_2 _) rfl ?_
  refine wp_virt (b := 2) (rest := [iv 0, rf 275]) (Ls := [(0, rf 2)]) r_174_3 (n_174_3 _) rfl ⟨rfl, rfl, by decide, by decide⟩ rfl rfl lf_2 ⟨rfl, Nat.le_of_ble_eq_true rfl, Nat.le_of_ble_eq_true rfl⟩ rfl h ?_
  intro o1 s1 h
  rcases h with ⟨y1, q2, rfl, h⟩ | ⟨e1, rfl, h⟩
  · refine .inl ⟨some (iv y1), rfl, ?_⟩
    show wp S 174 6 [(0, rf 2), (1, rf 275)] [iv y1, iv 0, rf 275] s1 Q
    refine i_i2l r_174_6 (n_174_6 _) ?_
    refine i_lastore (a := 275) (j := 0) r_174_7 (n_174_7 _) lf_275 ⟨by omega, by omega⟩ (by omega) (by omega) ?_
    refine i_goto (t := 14) r_174_8 (n_174_8 _) rfl ?_
    refine i_iconst r_174_14 (n_174_14 _) ?_
    exact i_ireturn r_174_15 (n_174_15 _) rfl h
  · skip
    rcases h with ⟨rfl, h⟩
    · refine .inr ⟨_, rfl, .inr ⟨_, _, 11, (12, [(0, rf 2), (1, rf 275)]), rfl, rfl, rfl, ?_⟩⟩
      refine i_iconst r_174_12 (n_174_12 _) ?_
      exact i_ireturn r_174_13 (n_174_13 _) rfl h

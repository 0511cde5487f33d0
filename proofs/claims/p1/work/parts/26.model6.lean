theorem d_X9_whyTold_0 : decode prog_11_method_73_code 0 = .ok (.lload_n 1, 1) := by decide +kernel
theorem k_1921 : Cond.constantLong "PinchedBillModel" 355 (-1) ∈ gd_tbl := gd_in 1921 (by decide +kernel) (by decide +kernel)
theorem d_X9_whyTold_1 : decode prog_11_method_73_code 1 = .ok (.ldc2_w 355, 3) := by decide +kernel
theorem d_X9_whyTold_4 : decode prog_11_method_73_code 4 = .ok (.lcmp, 1) := by decide +kernel
theorem d_X9_whyTold_5 : decode prog_11_method_73_code 5 = .ok (.ifCond .ne 5, 3) := by decide +kernel
theorem d_X9_whyTold_8 : decode prog_11_method_73_code 8 = .ok (.iconst 0, 1) := by decide +kernel
theorem d_X9_whyTold_9 : decode prog_11_method_73_code 9 = .ok (.ireturn, 1) := by decide +kernel
theorem d_X9_whyTold_10 : decode prog_11_method_73_code 10 = .ok (.lload_n 1, 1) := by decide +kernel
theorem d_X9_whyTold_11 : decode prog_11_method_73_code 11 = .ok (.lconst 0, 1) := by decide +kernel
theorem d_X9_whyTold_12 : decode prog_11_method_73_code 12 = .ok (.ldc2_w 262, 3) := by decide +kernel
theorem d_X9_whyTold_15 : decode prog_11_method_73_code 15 = .ok (.invokestatic 140, 3) := by decide +kernel
theorem d_X9_whyTold_18 : decode prog_11_method_73_code 18 = .ok (.ifCond .eq 17, 3) := by decide +kernel
theorem d_X9_whyTold_21 : decode prog_11_method_73_code 21 = .ok (.aload_n 0, 1) := by decide +kernel
theorem d_X9_whyTold_22 : decode prog_11_method_73_code 22 = .ok (.lload_n 1, 1) := by decide +kernel
theorem d_X9_whyTold_23 : decode prog_11_method_73_code 23 = .ok (.invokevirtual 326, 3) := by decide +kernel
theorem d_X9_whyTold_26 : decode prog_11_method_73_code 26 = .ok (.ifCond .eq 7, 3) := by decide +kernel
theorem d_X9_whyTold_29 : decode prog_11_method_73_code 29 = .ok (.iconst 0, 1) := by decide +kernel
theorem d_X9_whyTold_30 : decode prog_11_method_73_code 30 = .ok (.goto 4, 3) := by decide +kernel
theorem d_X9_whyTold_34 : decode prog_11_method_73_code 34 = .ok (.ireturn, 1) := by decide +kernel
theorem d_X9_whyTold_33 : decode prog_11_method_73_code 33 = .ok (.iconst 1, 1) := by decide +kernel
theorem d_X9_whyTold_35 : decode prog_11_method_73_code 35 = .ok (.lload_n 1, 1) := by decide +kernel
theorem k_1922 : Cond.constantLong "PinchedBillModel" 357 1000 ∈ gd_tbl := gd_in 1922 (by decide +kernel) (by decide +kernel)
theorem d_X9_whyTold_36 : decode prog_11_method_73_code 36 = .ok (.ldc2_w 357, 3) := by decide +kernel
theorem k_1923 : Cond.constantLong "PinchedBillModel" 359 1999 ∈ gd_tbl := gd_in 1923 (by decide +kernel) (by decide +kernel)
theorem d_X9_whyTold_39 : decode prog_11_method_73_code 39 = .ok (.ldc2_w 359, 3) := by decide +kernel
theorem d_X9_whyTold_42 : decode prog_11_method_73_code 42 = .ok (.invokestatic 140, 3) := by decide +kernel
theorem d_X9_whyTold_45 : decode prog_11_method_73_code 45 = .ok (.ifCond .eq 14, 3) := by decide +kernel
theorem d_X9_whyTold_48 : decode prog_11_method_73_code 48 = .ok (.aload_n 0, 1) := by decide +kernel
theorem d_X9_whyTold_49 : decode prog_11_method_73_code 49 = .ok (.lload_n 1, 1) := by decide +kernel
theorem d_X9_whyTold_50 : decode prog_11_method_73_code 50 = .ok (.ldc2_w 357, 3) := by decide +kernel
theorem d_X9_whyTold_53 : decode prog_11_method_73_code 53 = .ok (.lsub, 1) := by decide +kernel
theorem d_X9_whyTold_54 : decode prog_11_method_73_code 54 = .ok (.iconst 1, 1) := by decide +kernel
theorem d_X9_whyTold_55 : decode prog_11_method_73_code 55 = .ok (.invokevirtual 339, 3) := by decide +kernel
theorem d_X9_whyTold_58 : decode prog_11_method_73_code 58 = .ok (.ireturn, 1) := by decide +kernel
theorem d_X9_whyTold_59 : decode prog_11_method_73_code 59 = .ok (.lload_n 1, 1) := by decide +kernel
theorem k_1924 : Cond.constantLong "PinchedBillModel" 361 2000 ∈ gd_tbl := gd_in 1924 (by decide +kernel) (by decide +kernel)
theorem d_X9_whyTold_60 : decode prog_11_method_73_code 60 = .ok (.ldc2_w 361, 3) := by decide +kernel
theorem k_1925 : Cond.constantLong "PinchedBillModel" 363 2999 ∈ gd_tbl := gd_in 1925 (by decide +kernel) (by decide +kernel)
theorem d_X9_whyTold_63 : decode prog_11_method_73_code 63 = .ok (.ldc2_w 363, 3) := by decide +kernel
theorem d_X9_whyTold_66 : decode prog_11_method_73_code 66 = .ok (.invokestatic 140, 3) := by decide +kernel
theorem d_X9_whyTold_69 : decode prog_11_method_73_code 69 = .ok (.ifCond .eq 16, 3) := by decide +kernel
theorem d_X9_whyTold_72 : decode prog_11_method_73_code 72 = .ok (.aload_n 0, 1) := by decide +kernel
theorem d_X9_whyTold_73 : decode prog_11_method_73_code 73 = .ok (.lload_n 1, 1) := by decide +kernel
theorem d_X9_whyTold_74 : decode prog_11_method_73_code 74 = .ok (.ldc2_w 361, 3) := by decide +kernel
theorem d_X9_whyTold_77 : decode prog_11_method_73_code 77 = .ok (.lsub, 1) := by decide +kernel
theorem d_X9_whyTold_78 : decode prog_11_method_73_code 78 = .ok (.iconst 0, 1) := by decide +kernel
theorem d_X9_whyTold_79 : decode prog_11_method_73_code 79 = .ok (.invokevirtual 339, 3) := by decide +kernel
theorem d_X9_whyTold_82 : decode prog_11_method_73_code 82 = .ok (.goto 4, 3) := by decide +kernel
theorem d_X9_whyTold_86 : decode prog_11_method_73_code 86 = .ok (.ireturn, 1) := by decide +kernel
theorem d_X9_does_0 : decode prog_11_method_74_code 0 = .ok (.iload_n 1, 1) := by decide +kernel
theorem d_X9_does_1 : decode prog_11_method_74_code 1 = .ok (.iconst (-1), 1) := by decide +kernel
theorem d_X9_does_2 : decode prog_11_method_74_code 2 = .ok (.if_icmp .ne 11, 3) := by decide +kernel
theorem d_X9_does_5 : decode prog_11_method_74_code 5 = .ok (.aload_n 0, 1) := by decide +kernel
theorem d_X9_does_6 : decode prog_11_method_74_code 6 = .ok (.invokevirtual 332, 3) := by decide +kernel
theorem d_X9_does_9 : decode prog_11_method_74_code 9 = .ok (.pop, 1) := by decide +kernel
theorem d_X9_does_10 : decode prog_11_method_74_code 10 = .ok (.goto 35, 3) := by decide +kernel
theorem d_X9_does_45 : decode prog_11_method_74_code 45 = .ok (.return_, 1) := by decide +kernel
theorem d_X9_does_13 : decode prog_11_method_74_code 13 = .ok (.iload_n 1, 1) := by decide +kernel
theorem d_X9_does_14 : decode prog_11_method_74_code 14 = .ok (.sipush 1000, 3) := by decide +kernel
theorem d_X9_does_17 : decode prog_11_method_74_code 17 = .ok (.if_icmp .ge 11, 3) := by decide +kernel
theorem d_X9_does_20 : decode prog_11_method_74_code 20 = .ok (.aload_n 0, 1) := by decide +kernel
theorem d_X9_does_21 : decode prog_11_method_74_code 21 = .ok (.iload_n 1, 1) := by decide +kernel
theorem d_X9_does_22 : decode prog_11_method_74_code 22 = .ok (.invokevirtual 336, 3) := by decide +kernel
theorem d_X9_does_25 : decode prog_11_method_74_code 25 = .ok (.goto 20, 3) := by decide +kernel
theorem d_X9_draw_0 : decode prog_11_method_77_code 0 = .ok (.aload_n 0, 1) := by decide +kernel
theorem k_1947 : Cond.constant "PinchedBillModel" 382 1103515245 ∈ gd_tbl := gd_in 1947 (by decide +kernel) (by decide +kernel)
theorem d_X9_draw_1 : decode prog_11_method_77_code 1 = .ok (.ldc_w 382, 3) := by decide +kernel
theorem d_X9_draw_4 : decode prog_11_method_77_code 4 = .ok (.aload_n 0, 1) := by decide +kernel
theorem k_1569 : Cond.fieldLink "PinchedBillModel" 383 "PinchedBillModel" "state" "I" ∈ gd_tbl := gd_in 1569 (by decide +kernel) (by decide +kernel)
theorem d_X9_draw_5 : decode prog_11_method_77_code 5 = .ok (.getfield 383, 3) := by decide +kernel
theorem d_X9_draw_8 : decode prog_11_method_77_code 8 = .ok (.imul, 1) := by decide +kernel
theorem d_X9_draw_9 : decode prog_11_method_77_code 9 = .ok (.sipush 12345, 3) := by decide +kernel
theorem d_X9_draw_12 : decode prog_11_method_77_code 12 = .ok (.iadd, 1) := by decide +kernel
theorem d_X9_draw_13 : decode prog_11_method_77_code 13 = .ok (.putfield 383, 3) := by decide +kernel
theorem d_X9_draw_16 : decode prog_11_method_77_code 16 = .ok (.aload_n 0, 1) := by decide +kernel
theorem d_X9_draw_17 : decode prog_11_method_77_code 17 = .ok (.getfield 383, 3) := by decide +kernel
theorem d_X9_draw_20 : decode prog_11_method_77_code 20 = .ok (.bipush 16, 2) := by decide +kernel
theorem d_X9_draw_22 : decode prog_11_method_77_code 22 = .ok (.iushr, 1) := by decide +kernel
theorem d_X9_draw_23 : decode prog_11_method_77_code 23 = .ok (.iload_n 1, 1) := by decide +kernel
theorem d_X9_draw_24 : decode prog_11_method_77_code 24 = .ok (.irem, 1) := by decide +kernel
theorem d_X9_draw_25 : decode prog_11_method_77_code 25 = .ok (.ireturn, 1) := by decide +kernel
theorem d_X9_winter_0 : decode prog_11_method_78_code 0 = .ok (.aload_n 0, 1) := by decide +kernel
theorem d_X9_winter_1 : decode prog_11_method_78_code 1 = .ok (.iconst 0, 1) := by decide +kernel
theorem d_X9_winter_2 : decode prog_11_method_78_code 2 = .ok (.putfield 79, 3) := by decide +kernel
theorem d_X9_winter_5 : decode prog_11_method_78_code 5 = .ok (.iload_n 2, 1) := by decide +kernel
theorem d_X9_winter_6 : decode prog_11_method_78_code 6 = .ok (.i2l, 1) := by decide +kernel
theorem d_X9_winter_7 : decode prog_11_method_78_code 7 = .ok (.lconst 1, 1) := by decide +kernel
theorem d_X9_winter_8 : decode prog_11_method_78_code 8 = .ok (.ldc2_w 386, 3) := by decide +kernel
theorem d_X9_winter_11 : decode prog_11_method_78_code 11 = .ok (.invokestatic 140, 3) := by decide +kernel
theorem d_X9_winter_14 : decode prog_11_method_78_code 14 = .ok (.ifCond .ne 9, 3) := by decide +kernel
theorem d_X9_winter_23 : decode prog_11_method_78_code 23 = .ok (.aload_n 0, 1) := by decide +kernel
theorem d_X9_winter_24 : decode prog_11_method_78_code 24 = .ok (.iload_n 1, 1) := by decide +kernel
theorem d_X9_winter_25 : decode prog_11_method_78_code 25 = .ok (.putfield 383, 3) := by decide +kernel
theorem d_X9_winter_28 : decode prog_11_method_78_code 28 = .ok (.iconst 0, 1) := by decide +kernel
theorem d_X9_winter_29 : decode prog_11_method_78_code 29 = .ok (.istore_n 3, 1) := by decide +kernel
theorem d_X9_winter_30 : decode prog_11_method_78_code 30 = .ok (.iconst 0, 1) := by decide +kernel
theorem d_X9_winter_31 : decode prog_11_method_78_code 31 = .ok (.istore 4, 2) := by decide +kernel
theorem d_X9_winter_33 : decode prog_11_method_78_code 33 = .ok (.iload 4, 2) := by decide +kernel
theorem d_X9_winter_35 : decode prog_11_method_78_code 35 = .ok (.iload_n 2, 1) := by decide +kernel
theorem d_X9_winter_36 : decode prog_11_method_78_code 36 = .ok (.if_icmp .ge 85, 3) := by decide +kernel
theorem d_X9_winter_121 : decode prog_11_method_78_code 121 = .ok (.iload_n 3, 1) := by decide +kernel
theorem d_X9_winter_122 : decode prog_11_method_78_code 122 = .ok (.ireturn, 1) := by decide +kernel
theorem d_X9_winter_39 : decode prog_11_method_78_code 39 = .ok (.aload_n 0, 1) := by decide +kernel
theorem d_X9_winter_40 : decode prog_11_method_78_code 40 = .ok (.iconst 5, 1) := by decide +kernel
theorem k_1946 : Cond.code ⟨"PinchedBillModel", "draw", "(I)I"⟩ prog_11_method_77_code 2 (some .int) ∈ gd_tbl := gd_in 1946 (by decide +kernel) (by decide +kernel)
theorem k_1943 : Cond.methodLink "PinchedBillModel" 388 ⟨"PinchedBillModel", "draw", "(I)I"⟩ ∈ gd_tbl := gd_in 1943 (by decide +kernel) (by decide +kernel)
theorem k_1945 : Cond.instanceMethod ⟨"PinchedBillModel", "draw", "(I)I"⟩ ∈ gd_tbl := gd_in 1945 (by decide +kernel) (by decide +kernel)
theorem k_90 : Cond.selects "PinchedBillModel" ⟨"PinchedBillModel", "draw", "(I)I"⟩ ⟨"PinchedBillModel", "draw", "(I)I"⟩ ∈ gd_tbl := gd_in 90 (by decide +kernel) (by decide +kernel)
theorem kV_PinchedBillModel_388 : kV "PinchedBillModel" 388 ⟨"PinchedBillModel", "draw", "(I)I"⟩ prog_11_method_77_code 2 (some .int) 1 := ⟨k_1943, k_1945, k_90, k_122, k_1946, by decide, by decide, by decide +kernel⟩
theorem d_X9_winter_41 : decode prog_11_method_78_code 41 = .ok (.invokevirtual 388, 3) := by decide +kernel
theorem d_X9_winter_44 : decode prog_11_method_78_code 44 = .ok (.istore 5, 2) := by decide +kernel
theorem d_X9_winter_46 : decode prog_11_method_78_code 46 = .ok (.iload 5, 2) := by decide +kernel
theorem d_X9_winter_48 : decode prog_11_method_78_code 48 = .ok (.iconst 2, 1) := by decide +kernel
theorem d_X9_winter_49 : decode prog_11_method_78_code 49 = .ok (.if_icmp .ge 7, 3) := by decide +kernel
theorem d_X9_winter_56 : decode prog_11_method_78_code 56 = .ok (.iload 5, 2) := by decide +kernel
theorem d_X9_winter_58 : decode prog_11_method_78_code 58 = .ok (.iconst 2, 1) := by decide +kernel
theorem d_X9_winter_59 : decode prog_11_method_78_code 59 = .ok (.if_icmp .ne 13, 3) := by decide +kernel
theorem d_X9_winter_62 : decode prog_11_method_78_code 62 = .ok (.aload_n 0, 1) := by decide +kernel
theorem d_X9_winter_63 : decode prog_11_method_78_code 63 = .ok (.sipush 1000, 3) := by decide +kernel
theorem d_X9_winter_66 : decode prog_11_method_78_code 66 = .ok (.invokevirtual 388, 3) := by decide +kernel
theorem d_X9_winter_69 : decode prog_11_method_78_code 69 = .ok (.goto 18, 3) := by decide +kernel
theorem d_X9_winter_87 : decode prog_11_method_78_code 87 = .ok (.istore 6, 2) := by decide +kernel
theorem d_X9_winter_89 : decode prog_11_method_78_code 89 = .ok (.aload_n 0, 1) := by decide +kernel
theorem d_X9_winter_90 : decode prog_11_method_78_code 90 = .ok (.iload 6, 2) := by decide +kernel
theorem d_X9_winter_92 : decode prog_11_method_78_code 92 = .ok (.i2l, 1) := by decide +kernel
theorem k_1920 : Cond.code ⟨"PinchedBillModel", "whyTold", "(J)I"⟩ prog_11_method_73_code 3 (some .int) ∈ gd_tbl := gd_in 1920 (by decide +kernel) (by decide +kernel)
theorem k_1917 : Cond.methodLink "PinchedBillModel" 373 ⟨"PinchedBillModel", "whyTold", "(J)I"⟩ ∈ gd_tbl := gd_in 1917 (by decide +kernel) (by decide +kernel)
theorem k_1919 : Cond.instanceMethod ⟨"PinchedBillModel", "whyTold", "(J)I"⟩ ∈ gd_tbl := gd_in 1919 (by decide +kernel) (by decide +kernel)
theorem k_87 : Cond.selects "PinchedBillModel" ⟨"PinchedBillModel", "whyTold", "(J)I"⟩ ⟨"PinchedBillModel", "whyTold", "(J)I"⟩ ∈ gd_tbl := gd_in 87 (by decide +kernel) (by decide +kernel)
theorem kV_PinchedBillModel_373 : kV "PinchedBillModel" 373 ⟨"PinchedBillModel", "whyTold", "(J)I"⟩ prog_11_method_73_code 3 (some .int) 1 := ⟨k_1917, k_1919, k_87, k_122, k_1920, by decide, by decide, by decide +kernel⟩
theorem d_X9_winter_93 : decode prog_11_method_78_code 93 = .ok (.invokevirtual 373, 3) := by decide +kernel
theorem d_X9_winter_96 : decode prog_11_method_78_code 96 = .ok (.ifCond .eq 6, 3) := by decide +kernel
theorem d_X9_winter_102 : decode prog_11_method_78_code 102 = .ok (.aload_n 0, 1) := by decide +kernel
theorem d_X9_winter_103 : decode prog_11_method_78_code 103 = .ok (.invokevirtual 329, 3) := by decide +kernel
theorem d_X9_winter_106 : decode prog_11_method_78_code 106 = .ok (.aload_n 0, 1) := by decide +kernel
theorem d_X9_winter_107 : decode prog_11_method_78_code 107 = .ok (.iload 6, 2) := by decide +kernel
theorem k_1929 : Cond.code ⟨"PinchedBillModel", "does", "(I)V"⟩ prog_11_method_74_code 2 none ∈ gd_tbl := gd_in 1929 (by decide +kernel) (by decide +kernel)
theorem k_1926 : Cond.methodLink "PinchedBillModel" 376 ⟨"PinchedBillModel", "does", "(I)V"⟩ ∈ gd_tbl := gd_in 1926 (by decide +kernel) (by decide +kernel)
theorem k_1928 : Cond.instanceMethod ⟨"PinchedBillModel", "does", "(I)V"⟩ ∈ gd_tbl := gd_in 1928 (by decide +kernel) (by decide +kernel)
theorem k_88 : Cond.selects "PinchedBillModel" ⟨"PinchedBillModel", "does", "(I)V"⟩ ⟨"PinchedBillModel", "does", "(I)V"⟩ ∈ gd_tbl := gd_in 88 (by decide +kernel) (by decide +kernel)
theorem kV_PinchedBillModel_376 : kV "PinchedBillModel" 376 ⟨"PinchedBillModel", "does", "(I)V"⟩ prog_11_method_74_code 2 none 1 := ⟨k_1926, k_1928, k_88, k_122, k_1929, by decide, by decide, by decide +kernel⟩
theorem d_X9_winter_109 : decode prog_11_method_78_code 109 = .ok (.invokevirtual 376, 3) := by decide +kernel
theorem d_X9_winter_112 : decode prog_11_method_78_code 112 = .ok (.iinc 3 1, 3) := by decide +kernel
theorem d_X9_winter_115 : decode prog_11_method_78_code 115 = .ok (.iinc 4 1, 3) := by decide +kernel
theorem d_X9_winter_118 : decode prog_11_method_78_code 118 = .ok (.goto (-85), 3) := by decide +kernel
theorem d_X9_winter_99 : decode prog_11_method_78_code 99 = .ok (.goto 16, 3) := by decide +kernel
theorem d_X9_winter_72 : decode prog_11_method_78_code 72 = .ok (.sipush 1000, 3) := by decide +kernel
theorem d_X9_winter_75 : decode prog_11_method_78_code 75 = .ok (.iload 5, 2) := by decide +kernel
theorem d_X9_winter_77 : decode prog_11_method_78_code 77 = .ok (.iconst 2, 1) := by decide +kernel
theorem d_X9_winter_78 : decode prog_11_method_78_code 78 = .ok (.isub, 1) := by decide +kernel
theorem d_X9_winter_79 : decode prog_11_method_78_code 79 = .ok (.imul, 1) := by decide +kernel
theorem d_X9_winter_80 : decode prog_11_method_78_code 80 = .ok (.aload_n 0, 1) := by decide +kernel
theorem d_X9_winter_81 : decode prog_11_method_78_code 81 = .ok (.bipush 8, 2) := by decide +kernel
theorem d_X9_winter_83 : decode prog_11_method_78_code 83 = .ok (.invokevirtual 388, 3) := by decide +kernel
theorem d_X9_winter_86 : decode prog_11_method_78_code 86 = .ok (.iadd, 1) := by decide +kernel
theorem d_X9_winter_52 : decode prog_11_method_78_code 52 = .ok (.iconst (-1), 1) := by decide +kernel
theorem d_X9_winter_53 : decode prog_11_method_78_code 53 = .ok (.goto 34, 3) := by decide +kernel
theorem d_X9_winter_17 : decode prog_11_method_78_code 17 = .ok (.aload_n 0, 1) := by decide +kernel
theorem d_X9_winter_18 : decode prog_11_method_78_code 18 = .ok (.iconst 1, 1) := by decide +kernel
theorem d_X9_winter_19 : decode prog_11_method_78_code 19 = .ok (.invokevirtual 242, 3) := by decide +kernel
theorem d_X9_winter_22 : decode prog_11_method_78_code 22 = .ok (.ireturn, 1) := by decide +kernel
theorem wB_0 {j : Nat} (h : j < 10) : wB (100 * j) = 0 := by unfold wB; rw [if_pos (bB_ok h)]
theorem wB_1 {a : Nat} (h : a < 1000) (h2 : ¬ a % 100 = 0) : wB a = 1 := by
  unfold wB
  rw [if_neg]
  intro h3
  obtain ⟨j, hj, h4⟩ := bB_of h3
  have h5 := un_eq a (100 * j) rfl rfl (by omega) (by omega) h4
  omega
set_option maxHeartbeats 4000000 in
set_option maxRecDepth 100000 in
theorem c_mbillN (l : Launch) (D : va_G) (ty : Nat → ClassId) (h0 : Nat) (k0 : Nat) (k1 : Nat) (k2 : Nat) (k3 : Nat) (k5 : Nat) (k19 : Nat) (k20 : Nat) (k21 : Nat) (k22 : Nat) (k23 : Nat) (k25 : Nat) (k26 : Nat) (k27 : Nat) (k30 : Nat) (k31 : Nat) (k33 : Nat) (k36 : Nat) (k37 : Nat) (k38 : Nat) (k39 : Nat) (u4 : Value) (u6 : Value) (u7 : Value) (u8 : Value) (u9 : Value) (u10 : Value) (u11 : Value) (u12 : Value) (u13 : Value) (u14 : Value) (u15 : Value) (u16 : Value) (u17 : Value) (u18 : Value) (u24 : Value) (u28 : Value) (u29 : Value) (u32 : Value) (u34 : Value) (u35 : Value) (kf : Nat → Int32) (a : Nat) (hkf : KF kf) (ha : a < 1000) (hm : ¬ a % 100 = 0) : CC l D ty ⟨"PinchedBillModel", "isBill", "(J)Z"⟩ prog_11_method_40_code 3 (some .boolean) 2 40 0 0 [.ref h0, .long (lN a)] [(h0, eO 9 [.ref k0, .ref k1, .ref k2, .ref k3, u4, .ref k5, u6, u7, u8, u9, u10, u11, u12, u13, u14, u15, u16, u17, u18, .ref k19, .ref k20, .ref k21, .ref k22, .ref k23, u24, .ref k25, .ref k26, .ref k27, u28, u29, .ref k30, .ref k31, u32, .ref k33, u34, u35, .ref k36, .ref k37, .ref k38, .ref k39]), (k0, eI (ty 0) 1875 kf)] (QI D ty (fun (r : Int32) (w : va_W) => 0 = r ∧ w = [(h0, eO 9 [.ref k0, .ref k1, .ref k2, .ref k3, u4, .ref k5, u6, u7, u8, u9, u10, u11, u12, u13, u14, u15, u16, u17, u18, .ref k19, .ref k20, .ref k21, .ref k22, .ref k23, u24, .ref k25, .ref k26, .ref k27, u28, u29, .ref k30, .ref k31, u32, .ref k33, u34, u35, .ref k36, .ref k37, .ref k38, .ref k39]), (k0, eI (ty 0) 1875 kf)])) := by
  refine CC_of (by decide) ?_
  intro p e s m below meth c A C hP hD hS
  obtain ⟨⟨hx, hb, hml, hown, hts⟩, hr, hlocks, hnm, hK, hE, hA, hZ⟩ := id C
  refine startW [.ref h0, .long (lN a)] 3 (nle rfl) (lv := [(0, .ref h0), (1, .long (lN a))]) rfl (fun ls hl => ?_)
  refine lv_lload_n hx hb d_X9_isBill_0 rfl (lv_at hl 1 rfl) ?_
  refine lv_lconst (v := 0) hx hb d_X9_isBill_1 (by decide) ?_
  refine lv_ldc2 hx hb hown (hts _ k_1852) d_X9_isBill_2 ?_
  have ct_1 : Cut [(h0, eO 9 [.ref k0, .ref k1, .ref k2, .ref k3, u4, .ref k5, u6, u7, u8, u9, u10, u11, u12, u13, u14, u15, u16, u17, u18, .ref k19, .ref k20, .ref k21, .ref k22, .ref k23, u24, .ref k25, .ref k26, .ref k27, u28, u29, .ref k30, .ref k31, u32, .ref k33, u34, u35, .ref k36, .ref k37, .ref k38, .ref k39]), (k0, eI (ty 0) 1875 kf)] [] [(h0, eO 9 [.ref k0, .ref k1, .ref k2, .ref k3, u4, .ref k5, u6, u7, u8, u9, u10, u11, u12, u13, u14, u15, u16, u17, u18, .ref k19, .ref k20, .ref k21, .ref k22, .ref k23, u24, .ref k25, .ref k26, .ref k27, u28, u29, .ref k30, .ref k31, u32, .ref k33, u34, u35, .ref k36, .ref k37, .ref k38, .ref k39]), (k0, eI (ty 0) 1875 kf)] [] [0, 1] := ⟨rfl, rfl, rfl, rfl, by decide⟩
  refine cont_I C hP hD hS ct_1 (run_S (As := [.long (lN a), .long 0, .long 999]) (rest := []) C hP hD hS ct_1 (c_mwi l D ty (lN a) 0 999) kS_PinchedBillModel_140 rfl hl.1 rfl (nle rfl) d_X9_isBill_5 ⟨by decide, by decide, by decide, by decide⟩) (fun r_3 w_4 H locs hw_2 hP hD hS => ?_)
  obtain ⟨rfl, rfl⟩ := hw_2
  have hP : va_P D vwCl [(h0, eO 9 [.ref k0, .ref k1, .ref k2, .ref k3, u4, .ref k5, u6, u7, u8, u9, u10, u11, u12, u13, u14, u15, u16, u17, u18, .ref k19, .ref k20, .ref k21, .ref k22, .ref k23, u24, .ref k25, .ref k26, .ref k27, u28, u29, .ref k30, .ref k31, u32, .ref k33, u34, u35, .ref k36, .ref k37, .ref k38, .ref k39]), (k0, eI (ty 0) 1875 kf)] H := hP
  have hD : va_D A [(h0, eO 9 [.ref k0, .ref k1, .ref k2, .ref k3, u4, .ref k5, u6, u7, u8, u9, u10, u11, u12, u13, u14, u15, u16, u17, u18, .ref k19, .ref k20, .ref k21, .ref k22, .ref k23, u24, .ref k25, .ref k26, .ref k27, u28, u29, .ref k30, .ref k31, u32, .ref k33, u34, u35, .ref k36, .ref k37, .ref k38, .ref k39]), (k0, eI (ty 0) 1875 kf)] := hD
  refine topeq (z := 1) (wiN_1 (a) 0 999 rfl rfl rfl (by omega) (by omega) (by omega)) ?_
  refine b_if_eqF C 27 d_X9_isBill_8 (by decide) (by decide) ?_
  refine lv_lload_n hx hb d_X9_isBill_11 rfl (lv_at hl 1 rfl) ?_
  refine lv_aload_n hx hb d_X9_isBill_12 rfl (lv_at hl 0 rfl) ?_
  have ct_5 : Cut [(h0, eO 9 [.ref k0, .ref k1, .ref k2, .ref k3, u4, .ref k5, u6, u7, u8, u9, u10, u11, u12, u13, u14, u15, u16, u17, u18, .ref k19, .ref k20, .ref k21, .ref k22, .ref k23, u24, .ref k25, .ref k26, .ref k27, u28, u29, .ref k30, .ref k31, u32, .ref k33, u34, u35, .ref k36, .ref k37, .ref k38, .ref k39]), (k0, eI (ty 0) 1875 kf)] [(h0, eO 9 [.ref k0, .ref k1, .ref k2, .ref k3, u4, .ref k5, u6, u7, u8, u9, u10, u11, u12, u13, u14, u15, u16, u17, u18, .ref k19, .ref k20, .ref k21, .ref k22, .ref k23, u24, .ref k25, .ref k26, .ref k27, u28, u29, .ref k30, .ref k31, u32, .ref k33, u34, u35, .ref k36, .ref k37, .ref k38, .ref k39]), (k0, eI (ty 0) 1875 kf)] [] [0, 1] [] := ⟨rfl, rfl, rfl, rfl, by decide⟩
  refine cont_I C hP hD hS ct_5 (run_V (As := []) (rest := [.long (lN a)]) C hP hD hS ct_5 (c_mfine l D ty h0 k0 k1 k2 k3 k5 k19 k20 k21 k22 k23 k25 k26 k27 k30 k31 k33 k36 k37 k38 k39 u4 u6 u7 u8 u9 u10 u11 u12 u13 u14 u15 u16 u17 u18 u24 u28 u29 u32 u34 u35 kf hkf) kV_PinchedBillModel_264 0 rfl rfl rfl rfl hl.1 rfl (nle rfl) d_X9_isBill_13 ⟨by decide, by decide, by decide, by decide⟩) (fun r_7 w_8 H locs hw_6 hP hD hS => ?_)
  obtain ⟨rfl, rfl⟩ := hw_6
  have hP : va_P D vwCl [(h0, eO 9 [.ref k0, .ref k1, .ref k2, .ref k3, u4, .ref k5, u6, u7, u8, u9, u10, u11, u12, u13, u14, u15, u16, u17, u18, .ref k19, .ref k20, .ref k21, .ref k22, .ref k23, u24, .ref k25, .ref k26, .ref k27, u28, u29, .ref k30, .ref k31, u32, .ref k33, u34, u35, .ref k36, .ref k37, .ref k38, .ref k39]), (k0, eI (ty 0) 1875 kf)] H := hP
  have hD : va_D A [(h0, eO 9 [.ref k0, .ref k1, .ref k2, .ref k3, u4, .ref k5, u6, u7, u8, u9, u10, u11, u12, u13, u14, u15, u16, u17, u18, .ref k19, .ref k20, .ref k21, .ref k22, .ref k23, u24, .ref k25, .ref k26, .ref k27, u28, u29, .ref k30, .ref k31, u32, .ref k33, u34, u35, .ref k36, .ref k37, .ref k38, .ref k39]), (k0, eI (ty 0) 1875 kf)] := hD
  refine lv_i2l (v := 100) hx hb d_X9_isBill_16 (by decide) ?_
  refine r_lrem (z := (lN (a % 100))) C d_X9_isBill_17 (by decide) (l_rem a 100 (a % 100) rfl rfl (by omega) (by omega) (by omega) rfl) ?_
  refine lv_lconst (v := 0) hx hb d_X9_isBill_18 (by decide) ?_
  refine W.lcmp hx hb d_X9_isBill_19 (topeq (z := 1) (lc_gt (a % 100) 0 rfl rfl (by omega) (by omega) (by omega)) ?_)
  refine b_if_neT C 27 d_X9_isBill_20 (by decide) (by decide) ?_
  refine lv_iconst (v := 0) hx hb d_X9_isBill_27 (by decide) ?_
  exact ret_Z (w := [(h0, eO 9 [.ref k0, .ref k1, .ref k2, .ref k3, u4, .ref k5, u6, u7, u8, u9, u10, u11, u12, u13, u14, u15, u16, u17, u18, .ref k19, .ref k20, .ref k21, .ref k22, .ref k23, u24, .ref k25, .ref k26, .ref k27, u28, u29, .ref k30, .ref k31, u32, .ref k33, u34, u35, .ref k36, .ref k37, .ref k38, .ref k39]), (k0, eI (ty 0) 1875 kf)]) C rfl hP hD hS [0, 1] rfl rfl ⟨rfl, rfl⟩ (by decide) (by decide) d_X9_isBill_28
set_option maxHeartbeats 4000000 in
set_option maxRecDepth 100000 in
theorem c_mwtM (l : Launch) (D : va_G) (ty : Nat → ClassId) (h0 : Nat) (k0 : Nat) (k1 : Nat) (k2 : Nat) (k3 : Nat) (k5 : Nat) (k19 : Nat) (k20 : Nat) (k21 : Nat) (k22 : Nat) (k23 : Nat) (k25 : Nat) (k26 : Nat) (k27 : Nat) (k30 : Nat) (k31 : Nat) (k33 : Nat) (k36 : Nat) (k37 : Nat) (k38 : Nat) (k39 : Nat) (u4 : Value) (u6 : Value) (u7 : Value) (u8 : Value) (u9 : Value) (u10 : Value) (u11 : Value) (u12 : Value) (u13 : Value) (u14 : Value) (u15 : Value) (u16 : Value) (u17 : Value) (u18 : Value) (u24 : Value) (u28 : Value) (u29 : Value) (u32 : Value) (u34 : Value) (u35 : Value) (kf : Nat → Int32) : CC l D ty ⟨"PinchedBillModel", "whyTold", "(J)I"⟩ prog_11_method_73_code 3 (some .int) 0 0 0 0 [.ref h0, .long (-1)] [(h0, eO 9 [.ref k0, .ref k1, .ref k2, .ref k3, u4, .ref k5, u6, u7, u8, u9, u10, u11, u12, u13, u14, u15, u16, u17, u18, .ref k19, .ref k20, .ref k21, .ref k22, .ref k23, u24, .ref k25, .ref k26, .ref k27, u28, u29, .ref k30, .ref k31, u32, .ref k33, u34, u35, .ref k36, .ref k37, .ref k38, .ref k39]), (k0, eI (ty 0) 1875 kf)] (QI D ty (fun (r : Int32) (w : va_W) => 0 = r ∧ w = [(h0, eO 9 [.ref k0, .ref k1, .ref k2, .ref k3, u4, .ref k5, u6, u7, u8, u9, u10, u11, u12, u13, u14, u15, u16, u17, u18, .ref k19, .ref k20, .ref k21, .ref k22, .ref k23, u24, .ref k25, .ref k26, .ref k27, u28, u29, .ref k30, .ref k31, u32, .ref k33, u34, u35, .ref k36, .ref k37, .ref k38, .ref k39]), (k0, eI (ty 0) 1875 kf)])) := by
  refine CC_of (by decide) ?_
  intro p e s m below meth c A C hP hD hS
  obtain ⟨⟨hx, hb, hml, hown, hts⟩, hr, hlocks, hnm, hK, hE, hA, hZ⟩ := id C
  refine startW [.ref h0, .long (-1)] 3 (nle rfl) (lv := [(0, .ref h0), (1, .long (-1))]) rfl (fun ls hl => ?_)
  refine lv_lload_n hx hb d_X9_whyTold_0 rfl (lv_at hl 1 rfl) ?_
  refine lv_ldc2 hx hb hown (hts _ k_1921) d_X9_whyTold_1 ?_
  refine W.lcmp hx hb d_X9_whyTold_4 (W.eq (g2 := F0 m 5 ls [.int 0]) (by rfl) ?_)
  refine b_if_neF C 10 d_X9_whyTold_5 (by decide) (by decide) ?_
  refine lv_iconst (v := 0) hx hb d_X9_whyTold_8 (by decide) ?_
  exact ret_I (w := [(h0, eO 9 [.ref k0, .ref k1, .ref k2, .ref k3, u4, .ref k5, u6, u7, u8, u9, u10, u11, u12, u13, u14, u15, u16, u17, u18, .ref k19, .ref k20, .ref k21, .ref k22, .ref k23, u24, .ref k25, .ref k26, .ref k27, u28, u29, .ref k30, .ref k31, u32, .ref k33, u34, u35, .ref k36, .ref k37, .ref k38, .ref k39]), (k0, eI (ty 0) 1875 kf)]) C hP hD hS [0, 1] rfl rfl ⟨rfl, rfl⟩ (by decide) (by decide) d_X9_whyTold_9
set_option maxHeartbeats 4000000 in
set_option maxRecDepth 100000 in
theorem c_mwtB (l : Launch) (D : va_G) (ty : Nat → ClassId) (h0 : Nat) (k0 : Nat) (k1 : Nat) (k2 : Nat) (k3 : Nat) (k5 : Nat) (k19 : Nat) (k20 : Nat) (k21 : Nat) (k22 : Nat) (k23 : Nat) (k25 : Nat) (k26 : Nat) (k27 : Nat) (k30 : Nat) (k31 : Nat) (k33 : Nat) (k36 : Nat) (k37 : Nat) (k38 : Nat) (k39 : Nat) (u4 : Value) (u6 : Value) (u7 : Value) (u8 : Value) (u9 : Value) (u10 : Value) (u11 : Value) (u12 : Value) (u13 : Value) (u14 : Value) (u15 : Value) (u16 : Value) (u17 : Value) (u18 : Value) (u24 : Value) (u28 : Value) (u29 : Value) (u32 : Value) (u34 : Value) (u35 : Value) (kf : Nat → Int32) (a : Nat) (hkf : KF kf) (ha : a < 1000) : CC l D ty ⟨"PinchedBillModel", "whyTold", "(J)I"⟩ prog_11_method_73_code 3 (some .int) 3 62 0 0 [.ref h0, .long (lN a)] [(h0, eO 9 [.ref k0, .ref k1, .ref k2, .ref k3, u4, .ref k5, u6, u7, u8, u9, u10, u11, u12, u13, u14, u15, u16, u17, u18, .ref k19, .ref k20, .ref k21, .ref k22, .ref k23, u24, .ref k25, .ref k26, .ref k27, u28, u29, .ref k30, .ref k31, u32, .ref k33, u34, u35, .ref k36, .ref k37, .ref k38, .ref k39]), (k0, eI (ty 0) 1875 kf)] (QI D ty (fun (r : Int32) (w : va_W) => (wB a) = r ∧ w = [(h0, eO 9 [.ref k0, .ref k1, .ref k2, .ref k3, u4, .ref k5, u6, u7, u8, u9, u10, u11, u12, u13, u14, u15, u16, u17, u18, .ref k19, .ref k20, .ref k21, .ref k22, .ref k23, u24, .ref k25, .ref k26, .ref k27, u28, u29, .ref k30, .ref k31, u32, .ref k33, u34, u35, .ref k36, .ref k37, .ref k38, .ref k39]), (k0, eI (ty 0) 1875 kf)])) := by
  refine CC_of (by decide) ?_
  intro p e s m below meth c A C hP hD hS
  obtain ⟨⟨hx, hb, hml, hown, hts⟩, hr, hlocks, hnm, hK, hE, hA, hZ⟩ := id C
  refine startW [.ref h0, .long (lN a)] 3 (nle rfl) (lv := [(0, .ref h0), (1, .long (lN a))]) rfl (fun ls hl => ?_)
  by_cases hq_1 : a % 100 = 0
  · obtain ⟨jb, hjb, rfl⟩ : ∃ j : Nat, j < 10 ∧ a = 100 * j := ⟨a / 100, by omega, by omega⟩
    have hgo9 := trivial
    refine lv_lload_n hx hb d_X9_whyTold_0 rfl (lv_at hl 1 rfl) ?_
    refine lv_ldc2 hx hb hown (hts _ k_1921) d_X9_whyTold_1 ?_
    refine W.lcmp hx hb d_X9_whyTold_4 (topeq (z := 1) (lc_neg (100 * jb) rfl (by omega) (by decide)) ?_)
    refine b_if_neT C 10 d_X9_whyTold_5 (by decide) (by decide) ?_
    refine lv_lload_n hx hb d_X9_whyTold_10 rfl (lv_at hl 1 rfl) ?_
    refine lv_lconst (v := 0) hx hb d_X9_whyTold_11 (by decide) ?_
    refine lv_ldc2 hx hb hown (hts _ k_1852) d_X9_whyTold_12 ?_
    have ct_2 : Cut [(h0, eO 9 [.ref k0, .ref k1, .ref k2, .ref k3, u4, .ref k5, u6, u7, u8, u9, u10, u11, u12, u13, u14, u15, u16, u17, u18, .ref k19, .ref k20, .ref k21, .ref k22, .ref k23, u24, .ref k25, .ref k26, .ref k27, u28, u29, .ref k30, .ref k31, u32, .ref k33, u34, u35, .ref k36, .ref k37, .ref k38, .ref k39]), (k0, eI (ty 0) 1875 kf)] [] [(h0, eO 9 [.ref k0, .ref k1, .ref k2, .ref k3, u4, .ref k5, u6, u7, u8, u9, u10, u11, u12, u13, u14, u15, u16, u17, u18, .ref k19, .ref k20, .ref k21, .ref k22, .ref k23, u24, .ref k25, .ref k26, .ref k27, u28, u29, .ref k30, .ref k31, u32, .ref k33, u34, u35, .ref k36, .ref k37, .ref k38, .ref k39]), (k0, eI (ty 0) 1875 kf)] [] [0, 1] := ⟨rfl, rfl, rfl, rfl, by decide⟩
    refine cont_I C hP hD hS ct_2 (run_S (As := [.long (lN (100 * jb)), .long 0, .long 999]) (rest := []) C hP hD hS ct_2 (c_mwi l D ty (lN (100 * jb)) 0 999) kS_PinchedBillModel_140 rfl hl.1 rfl (nle rfl) d_X9_whyTold_15 ⟨by decide, by decide, by decide, by decide⟩) (fun r_4 w_5 H locs hw_3 hP hD hS => ?_)
    obtain ⟨rfl, rfl⟩ := hw_3
    have hP : va_P D vwCl [(h0, eO 9 [.ref k0, .ref k1, .ref k2, .ref k3, u4, .ref k5, u6, u7, u8, u9, u10, u11, u12, u13, u14, u15, u16, u17, u18, .ref k19, .ref k20, .ref k21, .ref k22, .ref k23, u24, .ref k25, .ref k26, .ref k27, u28, u29, .ref k30, .ref k31, u32, .ref k33, u34, u35, .ref k36, .ref k37, .ref k38, .ref k39]), (k0, eI (ty 0) 1875 kf)] H := hP
    have hD : va_D A [(h0, eO 9 [.ref k0, .ref k1, .ref k2, .ref k3, u4, .ref k5, u6, u7, u8, u9, u10, u11, u12, u13, u14, u15, u16, u17, u18, .ref k19, .ref k20, .ref k21, .ref k22, .ref k23, u24, .ref k25, .ref k26, .ref k27, u28, u29, .ref k30, .ref k31, u32, .ref k33, u34, u35, .ref k36, .ref k37, .ref k38, .ref k39]), (k0, eI (ty 0) 1875 kf)] := hD
    refine topeq (z := 1) (wiN_1 ((100 * jb)) 0 999 rfl rfl rfl (by omega) (by omega) (by omega)) ?_
    refine b_if_eqF C 35 d_X9_whyTold_18 (by decide) (by decide) ?_
    refine lv_aload_n hx hb d_X9_whyTold_21 rfl (lv_at hl 0 rfl) ?_
    refine lv_lload_n hx hb d_X9_whyTold_22 rfl (lv_at hl 1 rfl) ?_
    have ct_6 : Cut [(h0, eO 9 [.ref k0, .ref k1, .ref k2, .ref k3, u4, .ref k5, u6, u7, u8, u9, u10, u11, u12, u13, u14, u15, u16, u17, u18, .ref k19, .ref k20, .ref k21, .ref k22, .ref k23, u24, .ref k25, .ref k26, .ref k27, u28, u29, .ref k30, .ref k31, u32, .ref k33, u34, u35, .ref k36, .ref k37, .ref k38, .ref k39]), (k0, eI (ty 0) 1875 kf)] [(h0, eO 9 [.ref k0, .ref k1, .ref k2, .ref k3, u4, .ref k5, u6, u7, u8, u9, u10, u11, u12, u13, u14, u15, u16, u17, u18, .ref k19, .ref k20, .ref k21, .ref k22, .ref k23, u24, .ref k25, .ref k26, .ref k27, u28, u29, .ref k30, .ref k31, u32, .ref k33, u34, u35, .ref k36, .ref k37, .ref k38, .ref k39]), (k0, eI (ty 0) 1875 kf)] [] [0, 1] [] := ⟨rfl, rfl, rfl, rfl, by decide⟩
    refine cont_I C hP hD hS ct_6 (run_V (As := [.long (lN (100 * jb))]) (rest := []) C hP hD hS ct_6 (c_mbillT l D ty h0 k0 k1 k2 k3 k5 k19 k20 k21 k22 k23 k25 k26 k27 k30 k31 k33 k36 k37 k38 k39 u4 u6 u7 u8 u9 u10 u11 u12 u13 u14 u15 u16 u17 u18 u24 u28 u29 u32 u34 u35 kf jb hkf hjb) kV_PinchedBillModel_326 0 rfl rfl rfl rfl hl.1 rfl (nle rfl) d_X9_whyTold_23 ⟨by decide, by decide, by decide, by decide⟩) (fun r_8 w_9 H locs hw_7 hP hD hS => ?_)
    obtain ⟨rfl, rfl⟩ := hw_7
    have hP : va_P D vwCl [(h0, eO 9 [.ref k0, .ref k1, .ref k2, .ref k3, u4, .ref k5, u6, u7, u8, u9, u10, u11, u12, u13, u14, u15, u16, u17, u18, .ref k19, .ref k20, .ref k21, .ref k22, .ref k23, u24, .ref k25, .ref k26, .ref k27, u28, u29, .ref k30, .ref k31, u32, .ref k33, u34, u35, .ref k36, .ref k37, .ref k38, .ref k39]), (k0, eI (ty 0) 1875 kf)] H := hP
    have hD : va_D A [(h0, eO 9 [.ref k0, .ref k1, .ref k2, .ref k3, u4, .ref k5, u6, u7, u8, u9, u10, u11, u12, u13, u14, u15, u16, u17, u18, .ref k19, .ref k20, .ref k21, .ref k22, .ref k23, u24, .ref k25, .ref k26, .ref k27, u28, u29, .ref k30, .ref k31, u32, .ref k33, u34, u35, .ref k36, .ref k37, .ref k38, .ref k39]), (k0, eI (ty 0) 1875 kf)] := hD
    refine b_if_eqF C 33 d_X9_whyTold_26 (by decide) (by decide) ?_
    refine lv_iconst (v := 0) hx hb d_X9_whyTold_29 (by decide) ?_
    refine lv_goto (tgt := 34) hx hb d_X9_whyTold_30 (by decide) ?_
    exact ret_I (w := [(h0, eO 9 [.ref k0, .ref k1, .ref k2, .ref k3, u4, .ref k5, u6, u7, u8, u9, u10, u11, u12, u13, u14, u15, u16, u17, u18, .ref k19, .ref k20, .ref k21, .ref k22, .ref k23, u24, .ref k25, .ref k26, .ref k27, u28, u29, .ref k30, .ref k31, u32, .ref k33, u34, u35, .ref k36, .ref k37, .ref k38, .ref k39]), (k0, eI (ty 0) 1875 kf)]) C hP hD hS [0, 1] rfl rfl ⟨(Eq.symm (wB_0 hjb).symm), rfl⟩ (by decide) (by decide) d_X9_whyTold_34
  · have hgo9 := trivial
    refine lv_lload_n hx hb d_X9_whyTold_0 rfl (lv_at hl 1 rfl) ?_
    refine lv_ldc2 hx hb hown (hts _ k_1921) d_X9_whyTold_1 ?_
    refine W.lcmp hx hb d_X9_whyTold_4 (topeq (z := 1) (lc_neg a rfl (by omega) (by decide)) ?_)
    refine b_if_neT C 10 d_X9_whyTold_5 (by decide) (by decide) ?_
    refine lv_lload_n hx hb d_X9_whyTold_10 rfl (lv_at hl 1 rfl) ?_
    refine lv_lconst (v := 0) hx hb d_X9_whyTold_11 (by decide) ?_
    refine lv_ldc2 hx hb hown (hts _ k_1852) d_X9_whyTold_12 ?_
    have ct_10 : Cut [(h0, eO 9 [.ref k0, .ref k1, .ref k2, .ref k3, u4, .ref k5, u6, u7, u8, u9, u10, u11, u12, u13, u14, u15, u16, u17, u18, .ref k19, .ref k20, .ref k21, .ref k22, .ref k23, u24, .ref k25, .ref k26, .ref k27, u28, u29, .ref k30, .ref k31, u32, .ref k33, u34, u35, .ref k36, .ref k37, .ref k38, .ref k39]), (k0, eI (ty 0) 1875 kf)] [] [(h0, eO 9 [.ref k0, .ref k1, .ref k2, .ref k3, u4, .ref k5, u6, u7, u8, u9, u10, u11, u12, u13, u14, u15, u16, u17, u18, .ref k19, .ref k20, .ref k21, .ref k22, .ref k23, u24, .ref k25, .ref k26, .ref k27, u28, u29, .ref k30, .ref k31, u32, .ref k33, u34, u35, .ref k36, .ref k37, .ref k38, .ref k39]), (k0, eI (ty 0) 1875 kf)] [] [0, 1] := ⟨rfl, rfl, rfl, rfl, by decide⟩
    refine cont_I C hP hD hS ct_10 (run_S (As := [.long (lN a), .long 0, .long 999]) (rest := []) C hP hD hS ct_10 (c_mwi l D ty (lN a) 0 999) kS_PinchedBillModel_140 rfl hl.1 rfl (nle rfl) d_X9_whyTold_15 ⟨by decide, by decide, by decide, by decide⟩) (fun r_12 w_13 H locs hw_11 hP hD hS => ?_)
    obtain ⟨rfl, rfl⟩ := hw_11
    have hP : va_P D vwCl [(h0, eO 9 [.ref k0, .ref k1, .ref k2, .ref k3, u4, .ref k5, u6, u7, u8, u9, u10, u11, u12, u13, u14, u15, u16, u17, u18, .ref k19, .ref k20, .ref k21, .ref k22, .ref k23, u24, .ref k25, .ref k26, .ref k27, u28, u29, .ref k30, .ref k31, u32, .ref k33, u34, u35, .ref k36, .ref k37, .ref k38, .ref k39]), (k0, eI (ty 0) 1875 kf)] H := hP
    have hD : va_D A [(h0, eO 9 [.ref k0, .ref k1, .ref k2, .ref k3, u4, .ref k5, u6, u7, u8, u9, u10, u11, u12, u13, u14, u15, u16, u17, u18, .ref k19, .ref k20, .ref k21, .ref k22, .ref k23, u24, .ref k25, .ref k26, .ref k27, u28, u29, .ref k30, .ref k31, u32, .ref k33, u34, u35, .ref k36, .ref k37, .ref k38, .ref k39]), (k0, eI (ty 0) 1875 kf)] := hD
    refine topeq (z := 1) (wiN_1 (a) 0 999 rfl rfl rfl (by omega) (by omega) (by omega)) ?_
    refine b_if_eqF C 35 d_X9_whyTold_18 (by decide) (by decide) ?_
    refine lv_aload_n hx hb d_X9_whyTold_21 rfl (lv_at hl 0 rfl) ?_
    refine lv_lload_n hx hb d_X9_whyTold_22 rfl (lv_at hl 1 rfl) ?_
    have ct_14 : Cut [(h0, eO 9 [.ref k0, .ref k1, .ref k2, .ref k3, u4, .ref k5, u6, u7, u8, u9, u10, u11, u12, u13, u14, u15, u16, u17, u18, .ref k19, .ref k20, .ref k21, .ref k22, .ref k23, u24, .ref k25, .ref k26, .ref k27, u28, u29, .ref k30, .ref k31, u32, .ref k33, u34, u35, .ref k36, .ref k37, .ref k38, .ref k39]), (k0, eI (ty 0) 1875 kf)] [(h0, eO 9 [.ref k0, .ref k1, .ref k2, .ref k3, u4, .ref k5, u6, u7, u8, u9, u10, u11, u12, u13, u14, u15, u16, u17, u18, .ref k19, .ref k20, .ref k21, .ref k22, .ref k23, u24, .ref k25, .ref k26, .ref k27, u28, u29, .ref k30, .ref k31, u32, .ref k33, u34, u35, .ref k36, .ref k37, .ref k38, .ref k39]), (k0, eI (ty 0) 1875 kf)] [] [0, 1] [] := ⟨rfl, rfl, rfl, rfl, by decide⟩
    refine cont_I C hP hD hS ct_14 (run_V (As := [.long (lN a)]) (rest := []) C hP hD hS ct_14 (c_mbillN l D ty h0 k0 k1 k2 k3 k5 k19 k20 k21 k22 k23 k25 k26 k27 k30 k31 k33 k36 k37 k38 k39 u4 u6 u7 u8 u9 u10 u11 u12 u13 u14 u15 u16 u17 u18 u24 u28 u29 u32 u34 u35 kf a hkf ha hq_1) kV_PinchedBillModel_326 0 rfl rfl rfl rfl hl.1 rfl (nle rfl) d_X9_whyTold_23 ⟨by decide, by decide, by decide, by decide⟩) (fun r_16 w_17 H locs hw_15 hP hD hS => ?_)
    obtain ⟨rfl, rfl⟩ := hw_15
    have hP : va_P D vwCl [(h0, eO 9 [.ref k0, .ref k1, .ref k2, .ref k3, u4, .ref k5, u6, u7, u8, u9, u10, u11, u12, u13, u14, u15, u16, u17, u18, .ref k19, .ref k20, .ref k21, .ref k22, .ref k23, u24, .ref k25, .ref k26, .ref k27, u28, u29, .ref k30, .ref k31, u32, .ref k33, u34, u35, .ref k36, .ref k37, .ref k38, .ref k39]), (k0, eI (ty 0) 1875 kf)] H := hP
    have hD : va_D A [(h0, eO 9 [.ref k0, .ref k1, .ref k2, .ref k3, u4, .ref k5, u6, u7, u8, u9, u10, u11, u12, u13, u14, u15, u16, u17, u18, .ref k19, .ref k20, .ref k21, .ref k22, .ref k23, u24, .ref k25, .ref k26, .ref k27, u28, u29, .ref k30, .ref k31, u32, .ref k33, u34, u35, .ref k36, .ref k37, .ref k38, .ref k39]), (k0, eI (ty 0) 1875 kf)] := hD
    refine b_if_eqT C 33 d_X9_whyTold_26 (by decide) (by decide) ?_
    refine lv_iconst (v := 1) hx hb d_X9_whyTold_33 (by decide) ?_
    exact ret_I (w := [(h0, eO 9 [.ref k0, .ref k1, .ref k2, .ref k3, u4, .ref k5, u6, u7, u8, u9, u10, u11, u12, u13, u14, u15, u16, u17, u18, .ref k19, .ref k20, .ref k21, .ref k22, .ref k23, u24, .ref k25, .ref k26, .ref k27, u28, u29, .ref k30, .ref k31, u32, .ref k33, u34, u35, .ref k36, .ref k37, .ref k38, .ref k39]), (k0, eI (ty 0) 1875 kf)]) C hP hD hS [0, 1] rfl rfl ⟨(Eq.symm (wB_1 ha hq_1).symm), rfl⟩ (by decide) (by decide) d_X9_whyTold_34
set_option maxHeartbeats 4000000 in
set_option maxRecDepth 100000 in
theorem c_mwtP1 (l : Launch) (D : va_G) (ty : Nat → ClassId) (h0 : Nat) (k0 : Nat) (k1 : Nat) (k2 : Nat) (k3 : Nat) (k5 : Nat) (k19 : Nat) (k20 : Nat) (k21 : Nat) (k22 : Nat) (k23 : Nat) (k25 : Nat) (k26 : Nat) (k27 : Nat) (k30 : Nat) (k31 : Nat) (k33 : Nat) (k36 : Nat) (k37 : Nat) (k38 : Nat) (k39 : Nat) (u4 : Value) (u6 : Value) (u7 : Value) (u8 : Value) (u9 : Value) (u10 : Value) (u11 : Value) (u12 : Value) (u13 : Value) (u14 : Value) (u15 : Value) (u16 : Value) (u17 : Value) (u18 : Value) (u24 : Value) (u28 : Value) (u29 : Value) (u32 : Value) (u34 : Value) (u35 : Value) (kf : Nat → Int32) (a : Nat) (hkf : KF kf) (ha : 1000 ≤ a) (ha2 : a < 2000) : CC l D ty ⟨"PinchedBillModel", "whyTold", "(J)I"⟩ prog_11_method_73_code 3 (some .int) 3 70 0 0 [.ref h0, .long (lN a)] [(h0, eO 9 [.ref k0, .ref k1, .ref k2, .ref k3, u4, .ref k5, u6, u7, u8, u9, u10, u11, u12, u13, u14, u15, u16, u17, u18, .ref k19, .ref k20, .ref k21, .ref k22, .ref k23, u24, .ref k25, .ref k26, .ref k27, u28, u29, .ref k30, .ref k31, u32, .ref k33, u34, u35, .ref k36, .ref k37, .ref k38, .ref k39]), (k0, eI (ty 0) 1875 kf)] (QI D ty (fun (r : Int32) (w : va_W) => 1 = r ∧ w = [(h0, eO 9 [.ref k0, .ref k1, .ref k2, .ref k3, u4, .ref k5, u6, u7, u8, u9, u10, u11, u12, u13, u14, u15, u16, u17, u18, .ref k19, .ref k20, .ref k21, .ref k22, .ref k23, u24, .ref k25, .ref k26, .ref k27, u28, u29, .ref k30, .ref k31, u32, .ref k33, u34, u35, .ref k36, .ref k37, .ref k38, .ref k39]), (k0, eI (ty 0) 1875 kf)])) := by
  refine CC_of (by decide) ?_
  intro p e s m below meth c A C hP hD hS
  obtain ⟨⟨hx, hb, hml, hown, hts⟩, hr, hlocks, hnm, hK, hE, hA, hZ⟩ := id C
  refine startW [.ref h0, .long (lN a)] 3 (nle rfl) (lv := [(0, .ref h0), (1, .long (lN a))]) rfl (fun ls hl => ?_)
  refine lv_lload_n hx hb d_X9_whyTold_0 rfl (lv_at hl 1 rfl) ?_
  refine lv_ldc2 hx hb hown (hts _ k_1921) d_X9_whyTold_1 ?_
  refine W.lcmp hx hb d_X9_whyTold_4 (topeq (z := 1) (lc_neg a rfl (by omega) (by decide)) ?_)
  refine b_if_neT C 10 d_X9_whyTold_5 (by decide) (by decide) ?_
  refine lv_lload_n hx hb d_X9_whyTold_10 rfl (lv_at hl 1 rfl) ?_
  refine lv_lconst (v := 0) hx hb d_X9_whyTold_11 (by decide) ?_
  refine lv_ldc2 hx hb hown (hts _ k_1852) d_X9_whyTold_12 ?_
  have ct_1 : Cut [(h0, eO 9 [.ref k0, .ref k1, .ref k2, .ref k3, u4, .ref k5, u6, u7, u8, u9, u10, u11, u12, u13, u14, u15, u16, u17, u18, .ref k19, .ref k20, .ref k21, .ref k22, .ref k23, u24, .ref k25, .ref k26, .ref k27, u28, u29, .ref k30, .ref k31, u32, .ref k33, u34, u35, .ref k36, .ref k37, .ref k38, .ref k39]), (k0, eI (ty 0) 1875 kf)] [] [(h0, eO 9 [.ref k0, .ref k1, .ref k2, .ref k3, u4, .ref k5, u6, u7, u8, u9, u10, u11, u12, u13, u14, u15, u16, u17, u18, .ref k19, .ref k20, .ref k21, .ref k22, .ref k23, u24, .ref k25, .ref k26, .ref k27, u28, u29, .ref k30, .ref k31, u32, .ref k33, u34, u35, .ref k36, .ref k37, .ref k38, .ref k39]), (k0, eI (ty 0) 1875 kf)] [] [0, 1] := ⟨rfl, rfl, rfl, rfl, by decide⟩
  refine cont_I C hP hD hS ct_1 (run_S (As := [.long (lN a), .long 0, .long 999]) (rest := []) C hP hD hS ct_1 (c_mwi l D ty (lN a) 0 999) kS_PinchedBillModel_140 rfl hl.1 rfl (nle rfl) d_X9_whyTold_15 ⟨by decide, by decide, by decide, by decide⟩) (fun r_3 w_4 H locs hw_2 hP hD hS => ?_)
  obtain ⟨rfl, rfl⟩ := hw_2
  have hP : va_P D vwCl [(h0, eO 9 [.ref k0, .ref k1, .ref k2, .ref k3, u4, .ref k5, u6, u7, u8, u9, u10, u11, u12, u13, u14, u15, u16, u17, u18, .ref k19, .ref k20, .ref k21, .ref k22, .ref k23, u24, .ref k25, .ref k26, .ref k27, u28, u29, .ref k30, .ref k31, u32, .ref k33, u34, u35, .ref k36, .ref k37, .ref k38, .ref k39]), (k0, eI (ty 0) 1875 kf)] H := hP
  have hD : va_D A [(h0, eO 9 [.ref k0, .ref k1, .ref k2, .ref k3, u4, .ref k5, u6, u7, u8, u9, u10, u11, u12, u13, u14, u15, u16, u17, u18, .ref k19, .ref k20, .ref k21, .ref k22, .ref k23, u24, .ref k25, .ref k26, .ref k27, u28, u29, .ref k30, .ref k31, u32, .ref k33, u34, u35, .ref k36, .ref k37, .ref k38, .ref k39]), (k0, eI (ty 0) 1875 kf)] := hD
  refine topeq (z := 0) (wiN_0 (a) 0 999 rfl rfl rfl (by omega) (by omega) (by omega) (by omega)) ?_
  refine b_if_eqT C 35 d_X9_whyTold_18 (by decide) (by decide) ?_
  refine lv_lload_n hx hb d_X9_whyTold_35 rfl (lv_at hl 1 rfl) ?_
  refine lv_ldc2 hx hb hown (hts _ k_1922) d_X9_whyTold_36 ?_
  refine lv_ldc2 hx hb hown (hts _ k_1923) d_X9_whyTold_39 ?_
  have ct_5 : Cut [(h0, eO 9 [.ref k0, .ref k1, .ref k2, .ref k3, u4, .ref k5, u6, u7, u8, u9, u10, u11, u12, u13, u14, u15, u16, u17, u18, .ref k19, .ref k20, .ref k21, .ref k22, .ref k23, u24, .ref k25, .ref k26, .ref k27, u28, u29, .ref k30, .ref k31, u32, .ref k33, u34, u35, .ref k36, .ref k37, .ref k38, .ref k39]), (k0, eI (ty 0) 1875 kf)] [] [(h0, eO 9 [.ref k0, .ref k1, .ref k2, .ref k3, u4, .ref k5, u6, u7, u8, u9, u10, u11, u12, u13, u14, u15, u16, u17, u18, .ref k19, .ref k20, .ref k21, .ref k22, .ref k23, u24, .ref k25, .ref k26, .ref k27, u28, u29, .ref k30, .ref k31, u32, .ref k33, u34, u35, .ref k36, .ref k37, .ref k38, .ref k39]), (k0, eI (ty 0) 1875 kf)] [] [0, 1] := ⟨rfl, rfl, rfl, rfl, by decide⟩
  refine cont_I C hP hD hS ct_5 (run_S (As := [.long (lN a), .long 1000, .long 1999]) (rest := []) C hP hD hS ct_5 (c_mwi l D ty (lN a) 1000 1999) kS_PinchedBillModel_140 rfl hl.1 rfl (nle rfl) d_X9_whyTold_42 ⟨by decide, by decide, by decide, by decide⟩) (fun r_7 w_8 H locs hw_6 hP hD hS => ?_)
  obtain ⟨rfl, rfl⟩ := hw_6
  have hP : va_P D vwCl [(h0, eO 9 [.ref k0, .ref k1, .ref k2, .ref k3, u4, .ref k5, u6, u7, u8, u9, u10, u11, u12, u13, u14, u15, u16, u17, u18, .ref k19, .ref k20, .ref k21, .ref k22, .ref k23, u24, .ref k25, .ref k26, .ref k27, u28, u29, .ref k30, .ref k31, u32, .ref k33, u34, u35, .ref k36, .ref k37, .ref k38, .ref k39]), (k0, eI (ty 0) 1875 kf)] H := hP
  have hD : va_D A [(h0, eO 9 [.ref k0, .ref k1, .ref k2, .ref k3, u4, .ref k5, u6, u7, u8, u9, u10, u11, u12, u13, u14, u15, u16, u17, u18, .ref k19, .ref k20, .ref k21, .ref k22, .ref k23, u24, .ref k25, .ref k26, .ref k27, u28, u29, .ref k30, .ref k31, u32, .ref k33, u34, u35, .ref k36, .ref k37, .ref k38, .ref k39]), (k0, eI (ty 0) 1875 kf)] := hD
  refine topeq (z := 1) (wiN_1 (a) 1000 1999 rfl rfl rfl (by omega) (by omega) (by omega)) ?_
  refine b_if_eqF C 59 d_X9_whyTold_45 (by decide) (by decide) ?_
  refine lv_aload_n hx hb d_X9_whyTold_48 rfl (lv_at hl 0 rfl) ?_
  refine lv_lload_n hx hb d_X9_whyTold_49 rfl (lv_at hl 1 rfl) ?_
  refine lv_ldc2 hx hb hown (hts _ k_1922) d_X9_whyTold_50 ?_
  refine lv_lsub hx hb d_X9_whyTold_53 ?_
  refine lv_iconst (v := 1) hx hb d_X9_whyTold_54 (by decide) ?_
  have ct_9 : Cut [(h0, eO 9 [.ref k0, .ref k1, .ref k2, .ref k3, u4, .ref k5, u6, u7, u8, u9, u10, u11, u12, u13, u14, u15, u16, u17, u18, .ref k19, .ref k20, .ref k21, .ref k22, .ref k23, u24, .ref k25, .ref k26, .ref k27, u28, u29, .ref k30, .ref k31, u32, .ref k33, u34, u35, .ref k36, .ref k37, .ref k38, .ref k39]), (k0, eI (ty 0) 1875 kf)] [(h0, eO 9 [.ref k0, .ref k1, .ref k2, .ref k3, u4, .ref k5, u6, u7, u8, u9, u10, u11, u12, u13, u14, u15, u16, u17, u18, .ref k19, .ref k20, .ref k21, .ref k22, .ref k23, u24, .ref k25, .ref k26, .ref k27, u28, u29, .ref k30, .ref k31, u32, .ref k33, u34, u35, .ref k36, .ref k37, .ref k38, .ref k39]), (k0, eI (ty 0) 1875 kf)] [] [0, 1] [] := ⟨rfl, rfl, rfl, rfl, by decide⟩
  refine cont_I C hP hD hS ct_9 (run_V (As := [.long ((lN a) - 1000), .int 1]) (rest := []) C hP hD hS ct_9 (c_mwm1 l D ty h0 k0 k1 k2 k3 k5 k19 k20 k21 k22 k23 k25 k26 k27 k30 k31 k33 k36 k37 k38 k39 u4 u6 u7 u8 u9 u10 u11 u12 u13 u14 u15 u16 u17 u18 u24 u28 u29 u32 u34 u35 kf ((lN a) - 1000) hkf) kV_PinchedBillModel_339 0 rfl rfl rfl rfl hl.1 rfl (nle rfl) d_X9_whyTold_55 ⟨by decide, by decide, by decide, by decide⟩) (fun r_11 w_12 H locs hw_10 hP hD hS => ?_)
  obtain ⟨rfl, rfl⟩ := hw_10
  have hP : va_P D vwCl [(h0, eO 9 [.ref k0, .ref k1, .ref k2, .ref k3, u4, .ref k5, u6, u7, u8, u9, u10, u11, u12, u13, u14, u15, u16, u17, u18, .ref k19, .ref k20, .ref k21, .ref k22, .ref k23, u24, .ref k25, .ref k26, .ref k27, u28, u29, .ref k30, .ref k31, u32, .ref k33, u34, u35, .ref k36, .ref k37, .ref k38, .ref k39]), (k0, eI (ty 0) 1875 kf)] H := hP
  have hD : va_D A [(h0, eO 9 [.ref k0, .ref k1, .ref k2, .ref k3, u4, .ref k5, u6, u7, u8, u9, u10, u11, u12, u13, u14, u15, u16, u17, u18, .ref k19, .ref k20, .ref k21, .ref k22, .ref k23, u24, .ref k25, .ref k26, .ref k27, u28, u29, .ref k30, .ref k31, u32, .ref k33, u34, u35, .ref k36, .ref k37, .ref k38, .ref k39]), (k0, eI (ty 0) 1875 kf)] := hD
  exact ret_I (w := [(h0, eO 9 [.ref k0, .ref k1, .ref k2, .ref k3, u4, .ref k5, u6, u7, u8, u9, u10, u11, u12, u13, u14, u15, u16, u17, u18, .ref k19, .ref k20, .ref k21, .ref k22, .ref k23, u24, .ref k25, .ref k26, .ref k27, u28, u29, .ref k30, .ref k31, u32, .ref k33, u34, u35, .ref k36, .ref k37, .ref k38, .ref k39]), (k0, eI (ty 0) 1875 kf)]) C hP hD hS [0, 1] rfl rfl ⟨rfl, rfl⟩ (by decide) (by decide) d_X9_whyTold_58
set_option maxHeartbeats 4000000 in
set_option maxRecDepth 100000 in
theorem c_mwtP2 (l : Launch) (D : va_G) (ty : Nat → ClassId) (h0 : Nat) (k0 : Nat) (k1 : Nat) (k2 : Nat) (k3 : Nat) (k5 : Nat) (k19 : Nat) (k20 : Nat) (k21 : Nat) (k22 : Nat) (k23 : Nat) (k25 : Nat) (k26 : Nat) (k27 : Nat) (k30 : Nat) (k31 : Nat) (k33 : Nat) (k36 : Nat) (k37 : Nat) (k38 : Nat) (k39 : Nat) (u4 : Value) (u6 : Value) (u7 : Value) (u8 : Value) (u9 : Value) (u10 : Value) (u11 : Value) (u12 : Value) (u13 : Value) (u14 : Value) (u15 : Value) (u16 : Value) (u17 : Value) (u18 : Value) (u24 : Value) (u28 : Value) (u29 : Value) (u32 : Value) (u34 : Value) (u35 : Value) (kf : Nat → Int32) (a : Nat) (hkf : KF kf) (ha : 2000 ≤ a) (ha2 : a < 3000) : CC l D ty ⟨"PinchedBillModel", "whyTold", "(J)I"⟩ prog_11_method_73_code 3 (some .int) 3 70 0 0 [.ref h0, .long (lN a)] [(h0, eO 9 [.ref k0, .ref k1, .ref k2, .ref k3, u4, .ref k5, u6, u7, u8, u9, u10, u11, u12, u13, u14, u15, u16, u17, u18, .ref k19, .ref k20, .ref k21, .ref k22, .ref k23, u24, .ref k25, .ref k26, .ref k27, u28, u29, .ref k30, .ref k31, u32, .ref k33, u34, u35, .ref k36, .ref k37, .ref k38, .ref k39]), (k0, eI (ty 0) 1875 kf)] (QI D ty (fun (r : Int32) (w : va_W) => 1 = r ∧ w = [(h0, eO 9 [.ref k0, .ref k1, .ref k2, .ref k3, u4, .ref k5, u6, u7, u8, u9, u10, u11, u12, u13, u14, u15, u16, u17, u18, .ref k19, .ref k20, .ref k21, .ref k22, .ref k23, u24, .ref k25, .ref k26, .ref k27, u28, u29, .ref k30, .ref k31, u32, .ref k33, u34, u35, .ref k36, .ref k37, .ref k38, .ref k39]), (k0, eI (ty 0) 1875 kf)])) := by
  refine CC_of (by decide) ?_
  intro p e s m below meth c A C hP hD hS
  obtain ⟨⟨hx, hb, hml, hown, hts⟩, hr, hlocks, hnm, hK, hE, hA, hZ⟩ := id C
  refine startW [.ref h0, .long (lN a)] 3 (nle rfl) (lv := [(0, .ref h0), (1, .long (lN a))]) rfl (fun ls hl => ?_)
  refine lv_lload_n hx hb d_X9_whyTold_0 rfl (lv_at hl 1 rfl) ?_
  refine lv_ldc2 hx hb hown (hts _ k_1921) d_X9_whyTold_1 ?_
  refine W.lcmp hx hb d_X9_whyTold_4 (topeq (z := 1) (lc_neg a rfl (by omega) (by decide)) ?_)
  refine b_if_neT C 10 d_X9_whyTold_5 (by decide) (by decide) ?_
  refine lv_lload_n hx hb d_X9_whyTold_10 rfl (lv_at hl 1 rfl) ?_
  refine lv_lconst (v := 0) hx hb d_X9_whyTold_11 (by decide) ?_
  refine lv_ldc2 hx hb hown (hts _ k_1852) d_X9_whyTold_12 ?_
  have ct_1 : Cut [(h0, eO 9 [.ref k0, .ref k1, .ref k2, .ref k3, u4, .ref k5, u6, u7, u8, u9, u10, u11, u12, u13, u14, u15, u16, u17, u18, .ref k19, .ref k20, .ref k21, .ref k22, .ref k23, u24, .ref k25, .ref k26, .ref k27, u28, u29, .ref k30, .ref k31, u32, .ref k33, u34, u35, .ref k36, .ref k37, .ref k38, .ref k39]), (k0, eI (ty 0) 1875 kf)] [] [(h0, eO 9 [.ref k0, .ref k1, .ref k2, .ref k3, u4, .ref k5, u6, u7, u8, u9, u10, u11, u12, u13, u14, u15, u16, u17, u18, .ref k19, .ref k20, .ref k21, .ref k22, .ref k23, u24, .ref k25, .ref k26, .ref k27, u28, u29, .ref k30, .ref k31, u32, .ref k33, u34, u35, .ref k36, .ref k37, .ref k38, .ref k39]), (k0, eI (ty 0) 1875 kf)] [] [0, 1] := ⟨rfl, rfl, rfl, rfl, by decide⟩
  refine cont_I C hP hD hS ct_1 (run_S (As := [.long (lN a), .long 0, .long 999]) (rest := []) C hP hD hS ct_1 (c_mwi l D ty (lN a) 0 999) kS_PinchedBillModel_140 rfl hl.1 rfl (nle rfl) d_X9_whyTold_15 ⟨by decide, by decide, by decide, by decide⟩) (fun r_3 w_4 H locs hw_2 hP hD hS => ?_)
  obtain ⟨rfl, rfl⟩ := hw_2
  have hP : va_P D vwCl [(h0, eO 9 [.ref k0, .ref k1, .ref k2, .ref k3, u4, .ref k5, u6, u7, u8, u9, u10, u11, u12, u13, u14, u15, u16, u17, u18, .ref k19, .ref k20, .ref k21, .ref k22, .ref k23, u24, .ref k25, .ref k26, .ref k27, u28, u29, .ref k30, .ref k31, u32, .ref k33, u34, u35, .ref k36, .ref k37, .ref k38, .ref k39]), (k0, eI (ty 0) 1875 kf)] H := hP
  have hD : va_D A [(h0, eO 9 [.ref k0, .ref k1, .ref k2, .ref k3, u4, .ref k5, u6, u7, u8, u9, u10, u11, u12, u13, u14, u15, u16, u17, u18, .ref k19, .ref k20, .ref k21, .ref k22, .ref k23, u24, .ref k25, .ref k26, .ref k27, u28, u29, .ref k30, .ref k31, u32, .ref k33, u34, u35, .ref k36, .ref k37, .ref k38, .ref k39]), (k0, eI (ty 0) 1875 kf)] := hD
  refine topeq (z := 0) (wiN_0 (a) 0 999 rfl rfl rfl (by omega) (by omega) (by omega) (by omega)) ?_
  refine b_if_eqT C 35 d_X9_whyTold_18 (by decide) (by decide) ?_
  refine lv_lload_n hx hb d_X9_whyTold_35 rfl (lv_at hl 1 rfl) ?_
  refine lv_ldc2 hx hb hown (hts _ k_1922) d_X9_whyTold_36 ?_
  refine lv_ldc2 hx hb hown (hts _ k_1923) d_X9_whyTold_39 ?_
  have ct_5 : Cut [(h0, eO 9 [.ref k0, .ref k1, .ref k2, .ref k3, u4, .ref k5, u6, u7, u8, u9, u10, u11, u12, u13, u14, u15, u16, u17, u18, .ref k19, .ref k20, .ref k21, .ref k22, .ref k23, u24, .ref k25, .ref k26, .ref k27, u28, u29, .ref k30, .ref k31, u32, .ref k33, u34, u35, .ref k36, .ref k37, .ref k38, .ref k39]), (k0, eI (ty 0) 1875 kf)] [] [(h0, eO 9 [.ref k0, .ref k1, .ref k2, .ref k3, u4, .ref k5, u6, u7, u8, u9, u10, u11, u12, u13, u14, u15, u16, u17, u18, .ref k19, .ref k20, .ref k21, .ref k22, .ref k23, u24, .ref k25, .ref k26, .ref k27, u28, u29, .ref k30, .ref k31, u32, .ref k33, u34, u35, .ref k36, .ref k37, .ref k38, .ref k39]), (k0, eI (ty 0) 1875 kf)] [] [0, 1] := ⟨rfl, rfl, rfl, rfl, by decide⟩
  refine cont_I C hP hD hS ct_5 (run_S (As := [.long (lN a), .long 1000, .long 1999]) (rest := []) C hP hD hS ct_5 (c_mwi l D ty (lN a) 1000 1999) kS_PinchedBillModel_140 rfl hl.1 rfl (nle rfl) d_X9_whyTold_42 ⟨by decide, by decide, by decide, by decide⟩) (fun r_7 w_8 H locs hw_6 hP hD hS => ?_)
  obtain ⟨rfl, rfl⟩ := hw_6
  have hP : va_P D vwCl [(h0, eO 9 [.ref k0, .ref k1, .ref k2, .ref k3, u4, .ref k5, u6, u7, u8, u9, u10, u11, u12, u13, u14, u15, u16, u17, u18, .ref k19, .ref k20, .ref k21, .ref k22, .ref k23, u24, .ref k25, .ref k26, .ref k27, u28, u29, .ref k30, .ref k31, u32, .ref k33, u34, u35, .ref k36, .ref k37, .ref k38, .ref k39]), (k0, eI (ty 0) 1875 kf)] H := hP
  have hD : va_D A [(h0, eO 9 [.ref k0, .ref k1, .ref k2, .ref k3, u4, .ref k5, u6, u7, u8, u9, u10, u11, u12, u13, u14, u15, u16, u17, u18, .ref k19, .ref k20, .ref k21, .ref k22, .ref k23, u24, .ref k25, .ref k26, .ref k27, u28, u29, .ref k30, .ref k31, u32, .ref k33, u34, u35, .ref k36, .ref k37, .ref k38, .ref k39]), (k0, eI (ty 0) 1875 kf)] := hD
  refine topeq (z := 0) (wiN_0 (a) 1000 1999 rfl rfl rfl (by omega) (by omega) (by omega) (by omega)) ?_
  refine b_if_eqT C 59 d_X9_whyTold_45 (by decide) (by decide) ?_
  refine lv_lload_n hx hb d_X9_whyTold_59 rfl (lv_at hl 1 rfl) ?_
  refine lv_ldc2 hx hb hown (hts _ k_1924) d_X9_whyTold_60 ?_
  refine lv_ldc2 hx hb hown (hts _ k_1925) d_X9_whyTold_63 ?_
  have ct_9 : Cut [(h0, eO 9 [.ref k0, .ref k1, .ref k2, .ref k3, u4, .ref k5, u6, u7, u8, u9, u10, u11, u12, u13, u14, u15, u16, u17, u18, .ref k19, .ref k20, .ref k21, .ref k22, .ref k23, u24, .ref k25, .ref k26, .ref k27, u28, u29, .ref k30, .ref k31, u32, .ref k33, u34, u35, .ref k36, .ref k37, .ref k38, .ref k39]), (k0, eI (ty 0) 1875 kf)] [] [(h0, eO 9 [.ref k0, .ref k1, .ref k2, .ref k3, u4, .ref k5, u6, u7, u8, u9, u10, u11, u12, u13, u14, u15, u16, u17, u18, .ref k19, .ref k20, .ref k21, .ref k22, .ref k23, u24, .ref k25, .ref k26, .ref k27, u28, u29, .ref k30, .ref k31, u32, .ref k33, u34, u35, .ref k36, .ref k37, .ref k38, .ref k39]), (k0, eI (ty 0) 1875 kf)] [] [0, 1] := ⟨rfl, rfl, rfl, rfl, by decide⟩
  refine cont_I C hP hD hS ct_9 (run_S (As := [.long (lN a), .long 2000, .long 2999]) (rest := []) C hP hD hS ct_9 (c_mwi l D ty (lN a) 2000 2999) kS_PinchedBillModel_140 rfl hl.1 rfl (nle rfl) d_X9_whyTold_66 ⟨by decide, by decide, by decide, by decide⟩) (fun r_11 w_12 H locs hw_10 hP hD hS => ?_)
  obtain ⟨rfl, rfl⟩ := hw_10
  have hP : va_P D vwCl [(h0, eO 9 [.ref k0, .ref k1, .ref k2, .ref k3, u4, .ref k5, u6, u7, u8, u9, u10, u11, u12, u13, u14, u15, u16, u17, u18, .ref k19, .ref k20, .ref k21, .ref k22, .ref k23, u24, .ref k25, .ref k26, .ref k27, u28, u29, .ref k30, .ref k31, u32, .ref k33, u34, u35, .ref k36, .ref k37, .ref k38, .ref k39]), (k0, eI (ty 0) 1875 kf)] H := hP
  have hD : va_D A [(h0, eO 9 [.ref k0, .ref k1, .ref k2, .ref k3, u4, .ref k5, u6, u7, u8, u9, u10, u11, u12, u13, u14, u15, u16, u17, u18, .ref k19, .ref k20, .ref k21, .ref k22, .ref k23, u24, .ref k25, .ref k26, .ref k27, u28, u29, .ref k30, .ref k31, u32, .ref k33, u34, u35, .ref k36, .ref k37, .ref k38, .ref k39]), (k0, eI (ty 0) 1875 kf)] := hD
  refine topeq (z := 1) (wiN_1 (a) 2000 2999 rfl rfl rfl (by omega) (by omega) (by omega)) ?_
  refine b_if_eqF C 85 d_X9_whyTold_69 (by decide) (by decide) ?_
  refine lv_aload_n hx hb d_X9_whyTold_72 rfl (lv_at hl 0 rfl) ?_
  refine lv_lload_n hx hb d_X9_whyTold_73 rfl (lv_at hl 1 rfl) ?_
  refine lv_ldc2 hx hb hown (hts _ k_1924) d_X9_whyTold_74 ?_
  refine lv_lsub hx hb d_X9_whyTold_77 ?_
  refine lv_iconst (v := 0) hx hb d_X9_whyTold_78 (by decide) ?_
  have ct_13 : Cut [(h0, eO 9 [.ref k0, .ref k1, .ref k2, .ref k3, u4, .ref k5, u6, u7, u8, u9, u10, u11, u12, u13, u14, u15, u16, u17, u18, .ref k19, .ref k20, .ref k21, .ref k22, .ref k23, u24, .ref k25, .ref k26, .ref k27, u28, u29, .ref k30, .ref k31, u32, .ref k33, u34, u35, .ref k36, .ref k37, .ref k38, .ref k39]), (k0, eI (ty 0) 1875 kf)] [(h0, eO 9 [.ref k0, .ref k1, .ref k2, .ref k3, u4, .ref k5, u6, u7, u8, u9, u10, u11, u12, u13, u14, u15, u16, u17, u18, .ref k19, .ref k20, .ref k21, .ref k22, .ref k23, u24, .ref k25, .ref k26, .ref k27, u28, u29, .ref k30, .ref k31, u32, .ref k33, u34, u35, .ref k36, .ref k37, .ref k38, .ref k39]), (k0, eI (ty 0) 1875 kf)] [] [0, 1] [] := ⟨rfl, rfl, rfl, rfl, by decide⟩
  refine cont_I C hP hD hS ct_13 (run_V (As := [.long ((lN a) - 2000), .int 0]) (rest := []) C hP hD hS ct_13 (c_mwm0 l D ty h0 k0 k1 k2 k3 k5 k19 k20 k21 k22 k23 k25 k26 k27 k30 k31 k33 k36 k37 k38 k39 u4 u6 u7 u8 u9 u10 u11 u12 u13 u14 u15 u16 u17 u18 u24 u28 u29 u32 u34 u35 kf ((lN a) - 2000) hkf) kV_PinchedBillModel_339 0 rfl rfl rfl rfl hl.1 rfl (nle rfl) d_X9_whyTold_79 ⟨by decide, by decide, by decide, by decide⟩) (fun r_15 w_16 H locs hw_14 hP hD hS => ?_)
  obtain ⟨rfl, rfl⟩ := hw_14
  have hP : va_P D vwCl [(h0, eO 9 [.ref k0, .ref k1, .ref k2, .ref k3, u4, .ref k5, u6, u7, u8, u9, u10, u11, u12, u13, u14, u15, u16, u17, u18, .ref k19, .ref k20, .ref k21, .ref k22, .ref k23, u24, .ref k25, .ref k26, .ref k27, u28, u29, .ref k30, .ref k31, u32, .ref k33, u34, u35, .ref k36, .ref k37, .ref k38, .ref k39]), (k0, eI (ty 0) 1875 kf)] H := hP
  have hD : va_D A [(h0, eO 9 [.ref k0, .ref k1, .ref k2, .ref k3, u4, .ref k5, u6, u7, u8, u9, u10, u11, u12, u13, u14, u15, u16, u17, u18, .ref k19, .ref k20, .ref k21, .ref k22, .ref k23, u24, .ref k25, .ref k26, .ref k27, u28, u29, .ref k30, .ref k31, u32, .ref k33, u34, u35, .ref k36, .ref k37, .ref k38, .ref k39]), (k0, eI (ty 0) 1875 kf)] := hD
  refine lv_goto (tgt := 86) hx hb d_X9_whyTold_82 (by decide) ?_
  exact ret_I (w := [(h0, eO 9 [.ref k0, .ref k1, .ref k2, .ref k3, u4, .ref k5, u6, u7, u8, u9, u10, u11, u12, u13, u14, u15, u16, u17, u18, .ref k19, .ref k20, .ref k21, .ref k22, .ref k23, u24, .ref k25, .ref k26, .ref k27, u28, u29, .ref k30, .ref k31, u32, .ref k33, u34, u35, .ref k36, .ref k37, .ref k38, .ref k39]), (k0, eI (ty 0) 1875 kf)]) C hP hD hS [0, 1] rfl rfl ⟨rfl, rfl⟩ (by decide) (by decide) d_X9_whyTold_86
set_option maxHeartbeats 4000000 in
set_option maxRecDepth 100000 in
theorem c_mdoesM (l : Launch) (D : va_G) (ty : Nat → ClassId) (h0 : Nat) (k0 : Nat) (k1 : Nat) (k2 : Nat) (k3 : Nat) (k5 : Nat) (k19 : Nat) (k20 : Nat) (k21 : Nat) (k22 : Nat) (k23 : Nat) (k25 : Nat) (k26 : Nat) (k27 : Nat) (k30 : Nat) (k31 : Nat) (k33 : Nat) (k36 : Nat) (k37 : Nat) (k38 : Nat) (k39 : Nat) (u4 : Value) (u6 : Value) (u7 : Value) (u8 : Value) (u9 : Value) (u10 : Value) (u11 : Value) (u12 : Value) (u13 : Value) (u14 : Value) (u15 : Value) (u16 : Value) (u17 : Value) (u18 : Value) (u24 : Value) (u28 : Value) (u29 : Value) (u32 : Value) (u34 : Value) (u35 : Value) (kf : Nat → Int32) (b : Nat) (hkf : KF kf) (hbd : b < 1000) (hk6 : kf 6 = nI b) : CC l D ty ⟨"PinchedBillModel", "does", "(I)V"⟩ prog_11_method_74_code 2 none 3 66 0 0 [.ref h0, .int (-1)] [(h0, eO 9 [.ref k0, .ref k1, .ref k2, .ref k3, u4, .ref k5, u6, u7, u8, u9, u10, u11, u12, u13, u14, u15, u16, u17, u18, .ref k19, .ref k20, .ref k21, .ref k22, .ref k23, u24, .ref k25, .ref k26, .ref k27, u28, u29, .ref k30, .ref k31, u32, .ref k33, u34, u35, .ref k36, .ref k37, .ref k38, .ref k39]), (k0, eI (ty 0) 1875 kf), (k21, eI (ty 0) 1000 (fun _ => 0))] (QV D ty (fun (w : va_W) => w = [(h0, eO 9 [.ref k0, .ref k1, .ref k2, .ref k3, u4, .ref k5, u6, u7, u8, u9, u10, u11, u12, u13, u14, u15, u16, u17, u18, .ref k19, .ref k20, .ref k21, .ref k22, .ref k23, u24, .ref k25, .ref k26, .ref k27, u28, u29, .ref k30, .ref k31, u32, .ref k33, u34, u35, .ref k36, .ref k37, .ref k38, .ref k39]), (k0, eI (ty 0) 1875 kf), (k21, eI (ty 0) 1000 (fun _ => 0))])) := by
  refine CC_of (by decide) ?_
  intro p e s m below meth c A C hP hD hS
  obtain ⟨⟨hx, hb, hml, hown, hts⟩, hr, hlocks, hnm, hK, hE, hA, hZ⟩ := id C
  refine startW [.ref h0, .int (-1)] 2 (nle rfl) (lv := [(0, .ref h0), (1, .int (-1))]) rfl (fun ls hl => ?_)
  refine lv_iload_n hx hb d_X9_does_0 rfl (lv_at hl 1 rfl) ?_
  refine lv_iconst (v := (-1)) hx hb d_X9_does_1 (by decide) ?_
  refine b_icmp_neF C 13 d_X9_does_2 (by decide) (by decide) ?_
  refine lv_aload_n hx hb d_X9_does_5 rfl (lv_at hl 0 rfl) ?_
  have ct_1 : Cut [(h0, eO 9 [.ref k0, .ref k1, .ref k2, .ref k3, u4, .ref k5, u6, u7, u8, u9, u10, u11, u12, u13, u14, u15, u16, u17, u18, .ref k19, .ref k20, .ref k21, .ref k22, .ref k23, u24, .ref k25, .ref k26, .ref k27, u28, u29, .ref k30, .ref k31, u32, .ref k33, u34, u35, .ref k36, .ref k37, .ref k38, .ref k39]), (k0, eI (ty 0) 1875 kf), (k21, eI (ty 0) 1000 (fun _ => 0))] [(h0, eO 9 [.ref k0, .ref k1, .ref k2, .ref k3, u4, .ref k5, u6, u7, u8, u9, u10, u11, u12, u13, u14, u15, u16, u17, u18, .ref k19, .ref k20, .ref k21, .ref k22, .ref k23, u24, .ref k25, .ref k26, .ref k27, u28, u29, .ref k30, .ref k31, u32, .ref k33, u34, u35, .ref k36, .ref k37, .ref k38, .ref k39]), (k0, eI (ty 0) 1875 kf), (k21, eI (ty 0) 1000 (fun _ => 0))] [] [0, 1, 2] [] := ⟨rfl, rfl, rfl, rfl, by decide⟩
  refine cont_I C hP hD hS ct_1 (run_V (As := []) (rest := []) C hP hD hS ct_1 (c_mgs l D ty h0 k0 k1 k2 k3 k5 k19 k20 k21 k22 k23 k25 k26 k27 k30 k31 k33 k36 k37 k38 k39 u4 u6 u7 u8 u9 u10 u11 u12 u13 u14 u15 u16 u17 u18 u24 u28 u29 u32 u34 u35 kf b hkf hbd hk6) kV_PinchedBillModel_332 0 rfl rfl rfl rfl hl.1 rfl (nle rfl) d_X9_does_6 ⟨by decide, by decide, by decide, by decide⟩) (fun r_3 w_4 H locs hw_2 hP hD hS => ?_)
  obtain ⟨rfl, rfl⟩ := hw_2
  have hP : va_P D vwCl [(h0, eO 9 [.ref k0, .ref k1, .ref k2, .ref k3, u4, .ref k5, u6, u7, u8, u9, u10, u11, u12, u13, u14, u15, u16, u17, u18, .ref k19, .ref k20, .ref k21, .ref k22, .ref k23, u24, .ref k25, .ref k26, .ref k27, u28, u29, .ref k30, .ref k31, u32, .ref k33, u34, u35, .ref k36, .ref k37, .ref k38, .ref k39]), (k0, eI (ty 0) 1875 kf), (k21, eI (ty 0) 1000 (fun _ => 0))] H := hP
  have hD : va_D A [(h0, eO 9 [.ref k0, .ref k1, .ref k2, .ref k3, u4, .ref k5, u6, u7, u8, u9, u10, u11, u12, u13, u14, u15, u16, u17, u18, .ref k19, .ref k20, .ref k21, .ref k22, .ref k23, u24, .ref k25, .ref k26, .ref k27, u28, u29, .ref k30, .ref k31, u32, .ref k33, u34, u35, .ref k36, .ref k37, .ref k38, .ref k39]), (k0, eI (ty 0) 1875 kf), (k21, eI (ty 0) 1000 (fun _ => 0))] := hD
  refine lv_pop hx hb d_X9_does_9 rfl ?_
  refine lv_goto (tgt := 45) hx hb d_X9_does_10 (by decide) ?_
  exact ret_V (w := [(h0, eO 9 [.ref k0, .ref k1, .ref k2, .ref k3, u4, .ref k5, u6, u7, u8, u9, u10, u11, u12, u13, u14, u15, u16, u17, u18, .ref k19, .ref k20, .ref k21, .ref k22, .ref k23, u24, .ref k25, .ref k26, .ref k27, u28, u29, .ref k30, .ref k31, u32, .ref k33, u34, u35, .ref k36, .ref k37, .ref k38, .ref k39]), (k0, eI (ty 0) 1875 kf), (k21, eI (ty 0) 1000 (fun _ => 0))]) C hP hD hS [0, 1, 2] rfl rfl rfl (by decide) (by decide) d_X9_does_45
set_option maxHeartbeats 4000000 in
set_option maxRecDepth 100000 in
theorem c_mdoesB (l : Launch) (D : va_G) (ty : Nat → ClassId) (h0 : Nat) (k0 : Nat) (k1 : Nat) (k2 : Nat) (k3 : Nat) (k5 : Nat) (k19 : Nat) (k20 : Nat) (k21 : Nat) (k22 : Nat) (k23 : Nat) (k25 : Nat) (k26 : Nat) (k27 : Nat) (k30 : Nat) (k31 : Nat) (k33 : Nat) (k36 : Nat) (k37 : Nat) (k38 : Nat) (k39 : Nat) (u4 : Value) (u6 : Value) (u7 : Value) (u8 : Value) (u9 : Value) (u10 : Value) (u11 : Value) (u12 : Value) (u13 : Value) (u14 : Value) (u15 : Value) (u16 : Value) (u17 : Value) (u18 : Value) (u24 : Value) (u28 : Value) (u29 : Value) (u32 : Value) (u34 : Value) (u35 : Value) (kf : Nat → Int32) (d : Nat) (a : Nat) (hkf : KF kf) (hk5 : kf 5 = nI d) (ha : a < 1000) : CC l D ty ⟨"PinchedBillModel", "does", "(I)V"⟩ prog_11_method_74_code 2 none 1 21 0 0 [.ref h0, .int (nI a)] [(h0, eO 9 [.ref k0, .ref k1, .ref k2, .ref k3, u4, .ref k5, u6, u7, u8, u9, u10, u11, u12, u13, u14, u15, u16, u17, u18, .ref k19, .ref k20, .ref k21, .ref k22, .ref k23, u24, .ref k25, .ref k26, .ref k27, u28, u29, .ref k30, .ref k31, u32, .ref k33, u34, u35, .ref k36, .ref k37, .ref k38, .ref k39]), (k0, eI (ty 0) 1875 kf)] (QV D ty (fun (w : va_W) => ∃ (kf9 : Nat → Int32), (KF kf9) ∧ (kf9 5 = nI d) ∧ (kf9 6 = nI a) ∧ w = [(h0, eO 9 [.ref k0, .ref k1, .ref k2, .ref k3, u4, .ref k5, u6, u7, u8, u9, u10, u11, u12, u13, u14, u15, u16, u17, u18, .ref k19, .ref k20, .ref k21, .ref k22, .ref k23, u24, .ref k25, .ref k26, .ref k27, u28, u29, .ref k30, .ref k31, u32, .ref k33, u34, u35, .ref k36, .ref k37, .ref k38, .ref k39]), (k0, eI (ty 0) 1875 kf9)])) := by
  refine CC_of (by decide) ?_
  intro p e s m below meth c A C hP hD hS
  obtain ⟨⟨hx, hb, hml, hown, hts⟩, hr, hlocks, hnm, hK, hE, hA, hZ⟩ := id C
  refine startW [.ref h0, .int (nI a)] 2 (nle rfl) (lv := [(0, .ref h0), (1, .int (nI a))]) rfl (fun ls hl => ?_)
  refine lv_iload_n hx hb d_X9_does_0 rfl (lv_at hl 1 rfl) ?_
  refine lv_iconst (v := (-1)) hx hb d_X9_does_1 (by decide) ?_
  refine b_icmp_neT C 13 d_X9_does_2 (by decide) (n_neneg a rfl (by omega) (by decide)) ?_
  refine lv_iload_n hx hb d_X9_does_13 rfl (lv_at hl 1 rfl) ?_
  refine lv_sipush (v := 1000) hx hb d_X9_does_14 (by decide) ?_
  refine b_icmp_geF C 28 d_X9_does_17 (by decide) (n_nle 1000 a rfl rfl (by omega) (by omega)) ?_
  refine lv_aload_n hx hb d_X9_does_20 rfl (lv_at hl 0 rfl) ?_
  refine lv_iload_n hx hb d_X9_does_21 rfl (lv_at hl 1 rfl) ?_
  have ct_1 : Cut [(h0, eO 9 [.ref k0, .ref k1, .ref k2, .ref k3, u4, .ref k5, u6, u7, u8, u9, u10, u11, u12, u13, u14, u15, u16, u17, u18, .ref k19, .ref k20, .ref k21, .ref k22, .ref k23, u24, .ref k25, .ref k26, .ref k27, u28, u29, .ref k30, .ref k31, u32, .ref k33, u34, u35, .ref k36, .ref k37, .ref k38, .ref k39]), (k0, eI (ty 0) 1875 kf)] [(h0, eO 9 [.ref k0, .ref k1, .ref k2, .ref k3, u4, .ref k5, u6, u7, u8, u9, u10, u11, u12, u13, u14, u15, u16, u17, u18, .ref k19, .ref k20, .ref k21, .ref k22, .ref k23, u24, .ref k25, .ref k26, .ref k27, u28, u29, .ref k30, .ref k31, u32, .ref k33, u34, u35, .ref k36, .ref k37, .ref k38, .ref k39]), (k0, eI (ty 0) 1875 kf)] [] [0, 1] [] := ⟨rfl, rfl, rfl, rfl, by decide⟩
  refine cont_V C hP hD hS ct_1 (run_V (As := [.int (nI a)]) (rest := []) C hP hD hS ct_1 (c_mdft l D ty h0 k0 k1 k2 k3 k5 k19 k20 k21 k22 k23 k25 k26 k27 k30 k31 k33 k36 k37 k38 k39 u4 u6 u7 u8 u9 u10 u11 u12 u13 u14 u15 u16 u17 u18 u24 u28 u29 u32 u34 u35 kf d a hkf hk5) kV_PinchedBillModel_336 0 rfl rfl rfl rfl hl.1 rfl (nle rfl) d_X9_does_22 ⟨by decide, by decide, by decide, by decide⟩) (fun w_5 H locs hw_3 hP hD hS => ?_)
  obtain ⟨kf9_2, hkf9_6, hk59_7, hk69_8, rfl⟩ := hw_3
  have hP : va_P D vwCl [(h0, eO 9 [.ref k0, .ref k1, .ref k2, .ref k3, u4, .ref k5, u6, u7, u8, u9, u10, u11, u12, u13, u14, u15, u16, u17, u18, .ref k19, .ref k20, .ref k21, .ref k22, .ref k23, u24, .ref k25, .ref k26, .ref k27, u28, u29, .ref k30, .ref k31, u32, .ref k33, u34, u35, .ref k36, .ref k37, .ref k38, .ref k39]), (k0, eI (ty 0) 1875 kf9_2)] H := hP
  have hD : va_D A [(h0, eO 9 [.ref k0, .ref k1, .ref k2, .ref k3, u4, .ref k5, u6, u7, u8, u9, u10, u11, u12, u13, u14, u15, u16, u17, u18, .ref k19, .ref k20, .ref k21, .ref k22, .ref k23, u24, .ref k25, .ref k26, .ref k27, u28, u29, .ref k30, .ref k31, u32, .ref k33, u34, u35, .ref k36, .ref k37, .ref k38, .ref k39]), (k0, eI (ty 0) 1875 kf9_2)] := hD
  refine lv_goto (tgt := 45) hx hb d_X9_does_25 (by decide) ?_
  exact ret_V (w := [(h0, eO 9 [.ref k0, .ref k1, .ref k2, .ref k3, u4, .ref k5, u6, u7, u8, u9, u10, u11, u12, u13, u14, u15, u16, u17, u18, .ref k19, .ref k20, .ref k21, .ref k22, .ref k23, u24, .ref k25, .ref k26, .ref k27, u28, u29, .ref k30, .ref k31, u32, .ref k33, u34, u35, .ref k36, .ref k37, .ref k38, .ref k39]), (k0, eI (ty 0) 1875 kf9_2)]) C hP hD hS [0, 1] rfl rfl ⟨kf9_2, hkf9_6, hk59_7, hk69_8, rfl⟩ (by decide) (by decide) d_X9_does_45
set_option maxHeartbeats 4000000 in
set_option maxRecDepth 100000 in
theorem c_mdraw (l : Launch) (D : va_G) (ty : Nat → ClassId) (h0 : Nat) (k0 : Nat) (k1 : Nat) (k2 : Nat) (k3 : Nat) (k5 : Nat) (k19 : Nat) (k20 : Nat) (k21 : Nat) (k22 : Nat) (k23 : Nat) (k25 : Nat) (k26 : Nat) (k27 : Nat) (k30 : Nat) (k31 : Nat) (k33 : Nat) (k36 : Nat) (k37 : Nat) (k38 : Nat) (k39 : Nat) (u4 : Value) (u6 : Value) (u7 : Value) (u8 : Value) (u9 : Value) (u10 : Value) (u11 : Value) (u12 : Value) (u13 : Value) (u14 : Value) (u15 : Value) (u16 : Value) (u17 : Value) (u18 : Value) (u28 : Value) (u29 : Value) (u32 : Value) (u34 : Value) (u35 : Value) (x : Int32) (mm : Nat) (hm0 : 0 < mm) (hm1 : mm < 100000) : CC l D ty ⟨"PinchedBillModel", "draw", "(I)I"⟩ prog_11_method_77_code 2 (some .int) 0 0 0 0 [.ref h0, .int (nI mm)] [(h0, eO 9 [.ref k0, .ref k1, .ref k2, .ref k3, u4, .ref k5, u6, u7, u8, u9, u10, u11, u12, u13, u14, u15, u16, u17, u18, .ref k19, .ref k20, .ref k21, .ref k22, .ref k23, .int x, .ref k25, .ref k26, .ref k27, u28, u29, .ref k30, .ref k31, u32, .ref k33, u34, u35, .ref k36, .ref k37, .ref k38, .ref k39])] (QI D ty (fun (r : Int32) (w : va_W) => (nI ((wd (wx x)) % mm)) = r ∧ w = [(h0, eO 9 [.ref k0, .ref k1, .ref k2, .ref k3, u4, .ref k5, u6, u7, u8, u9, u10, u11, u12, u13, u14, u15, u16, u17, u18, .ref k19, .ref k20, .ref k21, .ref k22, .ref k23, .int (wx x), .ref k25, .ref k26, .ref k27, u28, u29, .ref k30, .ref k31, u32, .ref k33, u34, u35, .ref k36, .ref k37, .ref k38, .ref k39])])) := by
  refine CC_of (by decide) ?_
  intro p e s m below meth c A C hP hD hS
  obtain ⟨⟨hx, hb, hml, hown, hts⟩, hr, hlocks, hnm, hK, hE, hA, hZ⟩ := id C
  refine startW [.ref h0, .int (nI mm)] 2 (nle rfl) (lv := [(0, .ref h0), (1, .int (nI mm))]) rfl (fun ls hl => ?_)
  refine lv_aload_n hx hb d_X9_draw_0 rfl (lv_at hl 0 rfl) ?_
  refine lv_ldcw hx hb hown (hts _ k_1947) d_X9_draw_1 ?_
  refine lv_aload_n hx hb d_X9_draw_4 rfl (lv_at hl 0 rfl) ?_
  refine r_get (v := .int x) C hP 0 rfl rfl lay_X9 24 (by decide) k_1569 rfl d_X9_draw_5 ?_
  refine r_imul (z := (1103515245 * x)) C d_X9_draw_8 rfl ?_
  refine lv_sipush (v := 12345) hx hb d_X9_draw_9 (by decide) ?_
  refine r_iadd (z := ((1103515245 * x) + 12345)) C d_X9_draw_12 rfl ?_
  refine r_put (w := [(h0, eO 9 [.ref k0, .ref k1, .ref k2, .ref k3, u4, .ref k5, u6, u7, u8, u9, u10, u11, u12, u13, u14, u15, u16, u17, u18, .ref k19, .ref k20, .ref k21, .ref k22, .ref k23, .int ((1103515245 * x) + 12345), .ref k25, .ref k26, .ref k27, u28, u29, .ref k30, .ref k31, u32, .ref k33, u34, u35, .ref k36, .ref k37, .ref k38, .ref k39])]) C hP hD hS 0 rfl rfl lay_X9 tok_X9 nmo_X9 24 (by decide) k_1569 rfl rfl rfl (nle rfl) rfl d_X9_draw_13 (fun H locs hP hD hS => ?_)
  refine lv_aload_n hx hb d_X9_draw_16 rfl (lv_at hl 0 rfl) ?_
  refine r_get (v := .int ((1103515245 * x) + 12345)) C hP 0 rfl rfl lay_X9 24 (by decide) k_1569 rfl d_X9_draw_17 ?_
  refine lv_bipush (v := 16) hx hb d_X9_draw_20 (by decide) ?_
  have hwl := wd_lt (wx x)
  refine lv_iushr (v := (nI (wd (wx x)))) hx hb d_X9_draw_22 (us16 (wx x)) ?_
  refine lv_iload_n hx hb d_X9_draw_23 rfl (lv_at hl 1 rfl) ?_
  refine r_irem (z := (nI ((wd (wx x)) % mm))) C d_X9_draw_24 (n_ne mm 0 rfl rfl (by omega) (by omega) (by omega)) (a_rem (wd (wx x)) mm ((wd (wx x)) % mm) rfl rfl (by omega) (by omega) (by omega) rfl) ?_
  exact ret_I (w := [(h0, eO 9 [.ref k0, .ref k1, .ref k2, .ref k3, u4, .ref k5, u6, u7, u8, u9, u10, u11, u12, u13, u14, u15, u16, u17, u18, .ref k19, .ref k20, .ref k21, .ref k22, .ref k23, .int ((1103515245 * x) + 12345), .ref k25, .ref k26, .ref k27, u28, u29, .ref k30, .ref k31, u32, .ref k33, u34, u35, .ref k36, .ref k37, .ref k38, .ref k39])]) C hP hD hS [0] rfl rfl ⟨rfl, rfl⟩ (by decide) (by decide) d_X9_draw_25
set_option maxHeartbeats 4000000 in
set_option maxRecDepth 100000 in
theorem m_winterT (l : Launch) (D : va_G) (ty : Nat → ClassId) (h0 : Nat) (k0 : Nat) (k1 : Nat) (k2 : Nat) (k3 : Nat) (k5 : Nat) (k19 : Nat) (k20 : Nat) (k21 : Nat) (k22 : Nat) (k23 : Nat) (k25 : Nat) (k26 : Nat) (k27 : Nat) (k30 : Nat) (k31 : Nat) (k33 : Nat) (k36 : Nat) (k37 : Nat) (k38 : Nat) (k39 : Nat) (sd : Int32) (T : Nat) (hT : T < 31) (hT0 : 0 < T) : CC l D ty ⟨"PinchedBillModel", "winter", "(II)I"⟩ prog_11_method_78_code 7 (some .int) 4 92 0 0 [.ref h0, .int sd, .int (nI T)] [(h0, eO 9 [.ref k0, .ref k1, .ref k2, .ref k3, .int 0, .ref k5, .int 0, .int 0, .int 0, .int 0, .int 0, .int 0, .int 0, .int 0, .int 0, .int (-1), .int 0, .int 0, .int 0, .ref k19, .ref k20, .ref k21, .ref k22, .ref k23, .int 0, .ref k25, .ref k26, .ref k27, .int 0, .int 0, .ref k30, .ref k31, .int 0, .ref k33, .int 0, .int 0, .ref k36, .ref k37, .ref k38, .ref k39]), (k0, eI (ty 0) 1875 knF), (k21, eI (ty 0) 1000 (fun _ => 0))] (QI D ty (fun (r : Int32) (w : va_W) => ∃ (w6 : Value) (w7 : Value) (w8 : Value) (w9 : Value) (w10 : Value) (w11 : Value) (w12 : Value) (w13 : Value) (w14 : Value) (w15 : Value) (w16 : Value) (w17 : Value) (w18 : Value) (w24 : Value) (w28 : Value) (w29 : Value) (w32 : Value) (w34 : Value) (w35 : Value), (nI (wct T sd)) = r ∧ w = [(h0, eO 9 [.ref k0, .ref k1, .ref k2, .ref k3, .int 0, .ref k5, w6, w7, w8, w9, w10, w11, w12, w13, w14, w15, w16, w17, w18, .ref k19, .ref k20, .ref k21, .ref k22, .ref k23, w24, .ref k25, .ref k26, .ref k27, w28, w29, .ref k30, .ref k31, w32, .ref k33, w34, w35, .ref k36, .ref k37, .ref k38, .ref k39])])) := by
  refine CC_of (by decide) ?_
  intro p e s m below meth c A C hP hD hS
  obtain ⟨⟨hx, hb, hml, hown, hts⟩, hr, hlocks, hnm, hK, hE, hA, hZ⟩ := id C
  refine startW [.ref h0, .int sd, .int (nI T)] 7 (nle rfl) (lv := [(0, .ref h0), (1, .int sd), (2, .int (nI T))]) rfl (fun ls hl => ?_)
  refine lv_aload_n hx hb d_X9_winter_0 rfl (lv_at hl 0 rfl) ?_
  refine lv_iconst (v := 0) hx hb d_X9_winter_1 (by decide) ?_
  refine r_put (w := [(h0, eO 9 [.ref k0, .ref k1, .ref k2, .ref k3, .int 0, .ref k5, .int 0, .int 0, .int 0, .int 0, .int 0, .int 0, .int 0, .int 0, .int 0, .int (-1), .int 0, .int 0, .int 0, .ref k19, .ref k20, .ref k21, .ref k22, .ref k23, .int 0, .ref k25, .ref k26, .ref k27, .int 0, .int 0, .ref k30, .ref k31, .int 0, .ref k33, .int 0, .int 0, .ref k36, .ref k37, .ref k38, .ref k39]), (k0, eI (ty 0) 1875 knF), (k21, eI (ty 0) 1000 (fun _ => 0))]) C hP hD hS 0 rfl rfl lay_X9 tok_X9 nmo_X9 4 (by decide) k_1549 rfl rfl rfl (nle rfl) rfl d_X9_winter_2 (fun H locs hP hD hS => ?_)
  refine lv_iload_n hx hb d_X9_winter_5 rfl (lv_at hl 2 rfl) ?_
  refine lv_i2l (v := (lN T)) hx hb d_X9_winter_6 (nI_l (by omega)) ?_
  refine lv_lconst (v := 1) hx hb d_X9_winter_7 (by decide) ?_
  refine lv_ldc2 hx hb hown (hts _ k_1942) d_X9_winter_8 ?_
  have ct_1 : Cut [(h0, eO 9 [.ref k0, .ref k1, .ref k2, .ref k3, .int 0, .ref k5, .int 0, .int 0, .int 0, .int 0, .int 0, .int 0, .int 0, .int 0, .int 0, .int (-1), .int 0, .int 0, .int 0, .ref k19, .ref k20, .ref k21, .ref k22, .ref k23, .int 0, .ref k25, .ref k26, .ref k27, .int 0, .int 0, .ref k30, .ref k31, .int 0, .ref k33, .int 0, .int 0, .ref k36, .ref k37, .ref k38, .ref k39]), (k0, eI (ty 0) 1875 knF), (k21, eI (ty 0) 1000 (fun _ => 0))] [] [(h0, eO 9 [.ref k0, .ref k1, .ref k2, .ref k3, .int 0, .ref k5, .int 0, .int 0, .int 0, .int 0, .int 0, .int 0, .int 0, .int 0, .int 0, .int (-1), .int 0, .int 0, .int 0, .ref k19, .ref k20, .ref k21, .ref k22, .ref k23, .int 0, .ref k25, .ref k26, .ref k27, .int 0, .int 0, .ref k30, .ref k31, .int 0, .ref k33, .int 0, .int 0, .ref k36, .ref k37, .ref k38, .ref k39]), (k0, eI (ty 0) 1875 knF), (k21, eI (ty 0) 1000 (fun _ => 0))] [] [0, 1, 2] := ⟨rfl, rfl, rfl, rfl, by decide⟩
  refine cont_I C hP hD hS ct_1 (run_S (As := [.long (lN T), .long 1, .long 30]) (rest := []) C hP hD hS ct_1 (c_mwi l D ty (lN T) 1 30) kS_PinchedBillModel_140 rfl hl.1 rfl (nle rfl) d_X9_winter_11 ⟨by decide, by decide, by decide, by decide⟩) (fun r_3 w_4 H locs hw_2 hP hD hS => ?_)
  obtain ⟨rfl, rfl⟩ := hw_2
  have hP : va_P D vwCl [(h0, eO 9 [.ref k0, .ref k1, .ref k2, .ref k3, .int 0, .ref k5, .int 0, .int 0, .int 0, .int 0, .int 0, .int 0, .int 0, .int 0, .int 0, .int (-1), .int 0, .int 0, .int 0, .ref k19, .ref k20, .ref k21, .ref k22, .ref k23, .int 0, .ref k25, .ref k26, .ref k27, .int 0, .int 0, .ref k30, .ref k31, .int 0, .ref k33, .int 0, .int 0, .ref k36, .ref k37, .ref k38, .ref k39]), (k0, eI (ty 0) 1875 knF), (k21, eI (ty 0) 1000 (fun _ => 0))] H := hP
  have hD : va_D A [(h0, eO 9 [.ref k0, .ref k1, .ref k2, .ref k3, .int 0, .ref k5, .int 0, .int 0, .int 0, .int 0, .int 0, .int 0, .int 0, .int 0, .int 0, .int (-1), .int 0, .int 0, .int 0, .ref k19, .ref k20, .ref k21, .ref k22, .ref k23, .int 0, .ref k25, .ref k26, .ref k27, .int 0, .int 0, .ref k30, .ref k31, .int 0, .ref k33, .int 0, .int 0, .ref k36, .ref k37, .ref k38, .ref k39]), (k0, eI (ty 0) 1875 knF), (k21, eI (ty 0) 1000 (fun _ => 0))] := hD
  refine topeq (z := 1) (wiN_1 (T) 1 30 rfl rfl rfl (by omega) (by omega) (by omega)) ?_
  refine b_if_neT C 23 d_X9_winter_14 (by decide) (by decide) ?_
  refine lv_aload_n hx hb d_X9_winter_23 rfl (lv_at hl 0 rfl) ?_
  refine lv_iload_n hx hb d_X9_winter_24 rfl (lv_at hl 1 rfl) ?_
  refine r_put (w := [(h0, eO 9 [.ref k0, .ref k1, .ref k2, .ref k3, .int 0, .ref k5, .int 0, .int 0, .int 0, .int 0, .int 0, .int 0, .int 0, .int 0, .int 0, .int (-1), .int 0, .int 0, .int 0, .ref k19, .ref k20, .ref k21, .ref k22, .ref k23, .int sd, .ref k25, .ref k26, .ref k27, .int 0, .int 0, .ref k30, .ref k31, .int 0, .ref k33, .int 0, .int 0, .ref k36, .ref k37, .ref k38, .ref k39]), (k0, eI (ty 0) 1875 knF), (k21, eI (ty 0) 1000 (fun _ => 0))]) C hP hD hS 0 rfl rfl lay_X9 tok_X9 nmo_X9 24 (by decide) k_1569 rfl rfl rfl (nle rfl) rfl d_X9_winter_25 (fun H locs hP hD hS => ?_)
  refine lv_iconst (v := 0) hx hb d_X9_winter_28 (by decide) ?_
  refine lv_istore_n (lv' := [(3, .int 0), (0, .ref h0), (1, .int sd), (2, .int (nI T))]) hx hb d_X9_winter_29 rfl hl (by decide) rfl (fun ls hl => ?_)
  refine lv_iconst (v := 0) hx hb d_X9_winter_30 (by decide) ?_
  refine lv_istore (lv' := [(4, .int 0), (3, .int 0), (0, .ref h0), (1, .int sd), (2, .int (nI T))]) hx hb d_X9_winter_31 hl (by decide) rfl (fun ls hl => ?_)
  refine loopW7 (fun (i : Nat) (r9 : Nat) (k : Nat) (x : Int32) (kf : Nat → Int32) (d : Nat) (b : Nat) (H : Heap) (locs : List Loc) (ls : Array Slot) => (i + r9 = T) ∧ (k + wct r9 x = wct T sd) ∧ (KF kf) ∧ (kf 5 = nI d) ∧ (d < 11) ∧ (kf 6 = nI b) ∧ (b < 1000) ∧ va_P D vwCl [(h0, eO 9 [.ref k0, .ref k1, .ref k2, .ref k3, .int 0, .ref k5, .int 0, .int 0, .int 0, .int 0, .int 0, .int 0, .int 0, .int 0, .int 0, .int (-1), .int 0, .int 0, .int 0, .ref k19, .ref k20, .ref k21, .ref k22, .ref k23, .int x, .ref k25, .ref k26, .ref k27, .int 0, .int 0, .ref k30, .ref k31, .int 0, .ref k33, .int 0, .int 0, .ref k36, .ref k37, .ref k38, .ref k39]), (k0, eI (ty 0) 1875 kf), (k21, eI (ty 0) 1000 (fun _ => 0))] H ∧ va_D A [(h0, eO 9 [.ref k0, .ref k1, .ref k2, .ref k3, .int 0, .ref k5, .int 0, .int 0, .int 0, .int 0, .int 0, .int 0, .int 0, .int 0, .int 0, .int (-1), .int 0, .int 0, .int 0, .ref k19, .ref k20, .ref k21, .ref k22, .ref k23, .int x, .ref k25, .ref k26, .ref k27, .int 0, .int 0, .ref k30, .ref k31, .int 0, .ref k33, .int 0, .int 0, .ref k36, .ref k37, .ref k38, .ref k39]), (k0, eI (ty 0) 1875 kf), (k21, eI (ty 0) 1000 (fun _ => 0))] ∧ va_S A s.heap H locs ∧ lv_has ls 7 [(4, .int (nI i)), (3, .int (nI k)), (0, .ref h0), (1, .int sd), (2, .int (nI T))]) (fun (i : Nat) (r9 : Nat) (k : Nat) (x : Int32) (kf : Nat → Int32) (d : Nat) (b : Nat) => r9) ?_ 0 T 0 sd knF 0 0 ⟨(by omega), (Nat.zero_add _), KF_0, rfl, (by omega), rfl, (by omega), hP, hD, hS, lv_sub hl [0, 1, 2, 3, 4] rfl⟩
  intro i r9 k x kf d b H locs ls hI ih_5
  obtain ⟨hir, hkw, hkf, hk5, hd, hk6, hbd, hP, hD, hS, hl⟩ := hI
  refine lv_iload hx hb d_X9_winter_33 (lv_at hl 0 rfl) ?_
  refine lv_iload_n hx hb d_X9_winter_35 rfl (lv_at hl 4 rfl) ?_
  refine lv_icmp_ge (tgt := 121) hx hb d_X9_winter_36 (by decide) (fun hc_6 => ?_) (fun hc_6 => ?_)
  · have hc_6 := un_le T i rfl rfl (by omega) (by omega) hc_6
    obtain rfl : r9 = 0 := by omega
    refine lv_iload_n hx hb d_X9_winter_121 rfl (lv_at hl 1 rfl) ?_
    exact ret_I (w := [(h0, eO 9 [.ref k0, .ref k1, .ref k2, .ref k3, .int 0, .ref k5, .int 0, .int 0, .int 0, .int 0, .int 0, .int 0, .int 0, .int 0, .int 0, .int (-1), .int 0, .int 0, .int 0, .ref k19, .ref k20, .ref k21, .ref k22, .ref k23, .int x, .ref k25, .ref k26, .ref k27, .int 0, .int 0, .ref k30, .ref k31, .int 0, .ref k33, .int 0, .int 0, .ref k36, .ref k37, .ref k38, .ref k39])]) C hP hD hS [0] rfl rfl ⟨(.int 0), (.int 0), (.int 0), (.int 0), (.int 0), (.int 0), (.int 0), (.int 0), (.int 0), (.int (-1)), (.int 0), (.int 0), (.int 0), (.int x), (.int 0), (.int 0), (.int 0), (.int 0), (.int 0), (Eq.symm (by rw [← hkw]; rfl)), rfl⟩ (by decide) (by decide) d_X9_winter_122
  · have hc_6 := un_nle T i rfl rfl (by omega) (by omega) hc_6
    obtain ⟨r8, rfl⟩ : ∃ z : Nat, r9 = z + 1 := ⟨r9 - 1, by omega⟩
    rw [wct_s] at hkw
    refine lv_aload_n hx hb d_X9_winter_39 rfl (lv_at hl 2 rfl) ?_
    refine lv_iconst (v := 5) hx hb d_X9_winter_40 (by decide) ?_
    have ct_7 : Cut [(h0, eO 9 [.ref k0, .ref k1, .ref k2, .ref k3, .int 0, .ref k5, .int 0, .int 0, .int 0, .int 0, .int 0, .int 0, .int 0, .int 0, .int 0, .int (-1), .int 0, .int 0, .int 0, .ref k19, .ref k20, .ref k21, .ref k22, .ref k23, .int x, .ref k25, .ref k26, .ref k27, .int 0, .int 0, .ref k30, .ref k31, .int 0, .ref k33, .int 0, .int 0, .ref k36, .ref k37, .ref k38, .ref k39]), (k0, eI (ty 0) 1875 kf), (k21, eI (ty 0) 1000 (fun _ => 0))] [(h0, eO 9 [.ref k0, .ref k1, .ref k2, .ref k3, .int 0, .ref k5, .int 0, .int 0, .int 0, .int 0, .int 0, .int 0, .int 0, .int 0, .int 0, .int (-1), .int 0, .int 0, .int 0, .ref k19, .ref k20, .ref k21, .ref k22, .ref k23, .int x, .ref k25, .ref k26, .ref k27, .int 0, .int 0, .ref k30, .ref k31, .int 0, .ref k33, .int 0, .int 0, .ref k36, .ref k37, .ref k38, .ref k39])] [(k0, eI (ty 0) 1875 kf), (k21, eI (ty 0) 1000 (fun _ => 0))] [0] [1, 2] := ⟨rfl, rfl, rfl, rfl, by decide⟩
    refine cont_I C hP hD hS ct_7 (run_V (As := [.int 5]) (rest := []) C hP hD hS ct_7 (c_mdraw l D ty h0 k0 k1 k2 k3 k5 k19 k20 k21 k22 k23 k25 k26 k27 k30 k31 k33 k36 k37 k38 k39 (.int 0) (.int 0) (.int 0) (.int 0) (.int 0) (.int 0) (.int 0) (.int 0) (.int 0) (.int 0) (.int (-1)) (.int 0) (.int 0) (.int 0) (.int 0) (.int 0) (.int 0) (.int 0) (.int 0) x 5 (by omega) (by omega)) kV_PinchedBillModel_388 0 rfl rfl rfl rfl hl.1 rfl (nle rfl) d_X9_winter_41 ⟨by decide, by decide, by decide, by decide⟩) (fun r_9 w_10 H locs hw_8 hP hD hS => ?_)
    obtain ⟨rfl, rfl⟩ := hw_8
    have hP : va_P D vwCl [(k0, eI (ty 0) 1875 kf), (k21, eI (ty 0) 1000 (fun _ => 0)), (h0, eO 9 [.ref k0, .ref k1, .ref k2, .ref k3, .int 0, .ref k5, .int 0, .int 0, .int 0, .int 0, .int 0, .int 0, .int 0, .int 0, .int 0, .int (-1), .int 0, .int 0, .int 0, .ref k19, .ref k20, .ref k21, .ref k22, .ref k23, .int (wx x), .ref k25, .ref k26, .ref k27, .int 0, .int 0, .ref k30, .ref k31, .int 0, .ref k33, .int 0, .int 0, .ref k36, .ref k37, .ref k38, .ref k39])] H := hP
    have hD : va_D A [(k0, eI (ty 0) 1875 kf), (k21, eI (ty 0) 1000 (fun _ => 0)), (h0, eO 9 [.ref k0, .ref k1, .ref k2, .ref k3, .int 0, .ref k5, .int 0, .int 0, .int 0, .int 0, .int 0, .int 0, .int 0, .int 0, .int 0, .int (-1), .int 0, .int 0, .int 0, .ref k19, .ref k20, .ref k21, .ref k22, .ref k23, .int (wx x), .ref k25, .ref k26, .ref k27, .int 0, .int 0, .ref k30, .ref k31, .int 0, .ref k33, .int 0, .int 0, .ref k36, .ref k37, .ref k38, .ref k39])] := hD
    obtain ⟨wv_11, hwv_12⟩ : ∃ w9 : Nat, wd (wx x) = w9 := ⟨_, rfl⟩
    rw [hwv_12]
    have hlwv_11 : wv_11 < 65536 := hwv_12 ▸ wd_lt _
    refine lv_istore (lv' := [(5, .int (nI (wv_11 % 5))), (4, .int (nI i)), (3, .int (nI k)), (0, .ref h0), (1, .int sd), (2, .int (nI T))]) hx hb d_X9_winter_44 hl (by decide) rfl (fun ls hl => ?_)
    refine lv_iload hx hb d_X9_winter_46 (lv_at hl 0 rfl) ?_
    refine lv_iconst (v := 2) hx hb d_X9_winter_48 (by decide) ?_
    refine lv_icmp_ge (tgt := 56) hx hb d_X9_winter_49 (by decide) (fun hc_13 => ?_) (fun hc_13 => ?_)
    · have hc_13 := un_le 2 (wv_11 % 5) rfl rfl (by omega) (by omega) hc_13
      rcases (show (wv_11 % 5) = 2 ∨ (wv_11 % 5) = 3 ∨ (wv_11 % 5) = 4 by omega) with hso | hso | hso
      · rw [hso] at hl
        have hl : lv_has ls 7 [(5, .int 2), (4, .int (nI i)), (3, .int (nI k)), (0, .ref h0), (1, .int sd), (2, .int (nI T))] := hl
        refine lv_iload hx hb d_X9_winter_56 (lv_at hl 0 rfl) ?_
        refine lv_iconst (v := 2) hx hb d_X9_winter_58 (by decide) ?_
        refine b_icmp_neF C 72 d_X9_winter_59 (by decide) (by decide) ?_
        refine lv_aload_n hx hb d_X9_winter_62 rfl (lv_at hl 3 rfl) ?_
        refine lv_sipush (v := 1000) hx hb d_X9_winter_63 (by decide) ?_
        have ct_14 : Cut [(k0, eI (ty 0) 1875 kf), (k21, eI (ty 0) 1000 (fun _ => 0)), (h0, eO 9 [.ref k0, .ref k1, .ref k2, .ref k3, .int 0, .ref k5, .int 0, .int 0, .int 0, .int 0, .int 0, .int 0, .int 0, .int 0, .int 0, .int (-1), .int 0, .int 0, .int 0, .ref k19, .ref k20, .ref k21, .ref k22, .ref k23, .int (wx x), .ref k25, .ref k26, .ref k27, .int 0, .int 0, .ref k30, .ref k31, .int 0, .ref k33, .int 0, .int 0, .ref k36, .ref k37, .ref k38, .ref k39])] [(h0, eO 9 [.ref k0, .ref k1, .ref k2, .ref k3, .int 0, .ref k5, .int 0, .int 0, .int 0, .int 0, .int 0, .int 0, .int 0, .int 0, .int 0, .int (-1), .int 0, .int 0, .int 0, .ref k19, .ref k20, .ref k21, .ref k22, .ref k23, .int (wx x), .ref k25, .ref k26, .ref k27, .int 0, .int 0, .ref k30, .ref k31, .int 0, .ref k33, .int 0, .int 0, .ref k36, .ref k37, .ref k38, .ref k39])] [(k0, eI (ty 0) 1875 kf), (k21, eI (ty 0) 1000 (fun _ => 0))] [2] [0, 1] := ⟨rfl, rfl, rfl, rfl, by decide⟩
        refine cont_I C hP hD hS ct_14 (run_V (As := [.int 1000]) (rest := []) C hP hD hS ct_14 (c_mdraw l D ty h0 k0 k1 k2 k3 k5 k19 k20 k21 k22 k23 k25 k26 k27 k30 k31 k33 k36 k37 k38 k39 (.int 0) (.int 0) (.int 0) (.int 0) (.int 0) (.int 0) (.int 0) (.int 0) (.int 0) (.int 0) (.int (-1)) (.int 0) (.int 0) (.int 0) (.int 0) (.int 0) (.int 0) (.int 0) (.int 0) (wx x) 1000 (by omega) (by omega)) kV_PinchedBillModel_388 2 rfl rfl rfl rfl hl.1 rfl (nle rfl) d_X9_winter_66 ⟨by decide, by decide, by decide, by decide⟩) (fun r_16 w_17 H locs hw_15 hP hD hS => ?_)
        obtain ⟨rfl, rfl⟩ := hw_15
        have hP : va_P D vwCl [(k0, eI (ty 0) 1875 kf), (k21, eI (ty 0) 1000 (fun _ => 0)), (h0, eO 9 [.ref k0, .ref k1, .ref k2, .ref k3, .int 0, .ref k5, .int 0, .int 0, .int 0, .int 0, .int 0, .int 0, .int 0, .int 0, .int 0, .int (-1), .int 0, .int 0, .int 0, .ref k19, .ref k20, .ref k21, .ref k22, .ref k23, .int (wx (wx x)), .ref k25, .ref k26, .ref k27, .int 0, .int 0, .ref k30, .ref k31, .int 0, .ref k33, .int 0, .int 0, .ref k36, .ref k37, .ref k38, .ref k39])] H := hP
        have hD : va_D A [(k0, eI (ty 0) 1875 kf), (k21, eI (ty 0) 1000 (fun _ => 0)), (h0, eO 9 [.ref k0, .ref k1, .ref k2, .ref k3, .int 0, .ref k5, .int 0, .int 0, .int 0, .int 0, .int 0, .int 0, .int 0, .int 0, .int 0, .int (-1), .int 0, .int 0, .int 0, .ref k19, .ref k20, .ref k21, .ref k22, .ref k23, .int (wx (wx x)), .ref k25, .ref k26, .ref k27, .int 0, .int 0, .ref k30, .ref k31, .int 0, .ref k33, .int 0, .int 0, .ref k36, .ref k37, .ref k38, .ref k39])] := hD
        obtain ⟨wv_18, hwv_19⟩ : ∃ w9 : Nat, wd (wx (wx x)) = w9 := ⟨_, rfl⟩
        rw [hwv_19]
        have hlwv_18 : wv_18 < 65536 := hwv_19 ▸ wd_lt _
        refine lv_goto (tgt := 87) hx hb d_X9_winter_69 (by decide) ?_
        refine lv_istore (lv' := [(6, .int (nI (wv_18 % 1000))), (5, .int 2), (4, .int (nI i)), (3, .int (nI k)), (0, .ref h0), (1, .int sd), (2, .int (nI T))]) hx hb d_X9_winter_87 hl (by decide) rfl (fun ls hl => ?_)
        refine lv_aload_n hx hb d_X9_winter_89 rfl (lv_at hl 4 rfl) ?_
        refine lv_iload hx hb d_X9_winter_90 (lv_at hl 0 rfl) ?_
        refine lv_i2l (v := (lN (wv_18 % 1000))) hx hb d_X9_winter_92 (nI_l (by omega)) ?_
        have ct_20 : Cut [(k0, eI (ty 0) 1875 kf), (k21, eI (ty 0) 1000 (fun _ => 0)), (h0, eO 9 [.ref k0, .ref k1, .ref k2, .ref k3, .int 0, .ref k5, .int 0, .int 0, .int 0, .int 0, .int 0, .int 0, .int 0, .int 0, .int 0, .int (-1), .int 0, .int 0, .int 0, .ref k19, .ref k20, .ref k21, .ref k22, .ref k23, .int (wx (wx x)), .ref k25, .ref k26, .ref k27, .int 0, .int 0, .ref k30, .ref k31, .int 0, .ref k33, .int 0, .int 0, .ref k36, .ref k37, .ref k38, .ref k39])] [(h0, eO 9 [.ref k0, .ref k1, .ref k2, .ref k3, .int 0, .ref k5, .int 0, .int 0, .int 0, .int 0, .int 0, .int 0, .int 0, .int 0, .int 0, .int (-1), .int 0, .int 0, .int 0, .ref k19, .ref k20, .ref k21, .ref k22, .ref k23, .int (wx (wx x)), .ref k25, .ref k26, .ref k27, .int 0, .int 0, .ref k30, .ref k31, .int 0, .ref k33, .int 0, .int 0, .ref k36, .ref k37, .ref k38, .ref k39]), (k0, eI (ty 0) 1875 kf)] [(k21, eI (ty 0) 1000 (fun _ => 0))] [2, 0] [1] := ⟨rfl, rfl, rfl, rfl, by decide⟩
        refine cont_I C hP hD hS ct_20 (run_V (As := [.long (lN (wv_18 % 1000))]) (rest := []) C hP hD hS ct_20 (c_mwtB l D ty h0 k0 k1 k2 k3 k5 k19 k20 k21 k22 k23 k25 k26 k27 k30 k31 k33 k36 k37 k38 k39 (.int 0) (.int 0) (.int 0) (.int 0) (.int 0) (.int 0) (.int 0) (.int 0) (.int 0) (.int 0) (.int (-1)) (.int 0) (.int 0) (.int 0) (.int (wx (wx x))) (.int 0) (.int 0) (.int 0) (.int 0) (.int 0) kf (wv_18 % 1000) hkf (by omega)) kV_PinchedBillModel_373 2 rfl rfl rfl rfl hl.1 rfl (nle rfl) d_X9_winter_93 ⟨by decide, by decide, by decide, by decide⟩) (fun r_22 w_23 H locs hw_21 hP hD hS => ?_)
        obtain ⟨rfl, rfl⟩ := hw_21
        have hP : va_P D vwCl [(k21, eI (ty 0) 1000 (fun _ => 0)), (h0, eO 9 [.ref k0, .ref k1, .ref k2, .ref k3, .int 0, .ref k5, .int 0, .int 0, .int 0, .int 0, .int 0, .int 0, .int 0, .int 0, .int 0, .int (-1), .int 0, .int 0, .int 0, .ref k19, .ref k20, .ref k21, .ref k22, .ref k23, .int (wx (wx x)), .ref k25, .ref k26, .ref k27, .int 0, .int 0, .ref k30, .ref k31, .int 0, .ref k33, .int 0, .int 0, .ref k36, .ref k37, .ref k38, .ref k39]), (k0, eI (ty 0) 1875 kf)] H := hP
        have hD : va_D A [(k21, eI (ty 0) 1000 (fun _ => 0)), (h0, eO 9 [.ref k0, .ref k1, .ref k2, .ref k3, .int 0, .ref k5, .int 0, .int 0, .int 0, .int 0, .int 0, .int 0, .int 0, .int 0, .int 0, .int (-1), .int 0, .int 0, .int 0, .ref k19, .ref k20, .ref k21, .ref k22, .ref k23, .int (wx (wx x)), .ref k25, .ref k26, .ref k27, .int 0, .int 0, .ref k30, .ref k31, .int 0, .ref k33, .int 0, .int 0, .ref k36, .ref k37, .ref k38, .ref k39]), (k0, eI (ty 0) 1875 kf)] := hD
        refine lv_if_eq (tgt := 102) hx hb d_X9_winter_96 (by decide) (fun hc_24 => ?_) (fun hc_24 => ?_)
        · refine lv_aload_n hx hb d_X9_winter_102 rfl (lv_at hl 4 rfl) ?_
          have ct_25 : Cut [(k21, eI (ty 0) 1000 (fun _ => 0)), (h0, eO 9 [.ref k0, .ref k1, .ref k2, .ref k3, .int 0, .ref k5, .int 0, .int 0, .int 0, .int 0, .int 0, .int 0, .int 0, .int 0, .int 0, .int (-1), .int 0, .int 0, .int 0, .ref k19, .ref k20, .ref k21, .ref k22, .ref k23, .int (wx (wx x)), .ref k25, .ref k26, .ref k27, .int 0, .int 0, .ref k30, .ref k31, .int 0, .ref k33, .int 0, .int 0, .ref k36, .ref k37, .ref k38, .ref k39]), (k0, eI (ty 0) 1875 kf)] [(h0, eO 9 [.ref k0, .ref k1, .ref k2, .ref k3, .int 0, .ref k5, .int 0, .int 0, .int 0, .int 0, .int 0, .int 0, .int 0, .int 0, .int 0, .int (-1), .int 0, .int 0, .int 0, .ref k19, .ref k20, .ref k21, .ref k22, .ref k23, .int (wx (wx x)), .ref k25, .ref k26, .ref k27, .int 0, .int 0, .ref k30, .ref k31, .int 0, .ref k33, .int 0, .int 0, .ref k36, .ref k37, .ref k38, .ref k39]), (k0, eI (ty 0) 1875 kf)] [(k21, eI (ty 0) 1000 (fun _ => 0))] [1, 2] [0] := ⟨rfl, rfl, rfl, rfl, by decide⟩
          refine cont_V C hP hD hS ct_25 (run_V (As := []) (rest := []) C hP hD hS ct_25 (c_mkeeps l D ty h0 k0 k1 k2 k3 k5 k19 k20 k21 k22 k23 k25 k26 k27 k30 k31 k33 k36 k37 k38 k39 (.int 0) (.int 0) (.int 0) (.int 0) (.int 0) (.int 0) (.int 0) (.int 0) (.int 0) (.int 0) (.int (-1)) (.int 0) (.int 0) (.int 0) (.int (wx (wx x))) (.int 0) (.int 0) (.int 0) (.int 0) (.int 0) kf d b hkf hk5 hd hk6) kV_PinchedBillModel_329 1 rfl rfl rfl rfl hl.1 rfl (nle rfl) d_X9_winter_103 ⟨by decide, by decide, by decide, by decide⟩) (fun w_30 H locs hw_28 hP hD hS => ?_)
          obtain ⟨kf9_26, d9_27, hkf9_31, hk59_32, hd9_33, hk69_34, rfl⟩ := hw_28
          have hP : va_P D vwCl [(k21, eI (ty 0) 1000 (fun _ => 0)), (h0, eO 9 [.ref k0, .ref k1, .ref k2, .ref k3, .int 0, .ref k5, .int 0, .int 0, .int 0, .int 0, .int 0, .int 0, .int 0, .int 0, .int 0, .int (-1), .int 0, .int 0, .int 0, .ref k19, .ref k20, .ref k21, .ref k22, .ref k23, .int (wx (wx x)), .ref k25, .ref k26, .ref k27, .int 0, .int 0, .ref k30, .ref k31, .int 0, .ref k33, .int 0, .int 0, .ref k36, .ref k37, .ref k38, .ref k39]), (k0, eI (ty 0) 1875 kf9_26)] H := hP
          have hD : va_D A [(k21, eI (ty 0) 1000 (fun _ => 0)), (h0, eO 9 [.ref k0, .ref k1, .ref k2, .ref k3, .int 0, .ref k5, .int 0, .int 0, .int 0, .int 0, .int 0, .int 0, .int 0, .int 0, .int 0, .int (-1), .int 0, .int 0, .int 0, .ref k19, .ref k20, .ref k21, .ref k22, .ref k23, .int (wx (wx x)), .ref k25, .ref k26, .ref k27, .int 0, .int 0, .ref k30, .ref k31, .int 0, .ref k33, .int 0, .int 0, .ref k36, .ref k37, .ref k38, .ref k39]), (k0, eI (ty 0) 1875 kf9_26)] := hD
          refine lv_aload_n hx hb d_X9_winter_106 rfl (lv_at hl 4 rfl) ?_
          refine lv_iload hx hb d_X9_winter_107 (lv_at hl 0 rfl) ?_
          have ct_35 : Cut [(k21, eI (ty 0) 1000 (fun _ => 0)), (h0, eO 9 [.ref k0, .ref k1, .ref k2, .ref k3, .int 0, .ref k5, .int 0, .int 0, .int 0, .int 0, .int 0, .int 0, .int 0, .int 0, .int 0, .int (-1), .int 0, .int 0, .int 0, .ref k19, .ref k20, .ref k21, .ref k22, .ref k23, .int (wx (wx x)), .ref k25, .ref k26, .ref k27, .int 0, .int 0, .ref k30, .ref k31, .int 0, .ref k33, .int 0, .int 0, .ref k36, .ref k37, .ref k38, .ref k39]), (k0, eI (ty 0) 1875 kf9_26)] [(h0, eO 9 [.ref k0, .ref k1, .ref k2, .ref k3, .int 0, .ref k5, .int 0, .int 0, .int 0, .int 0, .int 0, .int 0, .int 0, .int 0, .int 0, .int (-1), .int 0, .int 0, .int 0, .ref k19, .ref k20, .ref k21, .ref k22, .ref k23, .int (wx (wx x)), .ref k25, .ref k26, .ref k27, .int 0, .int 0, .ref k30, .ref k31, .int 0, .ref k33, .int 0, .int 0, .ref k36, .ref k37, .ref k38, .ref k39]), (k0, eI (ty 0) 1875 kf9_26)] [(k21, eI (ty 0) 1000 (fun _ => 0))] [1, 2] [0] := ⟨rfl, rfl, rfl, rfl, by decide⟩
          refine cont_V C hP hD hS ct_35 (run_V (As := [.int (nI (wv_18 % 1000))]) (rest := []) C hP hD hS ct_35 (c_mdoesB l D ty h0 k0 k1 k2 k3 k5 k19 k20 k21 k22 k23 k25 k26 k27 k30 k31 k33 k36 k37 k38 k39 (.int 0) (.int 0) (.int 0) (.int 0) (.int 0) (.int 0) (.int 0) (.int 0) (.int 0) (.int 0) (.int (-1)) (.int 0) (.int 0) (.int 0) (.int (wx (wx x))) (.int 0) (.int 0) (.int 0) (.int 0) (.int 0) kf9_26 d9_27 (wv_18 % 1000) hkf9_31 hk59_32 (by omega)) kV_PinchedBillModel_376 1 rfl rfl rfl rfl hl.1 rfl (nle rfl) d_X9_winter_109 ⟨by decide, by decide, by decide, by decide⟩) (fun w_39 H locs hw_37 hP hD hS => ?_)
          obtain ⟨kf9_36, hkf9_40, hk59_41, hk69_42, rfl⟩ := hw_37
          have hP : va_P D vwCl [(k21, eI (ty 0) 1000 (fun _ => 0)), (h0, eO 9 [.ref k0, .ref k1, .ref k2, .ref k3, .int 0, .ref k5, .int 0, .int 0, .int 0, .int 0, .int 0, .int 0, .int 0, .int 0, .int 0, .int (-1), .int 0, .int 0, .int 0, .ref k19, .ref k20, .ref k21, .ref k22, .ref k23, .int (wx (wx x)), .ref k25, .ref k26, .ref k27, .int 0, .int 0, .ref k30, .ref k31, .int 0, .ref k33, .int 0, .int 0, .ref k36, .ref k37, .ref k38, .ref k39]), (k0, eI (ty 0) 1875 kf9_36)] H := hP
          have hD : va_D A [(k21, eI (ty 0) 1000 (fun _ => 0)), (h0, eO 9 [.ref k0, .ref k1, .ref k2, .ref k3, .int 0, .ref k5, .int 0, .int 0, .int 0, .int 0, .int 0, .int 0, .int 0, .int 0, .int 0, .int (-1), .int 0, .int 0, .int 0, .ref k19, .ref k20, .ref k21, .ref k22, .ref k23, .int (wx (wx x)), .ref k25, .ref k26, .ref k27, .int 0, .int 0, .ref k30, .ref k31, .int 0, .ref k33, .int 0, .int 0, .ref k36, .ref k37, .ref k38, .ref k39]), (k0, eI (ty 0) 1875 kf9_36)] := hD
          refine lv_iinc (v := (nI (k + 1))) (lv' := [(3, .int (nI (k + 1))), (6, .int (nI (wv_18 % 1000))), (5, .int 2), (4, .int (nI i)), (0, .ref h0), (1, .int sd), (2, .int (nI T))]) (k := 3) hx hb d_X9_winter_112 hl rfl (a_inc k 1 (k + 1) rfl rfl) (by decide) rfl (fun ls hl => ?_)
          refine lv_iinc (v := (nI (i + 1))) (lv' := [(4, .int (nI (i + 1))), (3, .int (nI (k + 1))), (6, .int (nI (wv_18 % 1000))), (5, .int 2), (0, .ref h0), (1, .int sd), (2, .int (nI T))]) (k := 3) hx hb d_X9_winter_115 hl rfl (a_inc i 1 (i + 1) rfl rfl) (by decide) rfl (fun ls hl => ?_)
          refine lv_goto (tgt := 33) hx hb d_X9_winter_118 (by decide) ?_
          exact ih_5 (i + 1) r8 (k + 1) (wx (wx x)) kf9_36 d9_27 (wv_18 % 1000) _ _ _ (by omega) ⟨(by omega), (by have h9 := winc_b hwv_12 hwv_19 hso; rw [h9.1, h9.2, wg_1 hc_24] at hkw; omega), hkf9_40, hk59_41, (by omega), hk69_42, (by omega), sub_P hP (is := [1, 2, 0]) rfl, hD.sub [1, 2, 0] (by decide) rfl, hS, lv_sub hl [0, 1, 4, 5, 6] rfl⟩
        · refine lv_goto (tgt := 115) hx hb d_X9_winter_99 (by decide) ?_
          refine lv_iinc (v := (nI (i + 1))) (lv' := [(4, .int (nI (i + 1))), (6, .int (nI (wv_18 % 1000))), (5, .int 2), (3, .int (nI k)), (0, .ref h0), (1, .int sd), (2, .int (nI T))]) (k := 2) hx hb d_X9_winter_115 hl rfl (a_inc i 1 (i + 1) rfl rfl) (by decide) rfl (fun ls hl => ?_)
          refine lv_goto (tgt := 33) hx hb d_X9_winter_118 (by decide) ?_
          exact ih_5 (i + 1) r8 k (wx (wx x)) kf d b _ _ _ (by omega) ⟨(by omega), (by have h9 := winc_b hwv_12 hwv_19 hso; rw [h9.1, h9.2, wg_0 hc_24] at hkw; omega), hkf, hk5, (by omega), hk6, (by omega), sub_P hP (is := [1, 2, 0]) rfl, hD.sub [1, 2, 0] (by decide) rfl, hS, lv_sub hl [0, 3, 4, 5, 6] rfl⟩
      · rw [hso] at hl
        have hl : lv_has ls 7 [(5, .int 3), (4, .int (nI i)), (3, .int (nI k)), (0, .ref h0), (1, .int sd), (2, .int (nI T))] := hl
        refine lv_iload hx hb d_X9_winter_56 (lv_at hl 0 rfl) ?_
        refine lv_iconst (v := 2) hx hb d_X9_winter_58 (by decide) ?_
        refine b_icmp_neT C 72 d_X9_winter_59 (by decide) (by decide) ?_
        refine lv_sipush (v := 1000) hx hb d_X9_winter_72 (by decide) ?_
        refine lv_iload hx hb d_X9_winter_75 (lv_at hl 0 rfl) ?_
        refine lv_iconst (v := 2) hx hb d_X9_winter_77 (by decide) ?_
        refine r_isub (z := 1) C d_X9_winter_78 (by decide) ?_
        refine r_imul (z := 1000) C d_X9_winter_79 (by decide) ?_
        refine lv_aload_n hx hb d_X9_winter_80 rfl (lv_at hl 3 rfl) ?_
        refine lv_bipush (v := 8) hx hb d_X9_winter_81 (by decide) ?_
        have ct_43 : Cut [(k0, eI (ty 0) 1875 kf), (k21, eI (ty 0) 1000 (fun _ => 0)), (h0, eO 9 [.ref k0, .ref k1, .ref k2, .ref k3, .int 0, .ref k5, .int 0, .int 0, .int 0, .int 0, .int 0, .int 0, .int 0, .int 0, .int 0, .int (-1), .int 0, .int 0, .int 0, .ref k19, .ref k20, .ref k21, .ref k22, .ref k23, .int (wx x), .ref k25, .ref k26, .ref k27, .int 0, .int 0, .ref k30, .ref k31, .int 0, .ref k33, .int 0, .int 0, .ref k36, .ref k37, .ref k38, .ref k39])] [(h0, eO 9 [.ref k0, .ref k1, .ref k2, .ref k3, .int 0, .ref k5, .int 0, .int 0, .int 0, .int 0, .int 0, .int 0, .int 0, .int 0, .int 0, .int (-1), .int 0, .int 0, .int 0, .ref k19, .ref k20, .ref k21, .ref k22, .ref k23, .int (wx x), .ref k25, .ref k26, .ref k27, .int 0, .int 0, .ref k30, .ref k31, .int 0, .ref k33, .int 0, .int 0, .ref k36, .ref k37, .ref k38, .ref k39])] [(k0, eI (ty 0) 1875 kf), (k21, eI (ty 0) 1000 (fun _ => 0))] [2] [0, 1] := ⟨rfl, rfl, rfl, rfl, by decide⟩
        refine cont_I C hP hD hS ct_43 (run_V (As := [.int 8]) (rest := [.int 1000]) C hP hD hS ct_43 (c_mdraw l D ty h0 k0 k1 k2 k3 k5 k19 k20 k21 k22 k23 k25 k26 k27 k30 k31 k33 k36 k37 k38 k39 (.int 0) (.int 0) (.int 0) (.int 0) (.int 0) (.int 0) (.int 0) (.int 0) (.int 0) (.int 0) (.int (-1)) (.int 0) (.int 0) (.int 0) (.int 0) (.int 0) (.int 0) (.int 0) (.int 0) (wx x) 8 (by omega) (by omega)) kV_PinchedBillModel_388 2 rfl rfl rfl rfl hl.1 rfl (nle rfl) d_X9_winter_83 ⟨by decide, by decide, by decide, by decide⟩) (fun r_45 w_46 H locs hw_44 hP hD hS => ?_)
        obtain ⟨rfl, rfl⟩ := hw_44
        have hP : va_P D vwCl [(k0, eI (ty 0) 1875 kf), (k21, eI (ty 0) 1000 (fun _ => 0)), (h0, eO 9 [.ref k0, .ref k1, .ref k2, .ref k3, .int 0, .ref k5, .int 0, .int 0, .int 0, .int 0, .int 0, .int 0, .int 0, .int 0, .int 0, .int (-1), .int 0, .int 0, .int 0, .ref k19, .ref k20, .ref k21, .ref k22, .ref k23, .int (wx (wx x)), .ref k25, .ref k26, .ref k27, .int 0, .int 0, .ref k30, .ref k31, .int 0, .ref k33, .int 0, .int 0, .ref k36, .ref k37, .ref k38, .ref k39])] H := hP
        have hD : va_D A [(k0, eI (ty 0) 1875 kf), (k21, eI (ty 0) 1000 (fun _ => 0)), (h0, eO 9 [.ref k0, .ref k1, .ref k2, .ref k3, .int 0, .ref k5, .int 0, .int 0, .int 0, .int 0, .int 0, .int 0, .int 0, .int 0, .int 0, .int (-1), .int 0, .int 0, .int 0, .ref k19, .ref k20, .ref k21, .ref k22, .ref k23, .int (wx (wx x)), .ref k25, .ref k26, .ref k27, .int 0, .int 0, .ref k30, .ref k31, .int 0, .ref k33, .int 0, .int 0, .ref k36, .ref k37, .ref k38, .ref k39])] := hD
        obtain ⟨wv_47, hwv_48⟩ : ∃ w9 : Nat, wd (wx (wx x)) = w9 := ⟨_, rfl⟩
        rw [hwv_48]
        have hlwv_47 : wv_47 < 65536 := hwv_48 ▸ wd_lt _
        refine r_iadd (z := (nI (1000 + (wv_47 % 8)))) C d_X9_winter_86 (a_add 1000 (wv_47 % 8) (1000 + (wv_47 % 8)) rfl rfl (by omega)) ?_
        refine lv_istore (lv' := [(6, .int (nI (1000 + (wv_47 % 8)))), (5, .int 3), (4, .int (nI i)), (3, .int (nI k)), (0, .ref h0), (1, .int sd), (2, .int (nI T))]) hx hb d_X9_winter_87 hl (by decide) rfl (fun ls hl => ?_)
        refine lv_aload_n hx hb d_X9_winter_89 rfl (lv_at hl 4 rfl) ?_
        refine lv_iload hx hb d_X9_winter_90 (lv_at hl 0 rfl) ?_
        refine lv_i2l (v := (lN (1000 + (wv_47 % 8)))) hx hb d_X9_winter_92 (nI_l (by omega)) ?_
        have ct_49 : Cut [(k0, eI (ty 0) 1875 kf), (k21, eI (ty 0) 1000 (fun _ => 0)), (h0, eO 9 [.ref k0, .ref k1, .ref k2, .ref k3, .int 0, .ref k5, .int 0, .int 0, .int 0, .int 0, .int 0, .int 0, .int 0, .int 0, .int 0, .int (-1), .int 0, .int 0, .int 0, .ref k19, .ref k20, .ref k21, .ref k22, .ref k23, .int (wx (wx x)), .ref k25, .ref k26, .ref k27, .int 0, .int 0, .ref k30, .ref k31, .int 0, .ref k33, .int 0, .int 0, .ref k36, .ref k37, .ref k38, .ref k39])] [(h0, eO 9 [.ref k0, .ref k1, .ref k2, .ref k3, .int 0, .ref k5, .int 0, .int 0, .int 0, .int 0, .int 0, .int 0, .int 0, .int 0, .int 0, .int (-1), .int 0, .int 0, .int 0, .ref k19, .ref k20, .ref k21, .ref k22, .ref k23, .int (wx (wx x)), .ref k25, .ref k26, .ref k27, .int 0, .int 0, .ref k30, .ref k31, .int 0, .ref k33, .int 0, .int 0, .ref k36, .ref k37, .ref k38, .ref k39]), (k0, eI (ty 0) 1875 kf)] [(k21, eI (ty 0) 1000 (fun _ => 0))] [2, 0] [1] := ⟨rfl, rfl, rfl, rfl, by decide⟩
        refine cont_I C hP hD hS ct_49 (run_V (As := [.long (lN (1000 + (wv_47 % 8)))]) (rest := []) C hP hD hS ct_49 (c_mwtP1 l D ty h0 k0 k1 k2 k3 k5 k19 k20 k21 k22 k23 k25 k26 k27 k30 k31 k33 k36 k37 k38 k39 (.int 0) (.int 0) (.int 0) (.int 0) (.int 0) (.int 0) (.int 0) (.int 0) (.int 0) (.int 0) (.int (-1)) (.int 0) (.int 0) (.int 0) (.int (wx (wx x))) (.int 0) (.int 0) (.int 0) (.int 0) (.int 0) kf (1000 + (wv_47 % 8)) hkf (by omega) (by omega)) kV_PinchedBillModel_373 2 rfl rfl rfl rfl hl.1 rfl (nle rfl) d_X9_winter_93 ⟨by decide, by decide, by decide, by decide⟩) (fun r_51 w_52 H locs hw_50 hP hD hS => ?_)
        obtain ⟨rfl, rfl⟩ := hw_50
        have hP : va_P D vwCl [(k21, eI (ty 0) 1000 (fun _ => 0)), (h0, eO 9 [.ref k0, .ref k1, .ref k2, .ref k3, .int 0, .ref k5, .int 0, .int 0, .int 0, .int 0, .int 0, .int 0, .int 0, .int 0, .int 0, .int (-1), .int 0, .int 0, .int 0, .ref k19, .ref k20, .ref k21, .ref k22, .ref k23, .int (wx (wx x)), .ref k25, .ref k26, .ref k27, .int 0, .int 0, .ref k30, .ref k31, .int 0, .ref k33, .int 0, .int 0, .ref k36, .ref k37, .ref k38, .ref k39]), (k0, eI (ty 0) 1875 kf)] H := hP
        have hD : va_D A [(k21, eI (ty 0) 1000 (fun _ => 0)), (h0, eO 9 [.ref k0, .ref k1, .ref k2, .ref k3, .int 0, .ref k5, .int 0, .int 0, .int 0, .int 0, .int 0, .int 0, .int 0, .int 0, .int 0, .int (-1), .int 0, .int 0, .int 0, .ref k19, .ref k20, .ref k21, .ref k22, .ref k23, .int (wx (wx x)), .ref k25, .ref k26, .ref k27, .int 0, .int 0, .ref k30, .ref k31, .int 0, .ref k33, .int 0, .int 0, .ref k36, .ref k37, .ref k38, .ref k39]), (k0, eI (ty 0) 1875 kf)] := hD
        refine b_if_eqF C 102 d_X9_winter_96 (by decide) (by decide) ?_
        refine lv_goto (tgt := 115) hx hb d_X9_winter_99 (by decide) ?_
        refine lv_iinc (v := (nI (i + 1))) (lv' := [(4, .int (nI (i + 1))), (6, .int (nI (1000 + (wv_47 % 8)))), (5, .int 3), (3, .int (nI k)), (0, .ref h0), (1, .int sd), (2, .int (nI T))]) (k := 2) hx hb d_X9_winter_115 hl rfl (a_inc i 1 (i + 1) rfl rfl) (by decide) rfl (fun ls hl => ?_)
        refine lv_goto (tgt := 33) hx hb d_X9_winter_118 (by decide) ?_
        exact ih_5 (i + 1) r8 k (wx (wx x)) kf d b _ _ _ (by omega) ⟨(by omega), (by have h9 := winc_c hwv_12 (by omega); rw [h9.1, h9.2] at hkw; omega), hkf, hk5, (by omega), hk6, (by omega), sub_P hP (is := [1, 2, 0]) rfl, hD.sub [1, 2, 0] (by decide) rfl, hS, lv_sub hl [0, 3, 4, 5, 6] rfl⟩
      · rw [hso] at hl
        have hl : lv_has ls 7 [(5, .int 4), (4, .int (nI i)), (3, .int (nI k)), (0, .ref h0), (1, .int sd), (2, .int (nI T))] := hl
        refine lv_iload hx hb d_X9_winter_56 (lv_at hl 0 rfl) ?_
        refine lv_iconst (v := 2) hx hb d_X9_winter_58 (by decide) ?_
        refine b_icmp_neT C 72 d_X9_winter_59 (by decide) (by decide) ?_
        refine lv_sipush (v := 1000) hx hb d_X9_winter_72 (by decide) ?_
        refine lv_iload hx hb d_X9_winter_75 (lv_at hl 0 rfl) ?_
        refine lv_iconst (v := 2) hx hb d_X9_winter_77 (by decide) ?_
        refine r_isub (z := 2) C d_X9_winter_78 (by decide) ?_
        refine r_imul (z := 2000) C d_X9_winter_79 (by decide) ?_
        refine lv_aload_n hx hb d_X9_winter_80 rfl (lv_at hl 3 rfl) ?_
        refine lv_bipush (v := 8) hx hb d_X9_winter_81 (by decide) ?_
        have ct_53 : Cut [(k0, eI (ty 0) 1875 kf), (k21, eI (ty 0) 1000 (fun _ => 0)), (h0, eO 9 [.ref k0, .ref k1, .ref k2, .ref k3, .int 0, .ref k5, .int 0, .int 0, .int 0, .int 0, .int 0, .int 0, .int 0, .int 0, .int 0, .int (-1), .int 0, .int 0, .int 0, .ref k19, .ref k20, .ref k21, .ref k22, .ref k23, .int (wx x), .ref k25, .ref k26, .ref k27, .int 0, .int 0, .ref k30, .ref k31, .int 0, .ref k33, .int 0, .int 0, .ref k36, .ref k37, .ref k38, .ref k39])] [(h0, eO 9 [.ref k0, .ref k1, .ref k2, .ref k3, .int 0, .ref k5, .int 0, .int 0, .int 0, .int 0, .int 0, .int 0, .int 0, .int 0, .int 0, .int (-1), .int 0, .int 0, .int 0, .ref k19, .ref k20, .ref k21, .ref k22, .ref k23, .int (wx x), .ref k25, .ref k26, .ref k27, .int 0, .int 0, .ref k30, .ref k31, .int 0, .ref k33, .int 0, .int 0, .ref k36, .ref k37, .ref k38, .ref k39])] [(k0, eI (ty 0) 1875 kf), (k21, eI (ty 0) 1000 (fun _ => 0))] [2] [0, 1] := ⟨rfl, rfl, rfl, rfl, by decide⟩
        refine cont_I C hP hD hS ct_53 (run_V (As := [.int 8]) (rest := [.int 2000]) C hP hD hS ct_53 (c_mdraw l D ty h0 k0 k1 k2 k3 k5 k19 k20 k21 k22 k23 k25 k26 k27 k30 k31 k33 k36 k37 k38 k39 (.int 0) (.int 0) (.int 0) (.int 0) (.int 0) (.int 0) (.int 0) (.int 0) (.int 0) (.int 0) (.int (-1)) (.int 0) (.int 0) (.int 0) (.int 0) (.int 0) (.int 0) (.int 0) (.int 0) (wx x) 8 (by omega) (by omega)) kV_PinchedBillModel_388 2 rfl rfl rfl rfl hl.1 rfl (nle rfl) d_X9_winter_83 ⟨by decide, by decide, by decide, by decide⟩) (fun r_55 w_56 H locs hw_54 hP hD hS => ?_)
        obtain ⟨rfl, rfl⟩ := hw_54
        have hP : va_P D vwCl [(k0, eI (ty 0) 1875 kf), (k21, eI (ty 0) 1000 (fun _ => 0)), (h0, eO 9 [.ref k0, .ref k1, .ref k2, .ref k3, .int 0, .ref k5, .int 0, .int 0, .int 0, .int 0, .int 0, .int 0, .int 0, .int 0, .int 0, .int (-1), .int 0, .int 0, .int 0, .ref k19, .ref k20, .ref k21, .ref k22, .ref k23, .int (wx (wx x)), .ref k25, .ref k26, .ref k27, .int 0, .int 0, .ref k30, .ref k31, .int 0, .ref k33, .int 0, .int 0, .ref k36, .ref k37, .ref k38, .ref k39])] H := hP
        have hD : va_D A [(k0, eI (ty 0) 1875 kf), (k21, eI (ty 0) 1000 (fun _ => 0)), (h0, eO 9 [.ref k0, .ref k1, .ref k2, .ref k3, .int 0, .ref k5, .int 0, .int 0, .int 0, .int 0, .int 0, .int 0, .int 0, .int 0, .int 0, .int (-1), .int 0, .int 0, .int 0, .ref k19, .ref k20, .ref k21, .ref k22, .ref k23, .int (wx (wx x)), .ref k25, .ref k26, .ref k27, .int 0, .int 0, .ref k30, .ref k31, .int 0, .ref k33, .int 0, .int 0, .ref k36, .ref k37, .ref k38, .ref k39])] := hD
        obtain ⟨wv_57, hwv_58⟩ : ∃ w9 : Nat, wd (wx (wx x)) = w9 := ⟨_, rfl⟩
        rw [hwv_58]
        have hlwv_57 : wv_57 < 65536 := hwv_58 ▸ wd_lt _
        refine r_iadd (z := (nI (2000 + (wv_57 % 8)))) C d_X9_winter_86 (a_add 2000 (wv_57 % 8) (2000 + (wv_57 % 8)) rfl rfl (by omega)) ?_
        refine lv_istore (lv' := [(6, .int (nI (2000 + (wv_57 % 8)))), (5, .int 4), (4, .int (nI i)), (3, .int (nI k)), (0, .ref h0), (1, .int sd), (2, .int (nI T))]) hx hb d_X9_winter_87 hl (by decide) rfl (fun ls hl => ?_)
        refine lv_aload_n hx hb d_X9_winter_89 rfl (lv_at hl 4 rfl) ?_
        refine lv_iload hx hb d_X9_winter_90 (lv_at hl 0 rfl) ?_
        refine lv_i2l (v := (lN (2000 + (wv_57 % 8)))) hx hb d_X9_winter_92 (nI_l (by omega)) ?_
        have ct_59 : Cut [(k0, eI (ty 0) 1875 kf), (k21, eI (ty 0) 1000 (fun _ => 0)), (h0, eO 9 [.ref k0, .ref k1, .ref k2, .ref k3, .int 0, .ref k5, .int 0, .int 0, .int 0, .int 0, .int 0, .int 0, .int 0, .int 0, .int 0, .int (-1), .int 0, .int 0, .int 0, .ref k19, .ref k20, .ref k21, .ref k22, .ref k23, .int (wx (wx x)), .ref k25, .ref k26, .ref k27, .int 0, .int 0, .ref k30, .ref k31, .int 0, .ref k33, .int 0, .int 0, .ref k36, .ref k37, .ref k38, .ref k39])] [(h0, eO 9 [.ref k0, .ref k1, .ref k2, .ref k3, .int 0, .ref k5, .int 0, .int 0, .int 0, .int 0, .int 0, .int 0, .int 0, .int 0, .int 0, .int (-1), .int 0, .int 0, .int 0, .ref k19, .ref k20, .ref k21, .ref k22, .ref k23, .int (wx (wx x)), .ref k25, .ref k26, .ref k27, .int 0, .int 0, .ref k30, .ref k31, .int 0, .ref k33, .int 0, .int 0, .ref k36, .ref k37, .ref k38, .ref k39]), (k0, eI (ty 0) 1875 kf)] [(k21, eI (ty 0) 1000 (fun _ => 0))] [2, 0] [1] := ⟨rfl, rfl, rfl, rfl, by decide⟩
        refine cont_I C hP hD hS ct_59 (run_V (As := [.long (lN (2000 + (wv_57 % 8)))]) (rest := []) C hP hD hS ct_59 (c_mwtP2 l D ty h0 k0 k1 k2 k3 k5 k19 k20 k21 k22 k23 k25 k26 k27 k30 k31 k33 k36 k37 k38 k39 (.int 0) (.int 0) (.int 0) (.int 0) (.int 0) (.int 0) (.int 0) (.int 0) (.int 0) (.int 0) (.int (-1)) (.int 0) (.int 0) (.int 0) (.int (wx (wx x))) (.int 0) (.int 0) (.int 0) (.int 0) (.int 0) kf (2000 + (wv_57 % 8)) hkf (by omega) (by omega)) kV_PinchedBillModel_373 2 rfl rfl rfl rfl hl.1 rfl (nle rfl) d_X9_winter_93 ⟨by decide, by decide, by decide, by decide⟩) (fun r_61 w_62 H locs hw_60 hP hD hS => ?_)
        obtain ⟨rfl, rfl⟩ := hw_60
        have hP : va_P D vwCl [(k21, eI (ty 0) 1000 (fun _ => 0)), (h0, eO 9 [.ref k0, .ref k1, .ref k2, .ref k3, .int 0, .ref k5, .int 0, .int 0, .int 0, .int 0, .int 0, .int 0, .int 0, .int 0, .int 0, .int (-1), .int 0, .int 0, .int 0, .ref k19, .ref k20, .ref k21, .ref k22, .ref k23, .int (wx (wx x)), .ref k25, .ref k26, .ref k27, .int 0, .int 0, .ref k30, .ref k31, .int 0, .ref k33, .int 0, .int 0, .ref k36, .ref k37, .ref k38, .ref k39]), (k0, eI (ty 0) 1875 kf)] H := hP
        have hD : va_D A [(k21, eI (ty 0) 1000 (fun _ => 0)), (h0, eO 9 [.ref k0, .ref k1, .ref k2, .ref k3, .int 0, .ref k5, .int 0, .int 0, .int 0, .int 0, .int 0, .int 0, .int 0, .int 0, .int 0, .int (-1), .int 0, .int 0, .int 0, .ref k19, .ref k20, .ref k21, .ref k22, .ref k23, .int (wx (wx x)), .ref k25, .ref k26, .ref k27, .int 0, .int 0, .ref k30, .ref k31, .int 0, .ref k33, .int 0, .int 0, .ref k36, .ref k37, .ref k38, .ref k39]), (k0, eI (ty 0) 1875 kf)] := hD
        refine b_if_eqF C 102 d_X9_winter_96 (by decide) (by decide) ?_
        refine lv_goto (tgt := 115) hx hb d_X9_winter_99 (by decide) ?_
        refine lv_iinc (v := (nI (i + 1))) (lv' := [(4, .int (nI (i + 1))), (6, .int (nI (2000 + (wv_57 % 8)))), (5, .int 4), (3, .int (nI k)), (0, .ref h0), (1, .int sd), (2, .int (nI T))]) (k := 2) hx hb d_X9_winter_115 hl rfl (a_inc i 1 (i + 1) rfl rfl) (by decide) rfl (fun ls hl => ?_)
        refine lv_goto (tgt := 33) hx hb d_X9_winter_118 (by decide) ?_
        exact ih_5 (i + 1) r8 k (wx (wx x)) kf d b _ _ _ (by omega) ⟨(by omega), (by have h9 := winc_c hwv_12 (by omega); rw [h9.1, h9.2] at hkw; omega), hkf, hk5, (by omega), hk6, (by omega), sub_P hP (is := [1, 2, 0]) rfl, hD.sub [1, 2, 0] (by decide) rfl, hS, lv_sub hl [0, 3, 4, 5, 6] rfl⟩
    · have hc_13 := un_nle 2 (wv_11 % 5) rfl rfl (by omega) (by omega) hc_13
      refine lv_iconst (v := (-1)) hx hb d_X9_winter_52 (by decide) ?_
      refine lv_goto (tgt := 87) hx hb d_X9_winter_53 (by decide) ?_
      refine lv_istore (lv' := [(6, .int (-1)), (5, .int (nI (wv_11 % 5))), (4, .int (nI i)), (3, .int (nI k)), (0, .ref h0), (1, .int sd), (2, .int (nI T))]) hx hb d_X9_winter_87 hl (by decide) rfl (fun ls hl => ?_)
      refine lv_aload_n hx hb d_X9_winter_89 rfl (lv_at hl 4 rfl) ?_
      refine lv_iload hx hb d_X9_winter_90 (lv_at hl 0 rfl) ?_
      refine lv_i2l (v := (-1)) hx hb d_X9_winter_92 (by decide) ?_
      have ct_63 : Cut [(k0, eI (ty 0) 1875 kf), (k21, eI (ty 0) 1000 (fun _ => 0)), (h0, eO 9 [.ref k0, .ref k1, .ref k2, .ref k3, .int 0, .ref k5, .int 0, .int 0, .int 0, .int 0, .int 0, .int 0, .int 0, .int 0, .int 0, .int (-1), .int 0, .int 0, .int 0, .ref k19, .ref k20, .ref k21, .ref k22, .ref k23, .int (wx x), .ref k25, .ref k26, .ref k27, .int 0, .int 0, .ref k30, .ref k31, .int 0, .ref k33, .int 0, .int 0, .ref k36, .ref k37, .ref k38, .ref k39])] [(h0, eO 9 [.ref k0, .ref k1, .ref k2, .ref k3, .int 0, .ref k5, .int 0, .int 0, .int 0, .int 0, .int 0, .int 0, .int 0, .int 0, .int 0, .int (-1), .int 0, .int 0, .int 0, .ref k19, .ref k20, .ref k21, .ref k22, .ref k23, .int (wx x), .ref k25, .ref k26, .ref k27, .int 0, .int 0, .ref k30, .ref k31, .int 0, .ref k33, .int 0, .int 0, .ref k36, .ref k37, .ref k38, .ref k39]), (k0, eI (ty 0) 1875 kf)] [(k21, eI (ty 0) 1000 (fun _ => 0))] [2, 0] [1] := ⟨rfl, rfl, rfl, rfl, by decide⟩
      refine cont_I C hP hD hS ct_63 (run_V (As := [.long (-1)]) (rest := []) C hP hD hS ct_63 (c_mwtM l D ty h0 k0 k1 k2 k3 k5 k19 k20 k21 k22 k23 k25 k26 k27 k30 k31 k33 k36 k37 k38 k39 (.int 0) (.int 0) (.int 0) (.int 0) (.int 0) (.int 0) (.int 0) (.int 0) (.int 0) (.int 0) (.int (-1)) (.int 0) (.int 0) (.int 0) (.int (wx x)) (.int 0) (.int 0) (.int 0) (.int 0) (.int 0) kf) kV_PinchedBillModel_373 2 rfl rfl rfl rfl hl.1 rfl (nle rfl) d_X9_winter_93 ⟨by decide, by decide, by decide, by decide⟩) (fun r_65 w_66 H locs hw_64 hP hD hS => ?_)
      obtain ⟨rfl, rfl⟩ := hw_64
      have hP : va_P D vwCl [(k21, eI (ty 0) 1000 (fun _ => 0)), (h0, eO 9 [.ref k0, .ref k1, .ref k2, .ref k3, .int 0, .ref k5, .int 0, .int 0, .int 0, .int 0, .int 0, .int 0, .int 0, .int 0, .int 0, .int (-1), .int 0, .int 0, .int 0, .ref k19, .ref k20, .ref k21, .ref k22, .ref k23, .int (wx x), .ref k25, .ref k26, .ref k27, .int 0, .int 0, .ref k30, .ref k31, .int 0, .ref k33, .int 0, .int 0, .ref k36, .ref k37, .ref k38, .ref k39]), (k0, eI (ty 0) 1875 kf)] H := hP
      have hD : va_D A [(k21, eI (ty 0) 1000 (fun _ => 0)), (h0, eO 9 [.ref k0, .ref k1, .ref k2, .ref k3, .int 0, .ref k5, .int 0, .int 0, .int 0, .int 0, .int 0, .int 0, .int 0, .int 0, .int 0, .int (-1), .int 0, .int 0, .int 0, .ref k19, .ref k20, .ref k21, .ref k22, .ref k23, .int (wx x), .ref k25, .ref k26, .ref k27, .int 0, .int 0, .ref k30, .ref k31, .int 0, .ref k33, .int 0, .int 0, .ref k36, .ref k37, .ref k38, .ref k39]), (k0, eI (ty 0) 1875 kf)] := hD
      refine b_if_eqT C 102 d_X9_winter_96 (by decide) (by decide) ?_
      refine lv_aload_n hx hb d_X9_winter_102 rfl (lv_at hl 4 rfl) ?_
      have ct_67 : Cut [(k21, eI (ty 0) 1000 (fun _ => 0)), (h0, eO 9 [.ref k0, .ref k1, .ref k2, .ref k3, .int 0, .ref k5, .int 0, .int 0, .int 0, .int 0, .int 0, .int 0, .int 0, .int 0, .int 0, .int (-1), .int 0, .int 0, .int 0, .ref k19, .ref k20, .ref k21, .ref k22, .ref k23, .int (wx x), .ref k25, .ref k26, .ref k27, .int 0, .int 0, .ref k30, .ref k31, .int 0, .ref k33, .int 0, .int 0, .ref k36, .ref k37, .ref k38, .ref k39]), (k0, eI (ty 0) 1875 kf)] [(h0, eO 9 [.ref k0, .ref k1, .ref k2, .ref k3, .int 0, .ref k5, .int 0, .int 0, .int 0, .int 0, .int 0, .int 0, .int 0, .int 0, .int 0, .int (-1), .int 0, .int 0, .int 0, .ref k19, .ref k20, .ref k21, .ref k22, .ref k23, .int (wx x), .ref k25, .ref k26, .ref k27, .int 0, .int 0, .ref k30, .ref k31, .int 0, .ref k33, .int 0, .int 0, .ref k36, .ref k37, .ref k38, .ref k39]), (k0, eI (ty 0) 1875 kf)] [(k21, eI (ty 0) 1000 (fun _ => 0))] [1, 2] [0] := ⟨rfl, rfl, rfl, rfl, by decide⟩
      refine cont_V C hP hD hS ct_67 (run_V (As := []) (rest := []) C hP hD hS ct_67 (c_mkeeps l D ty h0 k0 k1 k2 k3 k5 k19 k20 k21 k22 k23 k25 k26 k27 k30 k31 k33 k36 k37 k38 k39 (.int 0) (.int 0) (.int 0) (.int 0) (.int 0) (.int 0) (.int 0) (.int 0) (.int 0) (.int 0) (.int (-1)) (.int 0) (.int 0) (.int 0) (.int (wx x)) (.int 0) (.int 0) (.int 0) (.int 0) (.int 0) kf d b hkf hk5 hd hk6) kV_PinchedBillModel_329 1 rfl rfl rfl rfl hl.1 rfl (nle rfl) d_X9_winter_103 ⟨by decide, by decide, by decide, by decide⟩) (fun w_72 H locs hw_70 hP hD hS => ?_)
      obtain ⟨kf9_68, d9_69, hkf9_73, hk59_74, hd9_75, hk69_76, rfl⟩ := hw_70
      have hP : va_P D vwCl [(k21, eI (ty 0) 1000 (fun _ => 0)), (h0, eO 9 [.ref k0, .ref k1, .ref k2, .ref k3, .int 0, .ref k5, .int 0, .int 0, .int 0, .int 0, .int 0, .int 0, .int 0, .int 0, .int 0, .int (-1), .int 0, .int 0, .int 0, .ref k19, .ref k20, .ref k21, .ref k22, .ref k23, .int (wx x), .ref k25, .ref k26, .ref k27, .int 0, .int 0, .ref k30, .ref k31, .int 0, .ref k33, .int 0, .int 0, .ref k36, .ref k37, .ref k38, .ref k39]), (k0, eI (ty 0) 1875 kf9_68)] H := hP
      have hD : va_D A [(k21, eI (ty 0) 1000 (fun _ => 0)), (h0, eO 9 [.ref k0, .ref k1, .ref k2, .ref k3, .int 0, .ref k5, .int 0, .int 0, .int 0, .int 0, .int 0, .int 0, .int 0, .int 0, .int 0, .int (-1), .int 0, .int 0, .int 0, .ref k19, .ref k20, .ref k21, .ref k22, .ref k23, .int (wx x), .ref k25, .ref k26, .ref k27, .int 0, .int 0, .ref k30, .ref k31, .int 0, .ref k33, .int 0, .int 0, .ref k36, .ref k37, .ref k38, .ref k39]), (k0, eI (ty 0) 1875 kf9_68)] := hD
      refine lv_aload_n hx hb d_X9_winter_106 rfl (lv_at hl 4 rfl) ?_
      refine lv_iload hx hb d_X9_winter_107 (lv_at hl 0 rfl) ?_
      have ct_77 : Cut [(k21, eI (ty 0) 1000 (fun _ => 0)), (h0, eO 9 [.ref k0, .ref k1, .ref k2, .ref k3, .int 0, .ref k5, .int 0, .int 0, .int 0, .int 0, .int 0, .int 0, .int 0, .int 0, .int 0, .int (-1), .int 0, .int 0, .int 0, .ref k19, .ref k20, .ref k21, .ref k22, .ref k23, .int (wx x), .ref k25, .ref k26, .ref k27, .int 0, .int 0, .ref k30, .ref k31, .int 0, .ref k33, .int 0, .int 0, .ref k36, .ref k37, .ref k38, .ref k39]), (k0, eI (ty 0) 1875 kf9_68)] [(h0, eO 9 [.ref k0, .ref k1, .ref k2, .ref k3, .int 0, .ref k5, .int 0, .int 0, .int 0, .int 0, .int 0, .int 0, .int 0, .int 0, .int 0, .int (-1), .int 0, .int 0, .int 0, .ref k19, .ref k20, .ref k21, .ref k22, .ref k23, .int (wx x), .ref k25, .ref k26, .ref k27, .int 0, .int 0, .ref k30, .ref k31, .int 0, .ref k33, .int 0, .int 0, .ref k36, .ref k37, .ref k38, .ref k39]), (k0, eI (ty 0) 1875 kf9_68), (k21, eI (ty 0) 1000 (fun _ => 0))] [] [1, 2, 0] [] := ⟨rfl, rfl, rfl, rfl, by decide⟩
      refine cont_V C hP hD hS ct_77 (run_V (As := [.int (-1)]) (rest := []) C hP hD hS ct_77 (c_mdoesM l D ty h0 k0 k1 k2 k3 k5 k19 k20 k21 k22 k23 k25 k26 k27 k30 k31 k33 k36 k37 k38 k39 (.int 0) (.int 0) (.int 0) (.int 0) (.int 0) (.int 0) (.int 0) (.int 0) (.int 0) (.int 0) (.int (-1)) (.int 0) (.int 0) (.int 0) (.int (wx x)) (.int 0) (.int 0) (.int 0) (.int 0) (.int 0) kf9_68 b hkf9_73 hbd hk69_76) kV_PinchedBillModel_376 1 rfl rfl rfl rfl hl.1 rfl (nle rfl) d_X9_winter_109 ⟨by decide, by decide, by decide, by decide⟩) (fun w_80 H locs hw_78 hP hD hS => ?_)
      subst hw_78
      have hP : va_P D vwCl [(h0, eO 9 [.ref k0, .ref k1, .ref k2, .ref k3, .int 0, .ref k5, .int 0, .int 0, .int 0, .int 0, .int 0, .int 0, .int 0, .int 0, .int 0, .int (-1), .int 0, .int 0, .int 0, .ref k19, .ref k20, .ref k21, .ref k22, .ref k23, .int (wx x), .ref k25, .ref k26, .ref k27, .int 0, .int 0, .ref k30, .ref k31, .int 0, .ref k33, .int 0, .int 0, .ref k36, .ref k37, .ref k38, .ref k39]), (k0, eI (ty 0) 1875 kf9_68), (k21, eI (ty 0) 1000 (fun _ => 0))] H := hP
      have hD : va_D A [(h0, eO 9 [.ref k0, .ref k1, .ref k2, .ref k3, .int 0, .ref k5, .int 0, .int 0, .int 0, .int 0, .int 0, .int 0, .int 0, .int 0, .int 0, .int (-1), .int 0, .int 0, .int 0, .ref k19, .ref k20, .ref k21, .ref k22, .ref k23, .int (wx x), .ref k25, .ref k26, .ref k27, .int 0, .int 0, .ref k30, .ref k31, .int 0, .ref k33, .int 0, .int 0, .ref k36, .ref k37, .ref k38, .ref k39]), (k0, eI (ty 0) 1875 kf9_68), (k21, eI (ty 0) 1000 (fun _ => 0))] := hD
      refine lv_iinc (v := (nI (k + 1))) (lv' := [(3, .int (nI (k + 1))), (6, .int (-1)), (5, .int (nI (wv_11 % 5))), (4, .int (nI i)), (0, .ref h0), (1, .int sd), (2, .int (nI T))]) (k := 3) hx hb d_X9_winter_112 hl rfl (a_inc k 1 (k + 1) rfl rfl) (by decide) rfl (fun ls hl => ?_)
      refine lv_iinc (v := (nI (i + 1))) (lv' := [(4, .int (nI (i + 1))), (3, .int (nI (k + 1))), (6, .int (-1)), (5, .int (nI (wv_11 % 5))), (0, .ref h0), (1, .int sd), (2, .int (nI T))]) (k := 3) hx hb d_X9_winter_115 hl rfl (a_inc i 1 (i + 1) rfl rfl) (by decide) rfl (fun ls hl => ?_)
      refine lv_goto (tgt := 33) hx hb d_X9_winter_118 (by decide) ?_
      exact ih_5 (i + 1) r8 (k + 1) (wx x) kf9_68 d9_69 b _ _ _ (by omega) ⟨(by omega), (by have h9 := winc_a hwv_12 (by omega); rw [h9.1, h9.2] at hkw; omega), hkf9_73, hk59_74, (by omega), hk69_76, (by omega), sub_P hP (is := [0, 1, 2]) rfl, hD.sub [0, 1, 2] (by decide) rfl, hS, lv_sub hl [0, 1, 4, 5, 6] rfl⟩
set_option maxHeartbeats 4000000 in
set_option maxRecDepth 100000 in
theorem m_winterF (l : Launch) (D : va_G) (ty : Nat → ClassId) (h0 : Nat) (k0 : Nat) (k1 : Nat) (k2 : Nat) (k3 : Nat) (k5 : Nat) (k19 : Nat) (k20 : Nat) (k21 : Nat) (k22 : Nat) (k23 : Nat) (k25 : Nat) (k26 : Nat) (k27 : Nat) (k30 : Nat) (k31 : Nat) (k33 : Nat) (k36 : Nat) (k37 : Nat) (k38 : Nat) (k39 : Nat) (sd : Int32) (tm : Int32) (hnp : ¬ ((¬ tm < 1 ∧ ¬ 30 < tm))) : CC l D ty ⟨"PinchedBillModel", "winter", "(II)I"⟩ prog_11_method_78_code 7 (some .int) 1 25 0 0 [.ref h0, .int sd, .int tm] [(h0, eO 9 [.ref k0, .ref k1, .ref k2, .ref k3, .int 0, .ref k5, .int 0, .int 0, .int 0, .int 0, .int 0, .int 0, .int 0, .int 0, .int 0, .int (-1), .int 0, .int 0, .int 0, .ref k19, .ref k20, .ref k21, .ref k22, .ref k23, .int 0, .ref k25, .ref k26, .ref k27, .int 0, .int 0, .ref k30, .ref k31, .int 0, .ref k33, .int 0, .int 0, .ref k36, .ref k37, .ref k38, .ref k39]), (k0, eI (ty 0) 1875 knF), (k21, eI (ty 0) 1000 (fun _ => 0))] (QI D ty (fun (r : Int32) (w : va_W) => ∃ (w6 : Value) (w7 : Value) (w8 : Value) (w9 : Value) (w10 : Value) (w11 : Value) (w12 : Value) (w13 : Value) (w14 : Value) (w15 : Value) (w16 : Value) (w17 : Value) (w18 : Value) (w24 : Value) (w28 : Value) (w29 : Value) (w32 : Value) (w34 : Value) (w35 : Value), 0 = r ∧ w = [(h0, eO 9 [.ref k0, .ref k1, .ref k2, .ref k3, .int 1, .ref k5, w6, w7, w8, w9, w10, w11, w12, w13, w14, w15, w16, w17, w18, .ref k19, .ref k20, .ref k21, .ref k22, .ref k23, w24, .ref k25, .ref k26, .ref k27, w28, w29, .ref k30, .ref k31, w32, .ref k33, w34, w35, .ref k36, .ref k37, .ref k38, .ref k39])])) := by
  refine CC_of (by decide) ?_
  intro p e s m below meth c A C hP hD hS
  obtain ⟨⟨hx, hb, hml, hown, hts⟩, hr, hlocks, hnm, hK, hE, hA, hZ⟩ := id C
  refine startW [.ref h0, .int sd, .int tm] 7 (nle rfl) (lv := [(0, .ref h0), (1, .int sd), (2, .int tm)]) rfl (fun ls hl => ?_)
  have hq_1 : ¬ (¬ tm < 1 ∧ ¬ 30 < tm) := fun h9 => hnp h9
  have hgo9 := trivial
  refine lv_aload_n hx hb d_X9_winter_0 rfl (lv_at hl 0 rfl) ?_
  refine lv_iconst (v := 0) hx hb d_X9_winter_1 (by decide) ?_
  refine r_put (w := [(h0, eO 9 [.ref k0, .ref k1, .ref k2, .ref k3, .int 0, .ref k5, .int 0, .int 0, .int 0, .int 0, .int 0, .int 0, .int 0, .int 0, .int 0, .int (-1), .int 0, .int 0, .int 0, .ref k19, .ref k20, .ref k21, .ref k22, .ref k23, .int 0, .ref k25, .ref k26, .ref k27, .int 0, .int 0, .ref k30, .ref k31, .int 0, .ref k33, .int 0, .int 0, .ref k36, .ref k37, .ref k38, .ref k39]), (k0, eI (ty 0) 1875 knF), (k21, eI (ty 0) 1000 (fun _ => 0))]) C hP hD hS 0 rfl rfl lay_X9 tok_X9 nmo_X9 4 (by decide) k_1549 rfl rfl rfl (nle rfl) rfl d_X9_winter_2 (fun H locs hP hD hS => ?_)
  refine lv_iload_n hx hb d_X9_winter_5 rfl (lv_at hl 2 rfl) ?_
  refine lv_i2l (v := (tm).toInt64) hx hb d_X9_winter_6 rfl ?_
  refine lv_lconst (v := 1) hx hb d_X9_winter_7 (by decide) ?_
  refine lv_ldc2 hx hb hown (hts _ k_1942) d_X9_winter_8 ?_
  have ct_2 : Cut [(h0, eO 9 [.ref k0, .ref k1, .ref k2, .ref k3, .int 0, .ref k5, .int 0, .int 0, .int 0, .int 0, .int 0, .int 0, .int 0, .int 0, .int 0, .int (-1), .int 0, .int 0, .int 0, .ref k19, .ref k20, .ref k21, .ref k22, .ref k23, .int 0, .ref k25, .ref k26, .ref k27, .int 0, .int 0, .ref k30, .ref k31, .int 0, .ref k33, .int 0, .int 0, .ref k36, .ref k37, .ref k38, .ref k39]), (k0, eI (ty 0) 1875 knF), (k21, eI (ty 0) 1000 (fun _ => 0))] [] [(h0, eO 9 [.ref k0, .ref k1, .ref k2, .ref k3, .int 0, .ref k5, .int 0, .int 0, .int 0, .int 0, .int 0, .int 0, .int 0, .int 0, .int 0, .int (-1), .int 0, .int 0, .int 0, .ref k19, .ref k20, .ref k21, .ref k22, .ref k23, .int 0, .ref k25, .ref k26, .ref k27, .int 0, .int 0, .ref k30, .ref k31, .int 0, .ref k33, .int 0, .int 0, .ref k36, .ref k37, .ref k38, .ref k39]), (k0, eI (ty 0) 1875 knF), (k21, eI (ty 0) 1000 (fun _ => 0))] [] [0, 1, 2] := ⟨rfl, rfl, rfl, rfl, by decide⟩
  refine cont_I C hP hD hS ct_2 (run_S (As := [.long (tm).toInt64, .long 1, .long 30]) (rest := []) C hP hD hS ct_2 (c_mwi l D ty ((tm).toInt64) 1 30) kS_PinchedBillModel_140 rfl hl.1 rfl (nle rfl) d_X9_winter_11 ⟨by decide, by decide, by decide, by decide⟩) (fun r_4 w_5 H locs hw_3 hP hD hS => ?_)
  obtain ⟨rfl, rfl⟩ := hw_3
  have hP : va_P D vwCl [(h0, eO 9 [.ref k0, .ref k1, .ref k2, .ref k3, .int 0, .ref k5, .int 0, .int 0, .int 0, .int 0, .int 0, .int 0, .int 0, .int 0, .int 0, .int (-1), .int 0, .int 0, .int 0, .ref k19, .ref k20, .ref k21, .ref k22, .ref k23, .int 0, .ref k25, .ref k26, .ref k27, .int 0, .int 0, .ref k30, .ref k31, .int 0, .ref k33, .int 0, .int 0, .ref k36, .ref k37, .ref k38, .ref k39]), (k0, eI (ty 0) 1875 knF), (k21, eI (ty 0) 1000 (fun _ => 0))] H := hP
  have hD : va_D A [(h0, eO 9 [.ref k0, .ref k1, .ref k2, .ref k3, .int 0, .ref k5, .int 0, .int 0, .int 0, .int 0, .int 0, .int 0, .int 0, .int 0, .int 0, .int (-1), .int 0, .int 0, .int 0, .ref k19, .ref k20, .ref k21, .ref k22, .ref k23, .int 0, .ref k25, .ref k26, .ref k27, .int 0, .int 0, .ref k30, .ref k31, .int 0, .ref k33, .int 0, .int 0, .ref k36, .ref k37, .ref k38, .ref k39]), (k0, eI (ty 0) 1875 knF), (k21, eI (ty 0) 1000 (fun _ => 0))] := hD
  refine topeq (z := 0) (wiQ (n := tm) (lo := 1) (hi := 30) rfl rfl rfl hq_1) ?_
  refine b_if_neF C 23 d_X9_winter_14 (by decide) (by decide) ?_
  refine lv_aload_n hx hb d_X9_winter_17 rfl (lv_at hl 0 rfl) ?_
  refine lv_iconst (v := 1) hx hb d_X9_winter_18 (by decide) ?_
  have ct_6 : Cut [(h0, eO 9 [.ref k0, .ref k1, .ref k2, .ref k3, .int 0, .ref k5, .int 0, .int 0, .int 0, .int 0, .int 0, .int 0, .int 0, .int 0, .int 0, .int (-1), .int 0, .int 0, .int 0, .ref k19, .ref k20, .ref k21, .ref k22, .ref k23, .int 0, .ref k25, .ref k26, .ref k27, .int 0, .int 0, .ref k30, .ref k31, .int 0, .ref k33, .int 0, .int 0, .ref k36, .ref k37, .ref k38, .ref k39]), (k0, eI (ty 0) 1875 knF), (k21, eI (ty 0) 1000 (fun _ => 0))] [(h0, eO 9 [.ref k0, .ref k1, .ref k2, .ref k3, .int 0, .ref k5, .int 0, .int 0, .int 0, .int 0, .int 0, .int 0, .int 0, .int 0, .int 0, .int (-1), .int 0, .int 0, .int 0, .ref k19, .ref k20, .ref k21, .ref k22, .ref k23, .int 0, .ref k25, .ref k26, .ref k27, .int 0, .int 0, .ref k30, .ref k31, .int 0, .ref k33, .int 0, .int 0, .ref k36, .ref k37, .ref k38, .ref k39])] [(k0, eI (ty 0) 1875 knF), (k21, eI (ty 0) 1000 (fun _ => 0))] [0] [1, 2] := ⟨rfl, rfl, rfl, rfl, by decide⟩
  refine cont_I C hP hD hS ct_6 (run_V (As := [.int 1]) (rest := []) C hP hD hS ct_6 (c_fails l D ty h0 k0 k1 k2 k3 k5 k19 k20 k21 k22 k23 k25 k26 k27 k30 k31 k33 k36 k37 k38 k39 (.int 0) (.int 0) (.int 0) (.int 0) (.int 0) (.int 0) (.int 0) (.int 0) (.int 0) (.int 0) (.int (-1)) (.int 0) (.int 0) (.int 0) (.int 0) (.int 0) (.int 0) (.int 0) (.int 0) (.int 0) 1) kV_PinchedBillModel_242 0 rfl rfl rfl rfl hl.1 rfl (nle rfl) d_X9_winter_19 ⟨by decide, by decide, by decide, by decide⟩) (fun r_8 w_9 H locs hw_7 hP hD hS => ?_)
  obtain ⟨rfl, rfl⟩ := hw_7
  have hP : va_P D vwCl [(k0, eI (ty 0) 1875 knF), (k21, eI (ty 0) 1000 (fun _ => 0)), (h0, eO 9 [.ref k0, .ref k1, .ref k2, .ref k3, .int 1, .ref k5, .int 0, .int 0, .int 0, .int 0, .int 0, .int 0, .int 0, .int 0, .int 0, .int (-1), .int 0, .int 0, .int 0, .ref k19, .ref k20, .ref k21, .ref k22, .ref k23, .int 0, .ref k25, .ref k26, .ref k27, .int 0, .int 0, .ref k30, .ref k31, .int 0, .ref k33, .int 0, .int 0, .ref k36, .ref k37, .ref k38, .ref k39])] H := hP
  have hD : va_D A [(k0, eI (ty 0) 1875 knF), (k21, eI (ty 0) 1000 (fun _ => 0)), (h0, eO 9 [.ref k0, .ref k1, .ref k2, .ref k3, .int 1, .ref k5, .int 0, .int 0, .int 0, .int 0, .int 0, .int 0, .int 0, .int 0, .int 0, .int (-1), .int 0, .int 0, .int 0, .ref k19, .ref k20, .ref k21, .ref k22, .ref k23, .int 0, .ref k25, .ref k26, .ref k27, .int 0, .int 0, .ref k30, .ref k31, .int 0, .ref k33, .int 0, .int 0, .ref k36, .ref k37, .ref k38, .ref k39])] := hD
  exact ret_I (w := [(h0, eO 9 [.ref k0, .ref k1, .ref k2, .ref k3, .int 1, .ref k5, .int 0, .int 0, .int 0, .int 0, .int 0, .int 0, .int 0, .int 0, .int 0, .int (-1), .int 0, .int 0, .int 0, .ref k19, .ref k20, .ref k21, .ref k22, .ref k23, .int 0, .ref k25, .ref k26, .ref k27, .int 0, .int 0, .ref k30, .ref k31, .int 0, .ref k33, .int 0, .int 0, .ref k36, .ref k37, .ref k38, .ref k39])]) C hP hD hS [2] rfl rfl ⟨(.int 0), (.int 0), (.int 0), (.int 0), (.int 0), (.int 0), (.int 0), (.int 0), (.int 0), (.int (-1)), (.int 0), (.int 0), (.int 0), (.int 0), (.int 0), (.int 0), (.int 0), (.int 0), (.int 0), rfl, rfl⟩ (by decide) (by decide) d_X9_winter_22
